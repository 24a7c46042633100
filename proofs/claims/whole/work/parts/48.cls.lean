-- the class's cells, what they hold; Resolver.stateOf
def RW (B b : Nat) : Nat → Prop := fun a => (a = B + 4 ∨ a = B + 5 ∨ B + 81 ≤ a) ∧ a < b
abbrev cRF (B : Nat) : AE := .inr (0, [.inr (.inr (some (B + 1))), .inr (.inr (some (B + 3))), .inr (.inr (some (B + 22)))])
abbrev cSa (f : Nat → Option Nat) : AE := .inl (4, 4, .inr (.inr f))
-- events that stand right
def EOK (N : Nat) (E : EL) : Prop := N ≤ 400 ∧ WE N E ∧ PW N E ∧ CX N E ∧ OL N E ∧ ∀ n, n < N → sOK n E (e_bf (E n))
theorem pl_rng {x : ED} (wf : wfE x) : -1 ≤ e_pl x ∧ e_pl x < 23 := by
  obtain ⟨-, h1, h2, h3, -⟩ := wf
  unfold e_pl m_pl
  repeat (first | omega | split)
theorem EOK.bh1 {N : Nat} {E : EL} (q : EOK N E) {n : Nat} (hn : n < N) : sOK (n + 1) E (e_bh E n) := by
  obtain ⟨-, hW, -, -, -, hB⟩ := q
  have h1 := hB n hn
  have h2 := pl_rng (hW n hn)
  constructor
  · intro p hp
    unfold e_bh
    split
    · rename_i z
      right
      refine ⟨by omega, by omega, ?_⟩
      rw [Int.toNat_natCast]
      exact z.2.symm
    · rcases h1.1 p hp with z | ⟨z1, z2, z3⟩
      · exact Or.inl z
      · exact Or.inr ⟨z1, by omega, z3⟩
  · intro p hp
    unfold e_bh
    rw [if_neg (by omega)]
    exact h1.2 p hp
theorem EOK.bw {N : Nat} {E : EL} (q : EOK N E) : BW N E := fun n hn => sOK_mono (q.bh1 hn) (by omega)
-- a server's sets that stand right
def SOK (N : Nat) (E : EL) (V : SV) : Prop := (∀ y, V.1 y = true → y < N) ∧ (∀ y, V.2.1 y = true → y < N) ∧ (∀ y, V.2.1 y = true → v_par E y V.1 = false) ∧ (∀ y, V.1 y = true → ∀ p ∈ e_pa (E y), V.1 p = true) ∧ V.2.2 = m_head N E V.1
def cls (h : AH) (B N : Nat) (E : EL) (V : Nat → SV) (ad : Nat → Nat) : Prop := h.2.2 B = some (cRF B) ∧ lgR h (B + 1) (B + 2) N ad ∧ rsX h (B + 3) ∧ stF h (RW B h.1) ad (B + 4) s_none ∧ (∃ f, h.2.2 (B + 22) = some (cSa f) ∧ ∀ s, s < 4 → f s = some (B + 23 + 7 * s)) ∧ (∀ s, s < 4 → ∃ nw, svV h (B + 23 + 7 * s) (V s) nw ∧ ∀ x, nw = some x → stF h (RW B h.1) ad x (m_state N E (V s).1)) ∧ LG h (RW B h.1) ad N E ∧ hOK h ∧ B + 81 ≤ h.1
-- what a call of the class leaves as it was
def clf (B : Nat) (h h' : AH) : Prop := h.1 ≤ h'.1 ∧ ∀ a, a < h.1 → ¬ (B ≤ a ∧ a < B + 51) → h'.2.2 a = h.2.2 a
theorem clf.rf {B : Nat} {h : AH} : clf B h h := ⟨Nat.le_refl _, fun _ _ _ => rfl⟩
theorem clf.tr {B : Nat} {h h1 h2 : AH} (p : clf B h h1) (q : clf B h1 h2) : clf B h h2 := ⟨Nat.le_trans p.1 q.1, fun a ha hn => (q.2 a (Nat.lt_of_lt_of_le ha p.1) hn).trans (p.2 a ha hn)⟩
theorem LG.mono {h : AH} {R R' : Nat → Prop} {ad : Nat → Nat} {N : Nat} {E : EL} (q : LG h R ad N E) (hR : ∀ a, R a → R' a) : LG h R' ad N E := by
  intro n hn
  obtain ⟨rv, c, pa, gr, lv, er, bh, q1, ⟨w, g, ⟨r1, r2⟩, c1⟩, ⟨pf, r3, p1⟩, ⟨l1, l2⟩, q5, q6, q7⟩ := q n hn
  refine ⟨hR _ rv, c, pa, gr, lv, er, bh, q1, ⟨w, g, ⟨hR _ r1, hR _ r2⟩, c1⟩, ⟨pf, hR _ r3, p1⟩, ⟨fun k => ?_, l2⟩, q5.mono hR, q6.mono hR, q7.mono hR⟩
  obtain ⟨la, fl, r4, l3⟩ := l1 k
  exact ⟨la, fl, hR _ r4, l3⟩
theorem RW.up {B b b' : Nat} (hb : b ≤ b') (a : Nat) (h : RW B b a) : RW B b' a := ⟨h.1, Nat.lt_of_lt_of_le h.2 hb⟩
theorem RW.nz {B b : Nat} : rsN (RW B b) (B + 3) := by
  intro i h1 h2 h3 h4
  have := h4.1
  omega
theorem RW.ns {B b s : Nat} (hs : s < 4) : ∀ a, B + 23 + 7 * s ≤ a → a < B + 23 + 7 * s + 7 → ¬ RW B b a := by
  intro a h1 h2 h3
  have := h3.1
  omega
theorem stF.none {h : AH} {R : Nat → Prop} {ad ad' : Nat → Nat} {s : Nat} (q : stF h R ad s s_none) : stF h R ad' s s_none := by
  obtain ⟨p, f, r, a, b, c⟩ := q
  exact ⟨p, f, r, a, b, fun i hi => (c i hi).trans rfl⟩
theorem svV.cg {h h' : AH} {S : Nat} {V : SV} {nw : Option Nat} (q : svV h S V nw) (e : ∀ i, i < 7 → h'.2.2 (S + i) = h.2.2 (S + i)) : svV h' S V nw := by
  obtain ⟨gk, gh, gd, ⟨a0, a1, a2, a3, a4, a5, a6⟩, b⟩ := q
  exact ⟨gk, gh, gd, ⟨(e 0 (by omega)).trans a0, (e 1 (by omega)).trans a1, (e 2 (by omega)).trans a2, (e 3 (by omega)).trans a3, (e 4 (by omega)).trans a4, (e 5 (by omega)).trans a5, (e 6 (by omega)).trans a6⟩, b⟩
theorem lgR.cg {h h' : AH} {lo m N : Nat} {ad : Nat → Nat} (q : lgR h lo m N ad) (e1 : h'.2.2 lo = h.2.2 lo) (e2 : h'.2.2 m = h.2.2 m) : lgR h' lo m N ad := by
  obtain ⟨a, mf, b, c⟩ := q
  exact ⟨e1.trans a, mf, e2.trans b, c⟩
theorem cls.upd {h h' : AH} {B N N' : Nat} {E E' : EL} {V V' : Nat → SV} {ad ad' : Nat → Nat} (q : cls h B N E V ad) (hle : h.1 ≤ h'.1) (hk : hOK h') (fr : fz (RW B h.1) h h') (f0 : h'.2.2 B = h.2.2 B) (f22 : h'.2.2 (B + 22) = h.2.2 (B + 22)) (lg : lgR h' (B + 1) (B + 2) N' ad') (rs : rsX h' (B + 3)) (sv : ∀ s, s < 4 → ∃ nw, svV h' (B + 23 + 7 * s) (V' s) nw ∧ ∀ x, nw = some x → stF h' (RW B h'.1) ad' x (m_state N' E' (V' s).1)) (lgE : LG h' (RW B h'.1) ad' N' E') : cls h' B N' E' V' ad' := by
  obtain ⟨q1, q2, q3, q4, ⟨f, q5, q6⟩, q7, q8, q9, q10⟩ := q
  exact ⟨f0.trans q1, lg, rs, ((q4.fz fr).mono (RW.up hle)).none, ⟨f, f22.trans q5, q6⟩, sv, lgE, hk, by omega⟩
theorem v_up_filter {dh : Nat → Bool} {n : Nat} : v_up dh n = (List.range n).filter dh := by
  induction n with
  | zero => rfl
  | succ n ih =>
    rw [List.range_succ, List.filter_append, ← ih]
    simp only [v_up]
    cases hd : dh n <;> simp [hd]
-- rows of the resolver changed, cells were made
theorem clf_rz {B b : Nat} {h h' : AH} (hle : h.1 ≤ h'.1) (hb : h.1 ≤ b) (q : rzb (B + 3) b h h') : clf B h h' := ⟨hle, fun a ha hn => q a (by omega) (by omega)⟩
theorem cls.rz {h h' : AH} {B N : Nat} {E : EL} {V : Nat → SV} {ad : Nat → Nat} (q : cls h B N E V ad) (hle : h.1 ≤ h'.1) (hk : hOK h') (fr : rzb (B + 3) h.1 h h') (rs : rsX h' (B + 3)) : cls h' B N E V ad := by
  have hf : fz (RW B h.1) h h' := fr.fz RW.nz (fun a ha => ha.2)
  have h10 := q.2.2.2.2.2.2.2.2
  refine q.upd hle hk hf (fr _ (by omega) (by omega)) (fr _ (by omega) (by omega)) (q.2.1.cg (fr _ (by omega) (by omega)) (fr _ (by omega) (by omega))) rs (fun s hs => ?_) ((q.2.2.2.2.2.2.1.fz hf).mono (RW.up hle))
  obtain ⟨nw, a, b⟩ := q.2.2.2.2.2.1 s hs
  exact ⟨nw, a.cg (fun i hi => fr _ (by omega) (by omega)), fun x hx => ((b x hx).fz hf).mono (RW.up hle)⟩
-- a server's cells changed
theorem cls.sv {h h' : AH} {B N : Nat} {E : EL} {V V' : Nat → SV} {ad : Nat → Nat} (q : cls h B N E V ad) {s : Nat} (hs : s < 4) (sm_ : sm (B + 23 + 7 * s) 7 h h') {nw : Option Nat} (a : svV h' (B + 23 + 7 * s) (V' s) nw) (b : ∀ x, nw = some x → stF h' (RW B h.1) ad x (m_state N E (V' s).1)) (hV : ∀ t, t < 4 → t ≠ s → V' t = V t) : cls h' B N E V' ad := by
  have hf : fz (RW B h.1) h h' := sm_.fz (RW.ns hs)
  have h10 := q.2.2.2.2.2.2.2.2
  have h11 : h'.1 = h.1 := sm_.1
  have hk : hOK h' := by
    intro x e hx
    by_cases hz : B + 23 + 7 * s ≤ x ∧ x < B + 23 + 7 * s + 7
    · omega
    · rw [sm_.2.2 x hz] at hx
      have := q.2.2.2.2.2.2.2.1 x e hx
      omega
  have fr : ∀ x, ¬ (B + 23 + 7 * s ≤ x ∧ x < B + 23 + 7 * s + 7) → h'.2.2 x = h.2.2 x := sm_.2.2
  obtain ⟨fa, ft, gc, gs, gx, gp, tp, ls, qu, rk, q3⟩ := q.2.2.1
  refine q.upd (by omega) hk hf (fr _ (by omega)) (fr _ (by omega)) (q.2.1.cg (fr _ (by omega)) (fr _ (by omega))) ⟨_, _, _, _, _, _, _, _, _, _, q3.cg (fun i hi => fr _ (by omega))⟩ (fun t ht => ?_) ((q.2.2.2.2.2.2.1.fz hf).mono (RW.up (by omega)))
  by_cases hts : t = s
  · subst hts
    exact ⟨nw, a, fun x hx => (b x hx).mono (RW.up (by omega))⟩
  · obtain ⟨nw', a', b'⟩ := q.2.2.2.2.2.1 t ht
    rw [hV t ht hts]
    exact ⟨nw', a'.cg (fun i hi => fr _ (by omega)), fun x hx => ((b' x hx).fz hf).mono (RW.up (by omega))⟩
theorem clf_sm {B s : Nat} {h h' : AH} (hs : s < 4) (q : sm (B + 23 + 7 * s) 7 h h') : clf B h h' := ⟨by rw [q.1]; exact Nat.le_refl _, fun a ha hn => q.2.2 a (by omega)⟩
-- few cells were made
def few (k n : Nat) (h h' : AH) : Prop := h'.1 ≤ h.1 + k ∧ h'.2.1 ≤ h.2.1 + n
theorem few.tr {k n k' n' : Nat} {h h1 h2 : AH} (p : few k n h h1) (q : few k' n' h1 h2) : few (k + k') (n + n') h h2 := by
  obtain ⟨a, b⟩ := p
  obtain ⟨c, d⟩ := q
  exact ⟨by omega, by omega⟩
theorem few.rf {k n : Nat} {h : AH} : few k n h h := ⟨by omega, by omega⟩
theorem q1_sub {N : Nat} {E : EL} (hN : N ≤ 400) : ∀ (n : Nat) (pw : Nat → Bool), ∀ y ∈ r_q1 N E n pw, pw y = true := by
  intro n
  induction n with
  | zero => intro pw y hy; simp [r_q1] at hy
  | succ n ih =>
    intro pw y hy
    simp only [r_q1] at hy
    cases hb : r_best1 N E pw N with
    | none => rw [hb] at hy; simp at hy
    | some e =>
      rw [hb] at hy
      rcases List.mem_cons.1 hy with rfl | hy
      · exact (best1_some hN hb).2.1
      · exact (f_off_iff.1 (ih _ y hy)).2
theorem fold_ok {N : Nat} {E : EL} (hW : WE N E) : ∀ (Q : List Nat) (s : SS), sOK N E s → (∀ n ∈ Q, n < N ∧ ¬ e_kd (E n) = 5) → sOK N E (Q.foldl (r_try E) s) := by
  intro Q
  induction Q with
  | nil => intro s hs _; exact hs
  | cons x r ih =>
    intro s hs hQ
    rw [List.foldl_cons]
    obtain ⟨a, b⟩ := hQ x List.mem_cons_self
    exact ih _ (try_ok hs a hW b) (fun n hn => hQ n (List.mem_cons_of_mem _ hn))
theorem ord2_ok {N : Nat} {E : EL} {ml : List Nat} (hN : N ≤ 400) (hW : WE N E) : ∀ (n : Nat) (cf : Nat → Bool) (s : SS), sOK N E s → (∀ y, cf y = true → y < N ∧ ¬ e_kd (E y) = 5) → sOK N E (r_ord2 N E ml n cf s) := by
  intro n
  induction n with
  | zero => intro cf s hs _; exact hs
  | succ n ih =>
    intro cf s hs hc
    simp only [r_ord2]
    cases hb : r_best2 E ml cf N with
    | none => exact hs
    | some e =>
      obtain ⟨a, b⟩ := hc e (best2_some hN hb).2.1
      exact ih _ _ (try_ok hs a hW b) (fun y hy => hc y (f_off_iff.1 hy).2)
theorem res_ok {N : Nat} {E : EL} (hE : EOK N E) {L : List Nat} (hl : ∀ n ∈ L, n < N) : sOK N E (r_res N E L) := by
  have hB := hE.bw
  obtain ⟨hN, hW, hP, hC, hO, hBf⟩ := id hE
  unfold r_res
  split
  · exact agr_ok hB hl
  · have h1 : sOK N E (r_ord1 N E N (r_pow N E (r_conf E L)) (r_conf E L) (r_agr E L)).2 := by
      rw [ord1_fold]
      exact fold_ok hW _ _ (agr_ok hB hl) (fun n hn => conf_ok hB hC hl (pow_ok (q1_sub hN _ _ n hn)))
    have h2 : ∀ y, (r_ord1 N E N (r_pow N E (r_conf E L)) (r_conf E L) (r_agr E L)).1 y = true → y < N ∧ ¬ e_kd (E y) = 5 := by
      intro y hy
      rw [ord1_fold] at hy
      simp only [Bool.and_eq_true] at hy
      exact conf_ok hB hC hl hy.1
    exact over_ok (agr_ok hB hl) (ord2_ok hN hW N _ _ h1 h2)
set_option maxHeartbeats 4000000 in
theorem c_stateOf {h : AH} {B N : Nat} {E : EL} {V : Nat → SV} {ad : Nat → Nat} (q : cls h B N E V ad) (hE : EOK N E) {s : Nat} (hs : s < 4) (hS : SOK N E (V s)) : ∃ x h', Em mResolver_stateOf 0 [vR (B + 3), vR (B + 23 + 7 * s), vR (B + 1)] h (some (vR x)) h' ∧ cls h' B N E V ad ∧ clf B h h' ∧ few 2 24 h h' ∧ stF h' (RW B h'.1) ad x (m_state N E (V s).1) ∧ sOK N E (m_state N E (V s).1) := by
  have q0 := q
  obtain ⟨q1, q2, ⟨fa, ft, gc, gs, gx, gp, tp, ls, qu, rk, q3⟩, q4, q5, q7, q8, q9, q10⟩ := q
  obtain ⟨nw, hv, hnw⟩ := q7 s hs
  obtain ⟨hN, hW, hP, hC, hO, hBf⟩ := id hE
  have hms : m_state N E (V s).1 = r_res N E (v_up (V s).2.2 N) := by
    unfold m_state m_heads
    rw [v_up_filter, hS.2.2.2.2]
  have hok : sOK N E (m_state N E (V s).1) ∧ ∃ gk gh gd, svR h (B + 23 + 7 * s) gk gh gd nw ∧ bS gk = (V s).1 ∧ bS gh = (V s).2.1 ∧ bS gd = (V s).2.2 := ⟨?_, hv⟩
  · obtain ⟨hok, gk, gh, gd, hsv, e1, e2, e3⟩ := hok
    cases nw with
    | some x =>
      refine ⟨x, h, ?_, q0, clf.rf, few.rf, hnw x rfl, hok⟩
      show Ev tResolver_stateOf 0 [some (vR (B + 3)), some (vR (B + 23 + 7 * s)), some (vR (B + 1))] [] h _
      iterate 1 (refine ev_st rfl rfl ?_)
      refine ev_getf rfl hsv.1 (by rfl) ?_
      iterate 2 (refine ev_st rfl rfl ?_)
      refine ev_getf rfl hsv.1 (by rfl) ?_
      exact ev_rt rfl rfl rfl
    | none =>
      obtain ⟨f1, hf1, c1⟩ := c_listHeads (rw_ := B + 3 + 15) hN (fun i hi => by omega) (by omega) (by omega) (RW.nz 15 (by omega) (by omega) (by omega)) hsv q2 q8 q3.c15
      rw [e3] at hf1 c1
      have qq1 := q3.u_tp (z := f1)
      have z1 := rz_put (Z := B + 3) (h := h) (i := 15) (e := cEa 400 f1) (by omega) (by omega) (by omega)
      have hz1 : fz (RW B h.1) h (ah_put h (B + 3 + 15) (cEa 400 f1)) := rz_fz z1 RW.nz
      have hK1 := hOK_rz q9 (by omega) z1
      have hll := v_up_len (V s).2.2 N
      have hlc := b_cnt_le (V s).2.2 N
      obtain ⟨x, h2, c2, q2', st2, ok2, bd2, k2, z2⟩ := c_resolve (ra := B + 3 + 15) (len := 400) (L := v_up (V s).2.2 N) hN (RW.nz (B := B) (b := h.1)) hW hP hC hO hE.bw (by omega) (by omega) hK1 (fun a ha => ha.2) (fun n hn => (v_up_mem.1 hn).1) (by omega) (Nat.le_refl _) hf1 (by omega) ⟨_, _, _, _, _, _, _, _, _, _, qq1⟩ ah_eq (lgR_rz q2 z1 (by omega) (by omega)) (q8.fz hz1) (q4.fz hz1)
      have hle : h.1 ≤ h2.1 := bd2.1
      have zz : rzb (B + 3) h.1 h h2 := z1.b.tr z2
      have cl2 := q0.rz hle k2 zz q2'
      have st3 : stF h2 (RW B h2.1) ad x (m_state N E (V s).1) := by
        rw [hms]
        refine st2.mono (fun a ha => ?_)
        rcases ha with ha | ⟨ha1, ha2⟩
        · exact RW.up hle _ ha
        · exact ⟨by
            have : h.1 ≤ a := ha1
            omega, ha2⟩
      have hsv2 : svR h2 (B + 23 + 7 * s) gk gh gd none := by
        have e : ∀ i, i < 7 → h2.2.2 (B + 23 + 7 * s + i) = h.2.2 (B + 23 + 7 * s + i) := fun i hi => zz _ (by omega) (by omega)
        obtain ⟨a0, a1, a2, a3, a4, a5, a6⟩ := hsv
        exact ⟨(e 0 (by omega)).trans a0, (e 1 (by omega)).trans a1, (e 2 (by omega)).trans a2, (e 3 (by omega)).trans a3, (e 4 (by omega)).trans a4, (e 5 (by omega)).trans a5, (e 6 (by omega)).trans a6⟩
      have hsv3 := hsv2.n (nw' := some x)
      have sm3 : sm (B + 23 + 7 * s) 7 h2 (ah_put h2 (B + 23 + 7 * s) (cSv (B + 23 + 7 * s + 1) (B + 23 + 7 * s + 3) (B + 23 + 7 * s + 5) (some x))) := sm.put (by omega) (by omega)
      have fz3 := sm3.fz (RW.ns (b := h2.1) hs)
      have cl3 := cl2.sv (V' := V) hs sm3 ⟨gk, gh, gd, hsv3, e1, e2, e3⟩ (fun y hy => by
        cases hy
        exact st3.fz fz3) (fun _ _ _ => rfl)
      refine ⟨x, _, ?_, cl3, (clf_rz hle (Nat.le_refl _) zz).tr (clf_sm hs sm3), ?_, st3.fz fz3, hok⟩
      · show Ev tResolver_stateOf 0 [some (vR (B + 3)), some (vR (B + 23 + 7 * s)), some (vR (B + 1))] [] h _
        clear hf1 st2 st3 zz z2 fz3
        iterate 1 (refine ev_st rfl rfl ?_)
        refine ev_getf rfl hsv.1 (by rfl) ?_
        iterate 4 (refine ev_st rfl rfl ?_)
        refine ev_getf rfl q3.c0 (by rfl) ?_
        iterate 2 (refine ev_st rfl rfl ?_)
        refine ev_getf rfl q3.c0 (by rfl) ?_
        iterate 1 (refine ev_st rfl rfl ?_)
        refine ev_callV rfl rfl hsv.1 rfl c1 ?_
        iterate 1 (refine ev_st rfl rfl ?_)
        refine ev_callV rfl rfl qq1.c0 rfl c2 ?_
        refine ev_putf rfl hsv2.1 (Nat.le_of_ble_eq_true rfl) rfl ?_
        iterate 1 (refine ev_st rfl rfl ?_)
        refine ev_getf rfl ah_eq (by rfl) ?_
        exact ev_rt rfl rfl rfl
      · obtain ⟨-, b1, -, b2⟩ := bd2
        exact ⟨b1, b2⟩
  · rw [hms]
    exact res_ok hE (fun n hn => (v_up_mem.1 hn).1)
