-- Server: release, receive
abbrev SV : Type := (Nat → Bool) × (Nat → Bool) × (Nat → Bool)
def v_par (E : EL) (n : Nat) (kn : Nat → Bool) : Bool := b_all (e_pa (E n)).length (fun i => kn ((e_pa (E n)).getD i 0))
def v_learn (E : EL) (n : Nat) (V : SV) : SV := (f_on V.1 n, V.2.1, fun y => decide (y = n) || (V.2.2 y && !(e_pa (E n)).contains y))
def v_rel1 (E : EL) (n : Nat) (T : SV × Nat) : SV × Nat := bif T.1.2.1 n && v_par E n T.1.1 then (v_learn E n (T.1.1, f_off T.1.2.1 n, T.1.2.2), T.2 + 1) else T
def v_rel (E : EL) : Nat → Nat → SV × Nat → SV × Nat
  | 0, _, T => T
  | k + 1, n, T => v_rel E k (n + 1) (v_rel1 E n T)
def v_learns (E : EL) (n : Nat) (V : SV) : Bool := !V.1 n && (!V.2.1 n && v_par E n V.1)
def v_recv (E : EL) (N n : Nat) (V : SV) : SV × Int :=
  if V.1 n = true then (V, -5) else if V.2.1 n = true then (V, -6)
  else if v_par E n V.1 = true then ((v_rel E (N - (n + 1)) (n + 1) (v_learn E n V, 0)).1, 1 + ((v_rel E (N - (n + 1)) (n + 1) (v_learn E n V, 0)).2 : Int))
  else if 32 ≤ b_cnt 448 V.2.1 then (V, -3) else ((V.1, f_on V.2.1 n, V.2.2), -6)
def svV (h : AH) (S : Nat) (V : SV) (nw : Option Nat) : Prop := ∃ gk gh gd, svR h S gk gh gd nw ∧ bS gk = V.1 ∧ bS gh = V.2.1 ∧ bS gd = V.2.2
-- the log's cells
def lgR (h : AH) (lo m N : Nat) (ad : Nat → Nat) : Prop := h.2.2 lo = some (cLog m N) ∧ ∃ mf, h.2.2 m = some (cEa 400 mf) ∧ ∀ n, n < N → mf n = some (ad n)
theorem lgR.sm {h h' : AH} {lo m N S k : Nat} {ad : Nat → Nat} (q : lgR h lo m N ad) (s : sm S k h h') (h1 : ¬ (S ≤ lo ∧ lo < S + k)) (h2 : ¬ (S ≤ m ∧ m < S + k)) : lgR h' lo m N ad := by
  obtain ⟨a, mf, b, c⟩ := q
  exact ⟨(s.2.2 _ h1).trans a, mf, (s.2.2 _ h2).trans b, c⟩
theorem c_find {h : AH} {lo m N : Nat} {ad : Nat → Nat} (q : lgR h lo m N ad) (hN : N ≤ 400) {n : Nat} (hn : n < N) : Em mLog_find 0 [vR lo, .inl (n : Int)] h (some (vR (ad n))) h := by
  obtain ⟨a, mf, b, c⟩ := q
  have := c_lfindN a b hN hn
  rw [c n hn] at this
  exact this
theorem v_rel1_f {E : EL} {n : Nat} {T : SV × Nat} (h : (T.1.2.1 n && v_par E n T.1.1) = false) : v_rel1 E n T = T := by unfold v_rel1; rw [h]; rfl
theorem v_rel1_t {E : EL} {n : Nat} {T : SV × Nat} (h : (T.1.2.1 n && v_par E n T.1.1) = true) : v_rel1 E n T = (v_learn E n (T.1.1, f_off T.1.2.1 n, T.1.2.2), T.2 + 1) := by unfold v_rel1; rw [h]; rfl
set_option maxHeartbeats 4000000 in
theorem l_release {R : Nat → Prop} {ad : Nat → Nat} {N : Nat} {E : EL} {S lo m : Nat} (hN : N ≤ 400) (hP : PW N E) (hR : ∀ a, S ≤ a → a < S + 7 → ¬ R a) (n1 : ¬ (S ≤ lo ∧ lo < S + 7)) (n2 : ¬ (S ≤ m ∧ m < S + 7)) {j1 : Option AV} : ∀ (k i : Nat) (h : AH) (T : SV × Nat) (j5 : Option AV), i + k = N → svV h S T.1 none → LG h R ad N E → lgR h lo m N ad → ∃ h', svV h' S (v_rel E k i T).1 none ∧ sm S 7 h h' ∧ Ev tServer_release 7 [some (vR S), j1, some (vR lo), some (.inl (T.2 : Int)), some (.inl (i : Int)), j5] [] h (some (.inl ((v_rel E k i T).2 : Int)), h') := by
  intro k
  induction k with
  | zero =>
    intro i h T j5 hi hV hL hG
    obtain rfl : i = N := by omega
    refine ⟨h, hV, sm.rf, ?_⟩
    simp only [v_rel]
    repeat (refine ev_st rfl rfl ?_)
    refine ev_callV rfl rfl hG.1 rfl (c_lsize hG.1) ?_
    refine ev_icT rfl (by simp only [ick, w32]; omega) ?_
    repeat (refine ev_st rfl rfl ?_)
    exact ev_rt rfl rfl rfl
  | succ k ih =>
    intro i h T j5 hi hV hL hG
    have hV0 := hV
    obtain ⟨gk, gh, gd, q, e1, e2, e3⟩ := hV
    have q0 := q
    obtain ⟨q1, q2, q3, q4, q5, q6, q7⟩ := q
    have ch := c_hasN q4 q5 (n := i) (by omega)
    have cf := c_find hG hN (n := i) (by omega)
    have hc : Ev tServer_release 7 [some (vR S), j1, some (vR lo), some (.inl (T.2 : Int)), some (.inl (i : Int)), j5] [] h = Ev tServer_release 7 [some (vR S), j1, some (vR lo), some (.inl (T.2 : Int)), some (.inl (i : Int)), j5] [] h := rfl
    rw [e2] at ch
    obtain ⟨c2, pa2, gr2, sl2, lv2, er2, bh2, gd2, pf2, hc2, -⟩ := hL.par (n := i) (by omega)
    simp only [v_rel]
    cases hh : T.1.2.1 i with
    | false =>
      rw [v_rel1_f (by rw [hh]; rfl)]
      obtain ⟨h', s1, s2, ih⟩ := ih (i + 1) h T (some (.inr (.inr none))) (by omega) hV0 hL hG
      refine ⟨h', s1, s2, ?_⟩
      rw [hh] at ch
      repeat (refine ev_st rfl rfl ?_)
      refine ev_callV rfl rfl hG.1 rfl (c_lsize hG.1) ?_
      refine ev_icF rfl (by simp only [ick, w32]; omega) ?_
      repeat (first | refine ev_st rfl rfl ?_ | refine ev_getf rfl (by first | assumption | exact ah_eq | (refine ah_ne (by omega) ?_; first | assumption | exact ah_eq | (refine ah_ne (by omega) ?_; first | assumption | exact ah_eq | (refine ah_ne (by omega) ?_; first | assumption | exact ah_eq)))) (by rfl) ?_)
      refine ev_callV rfl rfl q4 rfl ch ?_
      refine ev_zeqT rfl rfl ?_
      iterate 6 (refine ev_st rfl rfl ?_)
      rw [nat_1]
      exact ih
    | true =>
      rw [hh] at ch
      have cp := c_kpar q0 hL hN hP (n := i) (by omega)
      have ep : b_all (e_pa (E i)).length (fun j => bS gk ((e_pa (E i)).getD j 0)) = v_par E i T.1.1 := by unfold v_par; rw [e1]
      rw [ep] at cp
      cases hp : v_par E i T.1.1 with
      | false =>
        rw [v_rel1_f (by rw [hp]; simp)]
        obtain ⟨h', s1, s2, ih⟩ := ih (i + 1) h T (some (vR (ad i))) (by omega) hV0 hL hG
        refine ⟨h', s1, s2, ?_⟩
        rw [hp] at cp
        repeat (refine ev_st rfl rfl ?_)
        refine ev_callV rfl rfl hG.1 rfl (c_lsize hG.1) ?_
        refine ev_icF rfl (by simp only [ick, w32]; omega) ?_
        repeat (first | refine ev_st rfl rfl ?_ | refine ev_getf rfl (by first | assumption | exact ah_eq | (refine ah_ne (by omega) ?_; first | assumption | exact ah_eq | (refine ah_ne (by omega) ?_; first | assumption | exact ah_eq | (refine ah_ne (by omega) ?_; first | assumption | exact ah_eq)))) (by rfl) ?_)
        refine ev_callV rfl rfl q4 rfl ch ?_
        refine ev_zeqF rfl rfl ?_
        iterate 2 (refine ev_st rfl rfl ?_)
        refine ev_callV rfl rfl hG.1 rfl cf ?_
        iterate 6 (refine ev_st rfl rfl ?_)
        refine ev_callV rfl rfl q1 rfl cp ?_
        refine ev_zeqT rfl rfl ?_
        iterate 2 (refine ev_st rfl rfl ?_)
        rw [nat_1]
        exact ih
      | true =>
        rw [v_rel1_t (by rw [hh, hp]; rfl)]
        rw [hp] at cp
        obtain ⟨gh', cr, hgh⟩ := c_remove q4 q5 (n := i) (by omega)
        have hL1 : LG (ah_put h (S + 4) (cLng gh')) R ad N E := hL.fz ((sm.put (by omega) (by omega)).fz hR)
        obtain ⟨h2, gk2, gd2', cl, r1, r2, r3, r4⟩ := c_learn (q0.h (g' := gh')) hL1 hN hP hR (n := i) (by omega)
        have sm2 : sm S 7 h h2 := (sm.put (by omega) (by omega)).tr r2
        obtain ⟨h', s1, s2, ih⟩ := ih (i + 1) h2 (v_learn E i (T.1.1, f_off T.1.2.1 i, T.1.2.2), T.2 + 1) (some (vR (ad i))) (by omega) ⟨gk2, gh', gd2', r1, by rw [r3, e1]; rfl, by rw [hgh, e2]; rfl, by funext y; rw [r4 y, e3]; rfl⟩ (hL.fz (sm2.fz hR)) (hG.sm sm2 n1 n2)
        refine ⟨h', s1, sm2.tr s2, ?_⟩
        repeat (refine ev_st rfl rfl ?_)
        refine ev_callV rfl rfl hG.1 rfl (c_lsize hG.1) ?_
        refine ev_icF rfl (by simp only [ick, w32]; omega) ?_
        repeat (first | refine ev_st rfl rfl ?_ | refine ev_getf rfl (by first | assumption | exact ah_eq | (refine ah_ne (by omega) ?_; first | assumption | exact ah_eq | (refine ah_ne (by omega) ?_; first | assumption | exact ah_eq | (refine ah_ne (by omega) ?_; first | assumption | exact ah_eq)))) (by rfl) ?_)
        refine ev_callV rfl rfl q4 rfl ch ?_
        refine ev_zeqF rfl rfl ?_
        iterate 2 (refine ev_st rfl rfl ?_)
        refine ev_callV rfl rfl hG.1 rfl cf ?_
        iterate 6 (refine ev_st rfl rfl ?_)
        refine ev_callV rfl rfl q1 rfl cp ?_
        refine ev_zeqF rfl rfl ?_
        repeat (first | refine ev_st rfl rfl ?_ | refine ev_getf rfl (by first | assumption | exact ah_eq | (refine ah_ne (by omega) ?_; first | assumption | exact ah_eq | (refine ah_ne (by omega) ?_; first | assumption | exact ah_eq | (refine ah_ne (by omega) ?_; first | assumption | exact ah_eq)))) (by rfl) ?_)
        refine ev_callV rfl rfl q4 rfl cr ?_
        iterate 2 (refine ev_st rfl rfl ?_)
        refine ev_callV rfl rfl (ah_ne (by omega) q1) rfl cl ?_
        iterate 3 (refine ev_st rfl rfl ?_)
        rw [nat_1, nat_1]
        exact ih
set_option maxHeartbeats 4000000 in
theorem c_receive {h : AH} {R : Nat → Prop} {ad : Nat → Nat} {N : Nat} {E : EL} {S lo m : Nat} {V : SV} {nw : Option Nat} (hV : svV h S V nw) (hL : LG h R ad N E) (hG : lgR h lo m N ad) (hN : N ≤ 400) (hP : PW N E) (hR : ∀ a, S ≤ a → a < S + 7 → ¬ R a) (n1 : ¬ (S ≤ lo ∧ lo < S + 7)) (n2 : ¬ (S ≤ m ∧ m < S + 7)) {n : Nat} (hn : n < N) (hb : ∀ y, 400 ≤ y → V.2.1 y = false) : ∃ h', Em mServer_receive 0 [vR S, vR (ad n), vR lo] h (some (.inl (v_recv E N n V).2)) h' ∧ svV h' S (v_recv E N n V).1 (bif v_learns E n V then none else nw) ∧ sm S 7 h h' := by
  have hV0 := hV
  obtain ⟨gk, gh, gd, q, e1, e2, e3⟩ := hV
  have q0 := q
  obtain ⟨q1, q2, q3, q4, q5, q6, q7⟩ := q
  obtain ⟨c2, pa2, gr2, sl2, lv2, er2, bh2, gd2, pf2, hc2, -⟩ := hL.par (n := n) hn
  have ck := c_hasN q2 q3 (n := n) (by omega)
  have ch := c_hasN q4 q5 (n := n) (by omega)
  rw [e1] at ck
  rw [e2] at ch
  unfold v_recv v_learns
  cases hk : V.1 n with
  | true =>
    rw [hk] at ck
    refine ⟨h, ?_, hV0, sm.rf⟩
    show Ev tServer_receive 0 [some (vR S), some (vR (ad n)), some (vR lo)] [] h _
    repeat (first | refine ev_st rfl rfl ?_ | refine ev_getf rfl (by first | assumption | exact ah_eq | (refine ah_ne (by omega) ?_; first | assumption | exact ah_eq | (refine ah_ne (by omega) ?_; first | assumption | exact ah_eq | (refine ah_ne (by omega) ?_; first | assumption | exact ah_eq)))) (by rfl) ?_)
    refine ev_callV rfl rfl q2 rfl ck ?_
    refine ev_zeqF rfl rfl ?_
    repeat (refine ev_st rfl rfl ?_)
    exact ev_rt rfl rfl rfl
  | false =>
    rw [hk] at ck
    cases hh : V.2.1 n with
    | true =>
      rw [hh] at ch
      refine ⟨h, ?_, hV0, sm.rf⟩
      show Ev tServer_receive 0 [some (vR S), some (vR (ad n)), some (vR lo)] [] h _
      repeat (first | refine ev_st rfl rfl ?_ | refine ev_getf rfl (by first | assumption | exact ah_eq | (refine ah_ne (by omega) ?_; first | assumption | exact ah_eq | (refine ah_ne (by omega) ?_; first | assumption | exact ah_eq | (refine ah_ne (by omega) ?_; first | assumption | exact ah_eq)))) (by rfl) ?_)
      refine ev_callV rfl rfl q2 rfl ck ?_
      refine ev_zeqT rfl rfl ?_
      repeat (first | refine ev_st rfl rfl ?_ | refine ev_getf rfl (by first | assumption | exact ah_eq | (refine ah_ne (by omega) ?_; first | assumption | exact ah_eq | (refine ah_ne (by omega) ?_; first | assumption | exact ah_eq | (refine ah_ne (by omega) ?_; first | assumption | exact ah_eq)))) (by rfl) ?_)
      refine ev_callV rfl rfl q4 rfl ch ?_
      refine ev_zeqF rfl rfl ?_
      repeat (refine ev_st rfl rfl ?_)
      exact ev_rt rfl rfl rfl
    | false =>
      rw [hh] at ch
      have cp := c_kpar q0 hL hN hP hn
      have ep : b_all (e_pa (E n)).length (fun j => bS gk ((e_pa (E n)).getD j 0)) = v_par E n V.1 := by unfold v_par; rw [e1]
      rw [ep] at cp
      cases hp : v_par E n V.1 with
      | true =>
        rw [hp] at cp
        obtain ⟨h2, gk2, gd2', cl, r1, r2, r3, r4⟩ := c_learn q0 hL hN hP hR hn
        have hL2 := hL.fz (r2.fz hR)
        have hG2 := hG.sm r2 n1 n2
        obtain ⟨h', s1, s2, rel⟩ := l_release (j1 := some (.inl (n : Int))) hN hP hR n1 n2 (N - (n + 1)) (n + 1) h2 (v_learn E n V, 0) none (by omega) ⟨gk2, gh, gd2', r1, by rw [r3, e1]; rfl, e2, by funext y; rw [r4 y, e3]; rfl⟩ hL2 hG2
        obtain ⟨c3, pa3, gr3, sl3, lv3, er3, bh3, gd3, pf3, hc3, -⟩ := hL2.par (n := n) hn
        refine ⟨h', ?_, s1, r2.tr s2⟩
        show Ev tServer_receive 0 [some (vR S), some (vR (ad n)), some (vR lo)] [] h _
        repeat (first | refine ev_st rfl rfl ?_ | refine ev_getf rfl (by first | assumption | exact ah_eq | (refine ah_ne (by omega) ?_; first | assumption | exact ah_eq | (refine ah_ne (by omega) ?_; first | assumption | exact ah_eq | (refine ah_ne (by omega) ?_; first | assumption | exact ah_eq)))) (by rfl) ?_)
        refine ev_callV rfl rfl q2 rfl ck ?_
        refine ev_zeqT rfl rfl ?_
        repeat (first | refine ev_st rfl rfl ?_ | refine ev_getf rfl (by first | assumption | exact ah_eq | (refine ah_ne (by omega) ?_; first | assumption | exact ah_eq | (refine ah_ne (by omega) ?_; first | assumption | exact ah_eq | (refine ah_ne (by omega) ?_; first | assumption | exact ah_eq)))) (by rfl) ?_)
        refine ev_callV rfl rfl q4 rfl ch ?_
        refine ev_zeqT rfl rfl ?_
        repeat (refine ev_st rfl rfl ?_)
        refine ev_callV rfl rfl q1 rfl cp ?_
        refine ev_zeqF rfl rfl ?_
        repeat (refine ev_st rfl rfl ?_)
        refine ev_callV rfl rfl q1 rfl cl ?_
        iterate 3 (refine ev_st rfl rfl ?_)
        refine ev_getf rfl hc3 (by rfl) ?_
        iterate 1 (refine ev_st rfl rfl ?_)
        have crel : Em mServer_release 3 [vR S, .inl (n : Int), vR lo] h2 (some (.inl ((v_rel E (N - (n + 1)) (n + 1) (v_learn E n V, 0)).2 : Int))) h' := by
          show Ev tServer_release 0 [some (vR S), some (.inl (n : Int)), some (vR lo), none, none, none] [] h2 _
          iterate 6 (refine ev_st rfl rfl ?_)
          rw [nat_1]
          exact rel
        refine ev_callV rfl rfl r1.1 rfl crel ?_
        repeat (refine ev_st rfl rfl ?_)
        exact ev_rt rfl rfl rfl
      | false =>
        rw [hp] at cp
        have cs := c_ssize q4 q5
        rw [e2] at cs
        have pre : ∀ o, Ev tServer_receive 59 [some (vR S), some (vR (ad n)), some (vR lo)] [] h o → Ev tServer_receive 0 [some (vR S), some (vR (ad n)), some (vR lo)] [] h o := by
          intro o K
          repeat (first | refine ev_st rfl rfl ?_ | refine ev_getf rfl (by first | assumption | exact ah_eq | (refine ah_ne (by omega) ?_; first | assumption | exact ah_eq | (refine ah_ne (by omega) ?_; first | assumption | exact ah_eq | (refine ah_ne (by omega) ?_; first | assumption | exact ah_eq)))) (by rfl) ?_)
          refine ev_callV rfl rfl q2 rfl ck ?_
          refine ev_zeqT rfl rfl ?_
          repeat (first | refine ev_st rfl rfl ?_ | refine ev_getf rfl (by first | assumption | exact ah_eq | (refine ah_ne (by omega) ?_; first | assumption | exact ah_eq | (refine ah_ne (by omega) ?_; first | assumption | exact ah_eq | (refine ah_ne (by omega) ?_; first | assumption | exact ah_eq)))) (by rfl) ?_)
          refine ev_callV rfl rfl q4 rfl ch ?_
          refine ev_zeqT rfl rfl ?_
          repeat (refine ev_st rfl rfl ?_)
          refine ev_callV rfl rfl q1 rfl cp ?_
          refine ev_zeqT rfl rfl ?_
          exact K
        have hle : b_cnt 448 V.2.1 ≤ 448 := by
          have key : ∀ k (f : Nat → Bool), b_cnt k f ≤ k := by
            intro k f
            induction k with
            | zero => exact Nat.le_refl _
            | succ k ih => simp only [b_cnt]; cases f k <;> simp <;> omega
          exact key _ _
        by_cases h32 : 32 ≤ b_cnt 448 V.2.1
        · simp only [if_pos h32]
          refine ⟨h, ?_, hV0, sm.rf⟩
          refine pre _ ?_
          generalize b_cnt 448 V.2.1 = C at *
          repeat (first | refine ev_st rfl rfl ?_ | refine ev_getf rfl (by first | assumption | exact ah_eq | (refine ah_ne (by omega) ?_; first | assumption | exact ah_eq | (refine ah_ne (by omega) ?_; first | assumption | exact ah_eq | (refine ah_ne (by omega) ?_; first | assumption | exact ah_eq)))) (by rfl) ?_)
          refine ev_callV rfl rfl q4 rfl cs ?_
          repeat (refine ev_st rfl rfl ?_)
          refine ev_icF rfl (by simp only [ick, w32]; omega) ?_
          repeat (refine ev_st rfl rfl ?_)
          exact ev_rt rfl rfl rfl
        · simp only [if_neg h32]
          obtain ⟨gh', ca, hgh⟩ := c_add q4 q5 (n := n) (by omega)
          refine ⟨ah_put h (S + 4) (cLng gh'), ?_, ⟨gk, gh', gd, q0.h, e1, by rw [hgh, e2]; rfl, e3⟩, sm.put (by omega) (by omega)⟩
          refine pre _ ?_
          generalize b_cnt 448 V.2.1 = C at *
          repeat (first | refine ev_st rfl rfl ?_ | refine ev_getf rfl (by first | assumption | exact ah_eq | (refine ah_ne (by omega) ?_; first | assumption | exact ah_eq | (refine ah_ne (by omega) ?_; first | assumption | exact ah_eq | (refine ah_ne (by omega) ?_; first | assumption | exact ah_eq)))) (by rfl) ?_)
          refine ev_callV rfl rfl q4 rfl cs ?_
          repeat (refine ev_st rfl rfl ?_)
          refine ev_icT rfl (by simp only [ick, w32]; omega) ?_
          repeat (first | refine ev_st rfl rfl ?_ | refine ev_getf rfl (by first | assumption | exact ah_eq | (refine ah_ne (by omega) ?_; first | assumption | exact ah_eq | (refine ah_ne (by omega) ?_; first | assumption | exact ah_eq | (refine ah_ne (by omega) ?_; first | assumption | exact ah_eq)))) (by rfl) ?_)
          refine ev_callV rfl rfl q4 rfl ca ?_
          repeat (refine ev_st rfl rfl ?_)
          exact ev_rt rfl rfl rfl
