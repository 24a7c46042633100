-- a new event: its value; it is taken in
def e_up (E : EL) (N : Nat) (x : ED) : EL := fun n => if n = N then x else E n
theorem e_up_ag {E : EL} {N : Nat} {x : ED} : agE N E (e_up E N x) := fun n hn => if_neg (by omega)
theorem e_up_N {E : EL} {N : Nat} {x : ED} : e_up E N x N = x := if_pos rfl
def m_ev0 (E : EL) (u k a b t : Int) (pa : List Nat) (ow bf : SS) (gd : Bool) : ED := ((u, k, a, b, t), pa, ow, m_lvs E ow a b, m_ch E ow, bf, gd)
def m_ev (E : EL) (u k a b t : Int) (pa : List Nat) (ow bf : SS) : ED := m_ev0 E u k a b t pa ow bf (m_good E (m_ev0 E u k a b t pa ow bf false) ow bf)
theorem ev_good {E : EL} {u k a b t : Int} {pa : List Nat} {ow bf : SS} : e_gd (m_ev E u k a b t pa ow bf) = m_good E (m_ev E u k a b t pa ow bf) ow bf := rfl
abbrev WD : Type := Nat × EL × (Nat → SV)
def d_enter (N : Nat) (E : EL) (V : Nat → SV) (x : ED) : WD := (N + 1, e_up E N x, v_set V ((e_sd x).toNat % 4) (v_recv (e_up E N x) (N + 1) N (V ((e_sd x).toNat % 4))).1)
-- the order of a row does not matter
theorem agr_of {E : EL} {L : List Nat} {x p : Nat} (hx : x ∈ L) : r_agr E L p = if ∀ j ∈ L, e_bh E j p = e_bh E x p then e_bh E x p else -1 := by
  cases L with
  | nil => cases hx
  | cons i r =>
    simp only [r_agr]
    by_cases hall : ∀ j ∈ i :: r, e_bh E j p = e_bh E x p
    · rw [if_pos hall]
      have hi := hall i List.mem_cons_self
      have : r.all (fun j => decide (e_bh E j p = e_bh E i p)) = true := by
        rw [List.all_eq_true]
        intro j hj
        rw [decide_eq_true_eq, hall j (List.mem_cons_of_mem _ hj), hi]
      rw [this, cond_true, hi]
    · rw [if_neg hall]
      have : r.all (fun j => decide (e_bh E j p = e_bh E i p)) = false := by
        rw [← Bool.not_eq_true, List.all_eq_true]
        intro h
        apply hall
        have hxi : e_bh E x p = e_bh E i p := by
          rcases List.mem_cons.1 hx with rfl | z
          · rfl
          · have := h x z
            rw [decide_eq_true_eq] at this
            exact this
        intro j hj
        rw [hxi]
        rcases List.mem_cons.1 hj with rfl | z
        · rfl
        · have := h j z
          rw [decide_eq_true_eq] at this
          exact this
      rw [this, cond_false]
theorem any_mem {L L' : List Nat} (h : ∀ x, x ∈ L ↔ x ∈ L') (f : Nat → Bool) : L.any f = L'.any f := by
  apply Bool.eq_iff_iff.2
  rw [List.any_eq_true, List.any_eq_true]
  constructor
  · rintro ⟨x, a, b⟩; exact ⟨x, (h x).1 a, b⟩
  · rintro ⟨x, a, b⟩; exact ⟨x, (h x).2 a, b⟩
theorem res_perm {N : Nat} {E : EL} {L L' : List Nat} (h : ∀ x, x ∈ L ↔ x ∈ L') (hl : L.length = L'.length) : r_res N E L = r_res N E L' := by
  have ha : r_agr E L = r_agr E L' := by
    cases hL : L with
    | nil =>
      rw [hL] at hl
      have : L' = [] := List.eq_nil_of_length_eq_zero hl.symm
      rw [this]
    | cons i r =>
      rw [← hL]
      have hi : i ∈ L := by rw [hL]; exact List.mem_cons_self
      funext p
      rw [agr_of hi, agr_of ((h i).1 hi)]
      have : (∀ j ∈ L, e_bh E j p = e_bh E i p) ↔ ∀ j ∈ L', e_bh E j p = e_bh E i p := ⟨fun z j hj => z j ((h j).2 hj), fun z j hj => z j ((h j).1 hj)⟩
      by_cases hq : ∀ j ∈ L, e_bh E j p = e_bh E i p
      · rw [if_pos hq, if_pos (this.1 hq)]
      · rw [if_neg hq, if_neg (fun z => hq (this.2 z))]
  have hc : r_conf E L = r_conf E L' := by
    funext y
    unfold r_conf
    rw [ha, any_mem h, any_mem h, any_mem h]
  unfold r_res
  rw [ha, hc, hl]
-- other addresses of the same events
theorem oa_ad {N : Nat} {ad ad' : Nat → Nat} (h : ∀ n, n < N → ad' n = ad n) {x : Int} (hx : x = -1 ∨ ∃ n, n < N ∧ x = (n : Int)) : oa ad' x = oa ad x := by
  rcases hx with rfl | ⟨n, hn, rfl⟩
  · rfl
  · rw [oa_some (n := n) rfl, oa_some (n := n) rfl, h n hn]
theorem sOK.rg {N : Nat} {E : EL} {σ : SS} (h : sOK N E σ) (p : Nat) : σ p = -1 ∨ ∃ n, n < N ∧ σ p = (n : Int) := by
  rcases h.at p with z | ⟨n, z1, z2, -⟩
  · exact Or.inl z
  · exact Or.inr ⟨n, z1, z2⟩
theorem stF.ad {h : AH} {R : Nat → Prop} {N : Nat} {E : EL} {ad ad' : Nat → Nat} {s : Nat} {σ : SS} (q : stF h R ad s σ) (hσ : sOK N E σ) (ha : ∀ n, n < N → ad' n = ad n) : stF h R ad' s σ := by
  obtain ⟨p, f, r, a, b, c⟩ := q
  exact ⟨p, f, r, a, b, fun i hi => by rw [c i hi, oa_ad ha (hσ.rg _)]⟩
theorem LG.ext {h : AH} {R : Nat → Prop} {N : Nat} {E E' : EL} {ad ad' : Nat → Nat} (q : LG h R ad N E) (hE : EOK N E) (ag : agE N E E') (ha : ∀ n, n < N → ad' n = ad n) : LG h R ad' N E' := by
  intro n hn
  have hB := hE.bw n hn
  have hO := hE.2.2.2.2.1.ow n hn
  have hF := sOK_mono (hE.2.2.2.2.2 n hn) (show n ≤ N by omega)
  have hP := hE.2.2.1 n hn
  obtain ⟨rv, c, pa, gr, lv, er, bh, q1, q2, ⟨pf, r3, p1, p2⟩, q4, q5, q6, q7⟩ := q n hn
  rw [ag n hn, ha n hn]
  refine ⟨rv, c, pa, gr, lv, er, bh, ?_, q2, ⟨pf, r3, p1, fun i hi => ?_⟩, q4, q5.ad hO ha, q6.ad hF ha, ?_⟩
  · rw [x_lev ag hO]; exact q1
  · rw [p2 i hi, ha _ (by have := hP.2 _ (getD_mem hi); omega)]
  · rw [x_bh ag hn]; exact q7.ad hB ha
-- an event whose grounds are set
def evG (h : AH) (R : Nat → Prop) (ad : Nat → Nat) (E : EL) (n v : Nat) (x : ED) : Prop := R v ∧ ∃ c pa gr lv, h.2.2 v = some (cEv n x c pa (some gr) (m_lev E (e_ow x) (e_sd x)) lv none none 0) ∧ chF h R x c ∧ paF h R ad x pa ∧ lvF h R x lv ∧ stF h R ad gr (e_ow x)
-- what a new event must keep
def evK (N : Nat) (E : EL) (x : ED) : Prop := wfE x ∧ ((e_pa x).length ≤ 4 ∧ ∀ p ∈ e_pa x, p < N) ∧ (∀ y, e_ch x y = true → y < N ∧ ¬ e_kd (E y) = 5) ∧ sOK N E (e_ow x) ∧ sOK N E (e_bf x) ∧ e_gd x = m_good E x (e_ow x) (e_bf x)
theorem evK.eok {N : Nat} {E : EL} {x : ED} (hE : EOK N E) (hN : N < 400) (q : evK N E x) : EOK (N + 1) (e_up E N x) := by
  obtain ⟨a, b, c, d, e, -⟩ := q
  exact x_EOK e_up_ag hE hN (by rw [e_up_N]; exact a) (by rw [e_up_N]; exact b) (by rw [e_up_N]; exact c) (by rw [e_up_N]; exact d) (by rw [e_up_N]; exact e)
-- a place of a class's row is the place of the document's
theorem pl_cp {x : ED} (wf : wfE x) {i : Nat} (hi : i < 23) : ((i : Int) = e_cp x) ↔ ((pi_ i : Nat) : Int) = e_pl x := by
  constructor
  · intro h
    by_cases hk : e_kd x = 5
    · unfold e_cp at h
      rw [hk] at h
      simp at h
    · obtain ⟨j, j1, j2, j3⟩ := cp_pl wf hk
      have : i = j := by omega
      rw [this, j3]
  · intro h
    exact (cp_of wf hi h.symm).symm
set_option maxHeartbeats 4000000 in
theorem c_admit {h H : AH} {B N : Nat} {E : EL} {V : Nat → SV} {ad : Nat → Nat} (q : cls h B N E V ad) (hE : EOK N E) (hN : N < 400) (hS : VOK N E V) (hle : h.1 ≤ H.1) (hK : hOK H) (fr : rzb (B + 3) h.1 h H) (rs : rsX H (B + 3)) {v er : Nat} {x : ED} (hv : h.1 ≤ v) (hG : evG H (RW B H.1) ad E N v x) (hx : evK N E x) (her : stF H (RW B H.1) ad er (e_bf x)) : ∃ h' ad', Em mRF_admit 0 [vR B, vR v, vR er] H (some (.inl (N : Int))) h' ∧ cls h' B (d_enter N E V x).1 (d_enter N E V x).2.1 (d_enter N E V x).2.2 ad' ∧ clf B h h' ∧ few 2 24 H h' := by
  obtain ⟨wf, w2, w3, w4, w5, w6⟩ := hx
  have hxx : evK N E x := ⟨wf, w2, w3, w4, w5, w6⟩
  have hE1 := hxx.eok hE hN
  have hB81 := q.2.2.2.2.2.2.2.2
  have hW := hE.2.1
  have fz0 : fz (RW B h.1) h H := fr.fz RW.nz (fun a ha => ha.2)
  have hL := q.2.2.2.2.2.2.1.fz fz0
  obtain ⟨rv, c, pa, gr, lv, g1, g2, g3, g4, g5⟩ := hG
  obtain ⟨pf, rpa, p1, p2⟩ := id g3
  -- settle
  obtain ⟨hA, bh, p, f', cs, a1, ⟨a2, a3, a4⟩, a5, a6, a7, a8⟩ := c_settle g5.toR her.toR hL hK hW w4 w5 g1 wf g4.toR p1 (by omega) (fun z => by have := z.2; omega)
  -- cells below H.1 other than v stay
  have vlt : v < H.1 := rv.2
  have hAle : H.1 ≤ hA.1 := a6.1
  have frA : ∀ a, a ≠ v → a < H.1 → hA.2.2 a = H.2.2 a := a7
  -- the log
  obtain ⟨lc, mf, mc, mE⟩ := q.2.1
  have lcA : hA.2.2 (B + 1) = some (cLog (B + 2) N) := (frA _ (by omega) (by omega)).trans ((fr _ (by omega) (by omega)).trans lc)
  have mcA : hA.2.2 (B + 2) = some (cEa 400 mf) := (frA _ (by omega) (by omega)).trans ((fr _ (by omega) (by omega)).trans mc)
  have ca := c_lappend lcA mcA hN ⟨_, a1⟩
  generalize hhB : ah_put (ah_put hA (B + 2) (cEa 400 (va_up mf N (some v)))) (B + 1) (cLog (B + 2) (N + 1)) = hB at *
  have frB : ∀ a, a ≠ B + 1 → a ≠ B + 2 → hB.2.2 a = hA.2.2 a := fun a z1 z2 => by
    rw [← hhB]
    exact (ah_ne z1 rfl).trans (ah_ne z2 rfl)
  have hB1 : hB.1 = hA.1 := by rw [← hhB]; rfl
  have hB2 : hB.2.1 = hA.2.1 := by rw [← hhB]; rfl
  have hKB : hOK hB := by
    rw [← hhB]
    exact (a8.put (by omega)).put (by show B + 1 < hA.1; omega)
  -- all below h.1 but log and rows
  have frX : ∀ a, a < h.1 → ¬ (B + 1 ≤ a ∧ a < B + 22 ∧ a ≠ B + 4 ∧ a ≠ B + 5) → hB.2.2 a = h.2.2 a := fun a z1 z2 => (frB a (by omega) (by omega)).trans ((frA a (by omega) (by omega)).trans (fr a z1 (by omega)))
  have fz1 : fz (RW B h.1) h hB := fun a ha => by
    have h1 := ha.1
    have h2 := ha.2
    exact frX a h2 (by omega)
  let ad' : Nat → Nat := fun n => if n = N then v else ad n
  have had : ∀ n, n < N → ad' n = ad n := fun n hn => if_neg (by omega)
  have hadN : ad' N = v := if_pos rfl
  have up1 : ∀ a, RW B H.1 a → RW B hB.1 a := RW.up (by omega)
  have up0 : ∀ a, RW B h.1 a → RW B hB.1 a := RW.up (by omega)
  -- all of RW B H.1 but v stays from H to hB
  have fzH : ∀ a, RW B H.1 a → a ≠ v → hB.2.2 a = H.2.2 a := fun a ha hav => by
    have h1 := ha.1
    have h2 := ha.2
    exact (frB a (by omega) (by omega)).trans (frA a hav h2)
  have nev : ∀ {a : Nat} {e : AE}, H.2.2 a = some e → (∀ fs, e ≠ .inr (1, fs)) → a ≠ v := by
    intro a e he hn hav
    rw [hav, g1] at he
    exact hn _ (Option.some.inj he).symm
  have stH : ∀ {s : Nat} {σ : SS}, sOK N E σ → stF H (RW B H.1) ad s σ → stF hB (RW B hB.1) ad' s σ := by
    intro s σ hσ hst
    obtain ⟨p, f, ⟨r1, r2⟩, b1, b2, b3⟩ := hst
    refine ⟨p, f, ⟨up1 _ r1, up1 _ r2⟩, (fzH s r1 (nev b1 (fun fs z => by cases z))).trans b1, (fzH p r2 (nev b2 (fun fs z => by cases z))).trans b2, fun i hi => ?_⟩
    rw [b3 i hi, oa_ad had (hσ.rg _)]
  have evN : evR hB (RW B hB.1) ad' (e_up E N x) N (ad' N) ((e_up E N x) N) := by
    rw [e_up_N, hadN]
    refine ⟨up1 v rv, c, pa, gr, lv, er, bh, ?_, ?_, ?_, ?_, stH w4 g5, stH w5 her, ?_⟩
    · rw [x_lev e_up_ag w4, w6]
      exact (frB v (by omega) (by omega)).trans a1
    · obtain ⟨w, g, ⟨r1, r2⟩, b1, b2, b3⟩ := g2
      exact ⟨w, g, ⟨up1 _ r1, up1 _ r2⟩, (fzH _ r1 (nev b1 (fun fs z => by cases z))).trans b1, (fzH _ r2 (nev b2 (fun fs z => by cases z))).trans b2, b3⟩
    · refine ⟨pf, up1 _ rpa, (fzH _ rpa (nev p1 (fun fs z => by cases z))).trans p1, fun i hi => ?_⟩
      rw [p2 i hi, had _ (w2.2 _ (getD_mem hi))]
    · refine ⟨fun k => ?_, g4.2⟩
      obtain ⟨la, fl, r1, b1, b2, b3⟩ := g4.1 k
      exact ⟨la, fl, up1 _ r1, b1, (fzH _ r1 (nev b2 (fun fs z => by cases z))).trans b2, b3⟩
    · -- the state behind it
      have rbh : RW B hB.1 bh ∧ RW B hB.1 p := by
        rcases a5 with ⟨z1, z2⟩ | ⟨z1, z2⟩
        · obtain ⟨p', f2, ⟨r1, r2⟩, b1, -⟩ := her
          rw [z2] at b1
          have hpp : p = p' := by
            have := Option.some.inj b1
            injection this with e1
            injection e1 with _ e2
            injection e2 with e3
            injection e3 with e4
            injection e4 with e5
            exact Option.some.inj e5
          rw [z1, hpp]
          exact ⟨up1 _ r1, up1 _ r2⟩
        · have h1 := a8 _ _ a3
          have h2 := a8 _ _ a2
          exact ⟨⟨by omega, by omega⟩, ⟨by omega, by omega⟩⟩
      have r1 := rbh.1.1
      have r2 := rbh.2.1
      refine ⟨p, f', rbh, (frB _ (by omega) (by omega)).trans a2, (frB _ (by omega) (by omega)).trans a3, fun i hi => ?_⟩
      rw [a4 i hi, ← w6]
      unfold e_bh
      rw [e_up_N]
      by_cases hz : e_gd x = true ∧ (i : Int) = e_cp x
      · rw [if_pos hz, if_pos ⟨hz.1, (pl_cp wf hi).1 hz.2⟩, oa_some (n := N) rfl, hadN]
      · rw [if_neg hz, if_neg (fun z => hz ⟨z.1, (pl_cp wf hi).2 z.2⟩), oa_ad had (w5.rg _)]
  have LGB : LG hB (RW B hB.1) ad' (N + 1) (e_up E N x) := by
    intro n hn
    by_cases hnN : n = N
    · subst hnN; exact evN
    · exact ((q.2.2.2.2.2.2.1.ext hE e_up_ag had).fz fz1).mono up0 n (by omega)
  have lgB : lgR hB (B + 1) (B + 2) (N + 1) ad' := by
    refine ⟨by rw [← hhB]; exact ah_eq, va_up mf N (some v), by rw [← hhB]; exact ah_ne (by omega) ah_eq, fun n hn => ?_⟩
    simp only [va_up]
    by_cases hnN : n = N
    · rw [if_pos hnN, hnN, hadN]
    · rw [if_neg hnN, mE n (by omega), had n (by omega)]
  have rsB : rsX hB (B + 3) := by
    obtain ⟨fa, ft, gc, gs, gx, gp, tp, ls, qu, rk, q3⟩ := rs
    exact ⟨_, _, _, _, _, _, _, _, _, _, q3.cg (fun i hi => (frB _ (by omega) (by omega)).trans (frA _ (by omega) (by omega)))⟩
  have clB : cls hB B (N + 1) (e_up E N x) V ad' := by
    refine q.upd (by omega) hKB fz1 (frX _ (by omega) (by omega)) (frX _ (by omega) (by omega)) lgB rsB (fun s hs => ?_) LGB
    obtain ⟨nw, sv, hnw⟩ := q.2.2.2.2.2.1 s hs
    refine ⟨nw, sv.cg (fun i hi => frX _ (by omega) (by omega)), fun y hy => ?_⟩
    have hk := (hS s hs).1
    rw [x_state e_up_ag hE hk]
    exact (((hnw y hy).ad (res_ok hE heads_lt) had).fz fz1).mono up0
  have hS1 : VOK (N + 1) (e_up E N x) V := fun s hs => x_SOK e_up_ag hE (hS s hs)
  have hs4 : (e_sd x).toNat % 4 < 4 := Nat.mod_lt _ (by omega)
  obtain ⟨h', cr, q', f', few'⟩ := c_recv clB hE1 hS1 hs4 (n := N) (by omega)
  rw [hadN] at cr
  refine ⟨h', ad', ?_, q', ⟨by have := f'.1; omega, fun a ha hn => ?_⟩, ?_⟩
  · obtain ⟨nw, ⟨gk, gh, gd, hsv, -⟩, -⟩ := clB.2.2.2.2.2.1 _ hs4
    obtain ⟨f22, r22, e22⟩ := clB.2.2.2.2.1
    have rfH : H.2.2 B = some (cRF B) := (fr _ (by omega) (by omega)).trans q.1
    have rfA : hA.2.2 B = some (cRF B) := (frA _ (by omega) (by omega)).trans rfH
    have vB_ := (frB v (by omega) (by omega)).trans a1
    have vE : h'.2.2 v = some (cEv N x c pa (some gr) (m_lev E (e_ow x) (e_sd x)) lv (some er) (some bh) (bif m_good E x (e_ow x) (e_bf x) then 1 else 0)) := (f'.2 v (by omega) (by omega)).trans vB_
    have hsd := wf.1
    show Ev tRF_admit 0 [some (vR B), some (vR v), some (vR er)] [] H _
    clear evN LGB lgB rsB stH nev fzH up0 up1 had hadN
    iterate 2 (refine ev_st rfl rfl ?_)
    refine ev_callV rfl rfl g1 rfl cs ?_
    iterate 1 (refine ev_st rfl rfl ?_)
    refine ev_getf rfl rfA (by rfl) ?_
    iterate 1 (refine ev_st rfl rfl ?_)
    refine ev_callV rfl rfl lcA rfl ca ?_
    iterate 1 (refine ev_st rfl rfl ?_)
    refine ev_getf rfl clB.1 (by rfl) ?_
    iterate 1 (refine ev_st rfl rfl ?_)
    refine ev_getf rfl vB_ (by rfl) ?_
    iterate 1 (refine ev_st rfl rfl ?_)
    refine ev_rem ((((e_sd x).toNat % 4 : Nat)) : Int) rfl (by decide) (by
      rw [w32_id (by omega) (by omega), show w32 4 = 4 by decide, Int.tmod_eq_emod_of_nonneg (by omega)]
      omega) ?_
    refine ev_aaldN rfl r22 (by omega) (by omega) ?_
    rw [e22 _ hs4]
    iterate 2 (refine ev_st rfl rfl ?_)
    refine ev_getf rfl clB.1 (by rfl) ?_
    refine ev_callV rfl rfl hsv.1 rfl cr ?_
    iterate 2 (refine ev_st rfl rfl ?_)
    refine ev_getf rfl vE (by rfl) ?_
    exact ev_rt rfl rfl rfl
  · exact (f'.2 a (by omega) hn).trans (frX a ha (by omega))
  · obtain ⟨a61, a62, a63, a64⟩ := a6
    obtain ⟨b1, b2⟩ := few'
    exact ⟨by omega, by omega⟩
