-- Resolver.tryQueue
theorem cp_pl {x : ED} (wf : wfE x) (hk : ¬ e_kd x = 5) : ∃ i : Nat, i < 23 ∧ e_cp x = (i : Int) ∧ e_pl x = ((pi_ i : Nat) : Int) := by
  obtain ⟨-, h1, h2, h3, -⟩ := wf
  unfold e_cp e_pl m_pl
  by_cases k0 : e_kd x = 0
  · exact ⟨0, by omega, by rw [if_pos k0]; rfl, by rw [if_pos k0]; rfl⟩
  by_cases k1 : e_kd x = 1
  · have := h2 (Or.inl k1)
    refine ⟨3 + (e_a x).toNat, by omega, ?_, ?_⟩
    · rw [if_neg k0, if_pos k1]; omega
    · rw [if_neg k0, if_pos k1, pi_m (by omega)]; omega
  by_cases k2 : e_kd x = 2
  · exact ⟨1, by omega, by rw [if_neg k0, if_neg k1, if_pos k2]; rfl, by rw [if_neg k0, if_neg k1, if_pos k2]; rfl⟩
  by_cases k3 : e_kd x = 3
  · exact ⟨2, by omega, by rw [if_neg k0, if_neg k1, if_neg k2, if_pos k3]; rfl, by rw [if_neg k0, if_neg k1, if_neg k2, if_pos k3]; rfl⟩
  have k4 : e_kd x = 4 := by omega
  have := h3 k4
  refine ⟨15 + (e_a x).toNat, by omega, ?_, ?_⟩
  · rw [if_neg k0, if_neg k1, if_neg k2, if_neg k3, if_pos k4]; omega
  · rw [if_neg k0, if_neg k1, if_neg k2, if_neg k3, if_pos k4]
    unfold pi_
    rw [if_neg (by omega), if_neg (by omega), if_neg (by omega), if_neg (by omega)]
    omega
def s_over (s t : SS) : SS := fun p => if 0 ≤ s p then s p else t p
theorem over_ok {N : Nat} {E : EL} {s t : SS} (hs : sOK N E s) (ht : sOK N E t) : sOK N E (s_over s t) := by
  constructor
  · intro p hp
    unfold s_over
    by_cases h : 0 ≤ s p
    · rw [if_pos h]; exact hs.1 p hp
    · rw [if_neg h]; exact ht.1 p hp
  · intro p hp
    unfold s_over
    rw [hs.2 p hp, if_neg (by omega)]
    exact ht.2 p hp
theorem oa_over {ad : Nat → Nat} {N : Nat} {E : EL} {s t : SS} (hs : sOK N E s) (p : Nat) : (if oa ad (s p) = none then oa ad (t p) else oa ad (s p)) = oa ad (s_over s t p) := by
  unfold s_over
  rcases hs.at p with h | ⟨n, hn, h, -⟩
  · rw [oa_none h, if_pos rfl, if_neg (by omega)]
  · rw [oa_some h, if_neg (by intro q; cases q), if_pos (by omega), oa_some h]
theorem try_ok {N : Nat} {E : EL} {s : SS} {e : Nat} (hs : sOK N E s) (he : e < N) (hW : WE N E) (hk : ¬ e_kd (E e) = 5) : sOK N E (r_try E s e) := by
  unfold r_try
  split
  · obtain ⟨i, hi, -, hpl⟩ := cp_pl (hW e he) hk
    have hlt := pi_lt hi
    constructor
    · intro p hp
      by_cases h : (p : Int) = e_pl (E e)
      · right
        simp only [if_pos h]
        refine ⟨by omega, by omega, ?_⟩
        rw [Int.toNat_natCast]
        exact h.symm
      · simp only [if_neg h]; exact hs.1 p hp
    · intro p hp
      show (if (p : Int) = e_pl (E e) then (e : Int) else s p) = -1
      rw [if_neg (by omega)]
      exact hs.2 p hp
  · exact hs
theorem LG_gr {h : AH} {R : Nat → Prop} {ad : Nat → Nat} {N : Nat} {E : EL} (hL : LG h R ad N E) {n : Nat} (hn : n < N) : ∃ c pa gr sl lv er bh gd pf, h.2.2 (ad n) = some (cEv n (E n) c pa (some gr) sl lv er bh gd) ∧ stF h R ad gr (e_ow (E n)) ∧ lvR h (E n) lv ∧ h.2.2 pa = some (cEa (e_pa (E n)).length pf) := by
  obtain ⟨-, c, pa, gr, lv, er, bh, q1, -, ⟨pf, -, p1, -⟩, q4, q5, -⟩ := hL n hn
  exact ⟨c, pa, gr, _, lv, some er, some bh, _, pf, q1, q5, q4.toR, p1⟩
-- two cells alone may have changed
def two (a b : Nat) (h h' : AH) : Prop := h'.1 = h.1 ∧ h'.2.1 = h.2.1 ∧ ∀ x, x ≠ a → x ≠ b → h'.2.2 x = h.2.2 x
set_option maxHeartbeats 4000000 in
theorem l_try {R : Nat → Prop} {ad : Nat → Nat} {N Z s0 p0 : Nat} {E : EL} (hZR : rsN R Z) (hW : WE N E) (hP : PW N E) (hOW : ∀ n, n < N → sOK N E (e_ow (E n))) (r0 : ¬ R p0) (ns : ¬ (Z ≤ s0 ∧ s0 < Z + 19)) (np : ¬ (Z ≤ p0 ∧ p0 < Z + 19)) {Q : List Nat} (hQ : ∀ n ∈ Q, n < N ∧ ¬ e_kd (E n) = 5) (hQl : Q.length ≤ 400) {fa tp ls qu : Nat → Option Nat} {gc gs gx gp : Nat → BitVec 64} {rk : Nat → Int} (hqu : lsR ad Q qu) : ∀ (k i : Nat) (h : AH) (ft f0 : Nat → Option Nat) (σ : SS), i + k = Q.length → rsR h Z fa ft gc gs gx gp tp ls qu rk → h.2.2 s0 = some (cSt p0) → h.2.2 p0 = some (cEa 23 f0) → (∀ j, j < 23 → f0 j = oa ad (σ (pi_ j))) → sOK N E σ → LG h R ad N E → ∃ h' ft' f0', rsR h' Z fa ft' gc gs gx gp tp ls qu rk ∧ h'.2.2 s0 = some (cSt p0) ∧ h'.2.2 p0 = some (cEa 23 f0') ∧ (∀ j, j < 23 → f0' j = oa ad ((Q.drop i).foldl (r_try E) σ (pi_ j))) ∧ sOK N E ((Q.drop i).foldl (r_try E) σ) ∧ two (Z + 6) p0 h h' ∧ Ev tResolver_tryQueue 2 [some (vR Z), some (.inl (Q.length : Int)), some (vR s0), some (.inl (i : Int))] [] h (none, h') := by
  intro k
  induction k with
  | zero =>
    intro i h ft f0 σ hi q hs hp hf hσ hL
    obtain rfl : i = Q.length := by omega
    rw [List.drop_of_length_le (Nat.le_refl _)]
    refine ⟨h, ft, f0, q, hs, hp, hf, hσ, ⟨rfl, rfl, fun _ _ _ => rfl⟩, ?_⟩
    clear hf
    iterate 2 (refine ev_st rfl rfl ?_)
    refine ev_icT rfl (by simp only [ick, w32]; omega) ?_
    exact ev_rt rfl rfl rfl
  | succ k ih =>
    intro i h ft f0 σ hi q hs hp hf hσ hL
    have hi' : i < Q.length := by omega
    obtain ⟨hn, hk5⟩ := hQ _ (getD_mem hi')
    have hdrop : Q.drop i = Q.getD i 0 :: Q.drop (i + 1) := by
      rw [List.drop_eq_getElem_cons hi', List.getD_eq_getElem?_getD, List.getElem?_eq_getElem hi']
      rfl
    have eqi := hqu i hi'
    generalize hE : Q.getD i 0 = e at *
    rw [hdrop]
    simp only [List.foldl_cons]
    -- trial.copy(resolved)
    have hisE : ∀ (τ : SS), sOK N E τ → ∀ j x, oa ad (τ (pi_ j)) = some x → isE h x := by
      intro τ hτ j x hx
      rcases hτ.at (pi_ j) with z | ⟨m, hm, z, -⟩
      · rw [oa_none z] at hx; cases hx
      · rw [oa_some z] at hx; cases hx; exact hL.isE hm
    have c1 := c_stcopy q.c5 q.c6 hs hp (by omega) (fun j hj x hx => hisE σ hσ j x (by rw [← hf j hj]; exact hx))
    have qq1 := q.u_ft (z := fill 23 (fun j => f0 j) ft)
    have z1 := rz_put (Z := Z) (h := h) (i := 6) (e := cEa 23 (fill 23 (fun j => f0 j) ft)) (by omega) (by omega) (by omega)
    have hL1 := hL.fz (rz_fz z1 hZR)
    -- trial.fillFrom(grounds)
    obtain ⟨c, pa, gr, sl, lv, er, bh, gd, pf, hc, hgr, -, -⟩ := LG_gr hL1 hn
    obtain ⟨pg, fg, ⟨rg1, rg2⟩, hg1, hg2, hg3⟩ := hgr
    have ngp : pg ≠ Z + 6 := fun z => hZR 6 (by omega) (by omega) (by omega) (z ▸ rg2)
    have c2 := c_stfillFrom qq1.c5 qq1.c6 hg1 hg2 ngp (fun j hj x hx => by
      rw [hg3 j hj] at hx
      exact (hisE _ (hOW e hn) j x hx).put q.c6)
    rw [ah_putput] at c2
    generalize hft2 : fill 23 (fun j => if fill 23 (fun j => f0 j) ft j = none then fg j else fill 23 (fun j => f0 j) ft j) (fill 23 (fun j => f0 j) ft) = ft2 at *
    have hft3 : ∀ j, j < 23 → ft2 j = oa ad (s_over σ (e_ow (E e)) (pi_ j)) := by
      intro j hj
      rw [← hft2]
      simp only [fill, if_pos hj]
      rw [hf j hj, hg3 j hj]
      exact oa_over hσ (pi_ j)
    have qq2 := q.u_ft (z := ft2)
    have z2 := rz_put (Z := Z) (h := h) (i := 6) (e := cEa 23 ft2) (by omega) (by omega) (by omega)
    have hL2 := hL.fz (rz_fz z2 hZR)
    obtain ⟨c', pa', gr', sl', lv', er', bh', gd', pf', hc', -, hlv', hpa'⟩ := LG_gr hL2 hn
    have ca := c_allows (⟨Z + 6, ft2, qq2.c5, qq2.c6, hft3⟩ : stR _ ad (Z + 5) (s_over σ (e_ow (E e)))) hL2 hW (over_ok hσ (hOW e hn)) hc' (hW e hn) hlv' hpa' (by have := (hP e hn).1; omega)
    have hs2 : (ah_put h (Z + 6) (cEa 23 ft2)).2.2 s0 = some (cSt p0) := ah_ne (by omega) hs
    have hp2 : (ah_put h (Z + 6) (cEa 23 ft2)).2.2 p0 = some (cEa 23 f0) := ah_ne (by omega) hp
    have htry : r_try E σ e = if m_allow E (E e) (s_over σ (e_ow (E e))) = true then (fun p : Nat => if (p : Int) = e_pl (E e) then (e : Int) else σ p) else σ := rfl
    have pre : ∀ o, Ev tResolver_tryQueue 44 [some (vR Z), some (.inl (Q.length : Int)), some (vR s0), some (.inl (i : Int))] [vB (m_allow E (E e) (s_over σ (e_ow (E e))))] (ah_put h (Z + 6) (cEa 23 ft2)) o → Ev tResolver_tryQueue 2 [some (vR Z), some (.inl (Q.length : Int)), some (vR s0), some (.inl (i : Int))] [] h o := by
      intro o K
      clear hf hft3 hft2 htry hqu hisE
      iterate 2 (refine ev_st rfl rfl ?_)
      refine ev_icF rfl (by simp only [ick, w32]; omega) ?_
      iterate 1 (refine ev_st rfl rfl ?_)
      refine ev_getf rfl q.c0 (by rfl) ?_
      iterate 1 (refine ev_st rfl rfl ?_)
      refine ev_callV rfl rfl q.c5 rfl c1 ?_
      iterate 1 (refine ev_st rfl rfl ?_)
      refine ev_getf rfl qq1.c0 (by rfl) ?_
      iterate 1 (refine ev_st rfl rfl ?_)
      refine ev_getf rfl qq1.c0 (by rfl) ?_
      iterate 1 (refine ev_st rfl rfl ?_)
      refine ev_aaldN rfl qq1.c17 (by omega) (by omega) ?_
      rw [eqi]
      refine ev_getf rfl hc (by rfl) ?_
      refine ev_callV rfl rfl qq1.c5 rfl c2 ?_
      iterate 1 (refine ev_st rfl rfl ?_)
      refine ev_getf rfl qq2.c0 (by rfl) ?_
      iterate 1 (refine ev_st rfl rfl ?_)
      refine ev_getf rfl qq2.c0 (by rfl) ?_
      iterate 1 (refine ev_st rfl rfl ?_)
      refine ev_aaldN rfl qq2.c17 (by omega) (by omega) ?_
      rw [eqi]
      refine ev_cl rfl rfl ca ?_
      exact K
    cases hal : m_allow E (E e) (s_over σ (e_ow (E e))) with
    | false =>
      have he : r_try E σ e = σ := by rw [htry, hal]; rfl
      rw [he]
      obtain ⟨h', ft', f0', a1, a2, a3, a4, a5, a6, ih⟩ := ih (i + 1) _ ft2 f0 σ (by omega) qq2 hs2 hp2 hf hσ hL2
      refine ⟨h', ft', f0', a1, a2, a3, a4, a5, ⟨a6.1, a6.2.1, fun x x1 x2 => (a6.2.2 x x1 x2).trans (ah_ne x1 rfl)⟩, pre _ ?_⟩
      rw [hal]
      refine ev_zeqT rfl rfl ?_
      iterate 2 (refine ev_st rfl rfl ?_)
      rw [nat_1]
      exact ih
    | true =>
      have he : r_try E σ e = fun p : Nat => if (p : Int) = e_pl (E e) then (e : Int) else σ p := by rw [htry, hal]; rfl
      obtain ⟨cp, hcp1, hcp2, hcp3⟩ := cp_pl (hW e hn) hk5
      have cput := c_putS (v := ad e) (cp := cp) hs2 hp2 hc' (by rw [← hcp2]; rfl) hcp1
      have hf3 : ∀ j, j < 23 → va_up f0 cp (some (ad e)) j = oa ad (r_try E σ e (pi_ j)) := by
        intro j hj
        rw [he]
        by_cases hj2 : j = cp
        · subst hj2
          simp only [va_up, if_pos]
          rw [if_pos hcp3.symm]
          exact (oa_some rfl).symm
        · simp only [va_up, if_neg hj2]
          rw [if_neg (fun z => hj2 (pi_inj hj hcp1 (by omega)))]
          exact hf j hj
      have qq3 : rsR (ah_put (ah_put h (Z + 6) (cEa 23 ft2)) p0 (cEa 23 (va_up f0 cp (some (ad e))))) Z fa ft2 gc gs gx gp tp ls qu rk := ⟨ah_ne (by omega) qq2.c0, ah_ne (by omega) qq2.c3, ah_ne (by omega) qq2.c4, ah_ne (by omega) qq2.c5, ah_ne (by omega) qq2.c6, ah_ne (by omega) qq2.c7, ah_ne (by omega) qq2.c8, ah_ne (by omega) qq2.c9, ah_ne (by omega) qq2.c10, ah_ne (by omega) qq2.c11, ah_ne (by omega) qq2.c12, ah_ne (by omega) qq2.c13, ah_ne (by omega) qq2.c14, ah_ne (by omega) qq2.c15, ah_ne (by omega) qq2.c16, ah_ne (by omega) qq2.c17, ah_ne (by omega) qq2.c18⟩
      obtain ⟨h', ft', f0', a1, a2, a3, a4, a5, a6, ih⟩ := ih (i + 1) _ ft2 _ (r_try E σ e) (by omega) qq3 (ah_ne (ne_ao hs2 hp2) hs2) ah_eq hf3 (try_ok hσ hn hW hk5) (hL2.fz (fz.put r0))
      refine ⟨h', ft', f0', a1, a2, a3, a4, a5, ⟨a6.1, a6.2.1, fun x x1 x2 => (a6.2.2 x x1 x2).trans (ah_ne x2 (ah_ne x1 rfl))⟩, pre _ ?_⟩
      rw [hal]
      clear pre hf3 hf hft3 hft2 a4 hqu hisE
      refine ev_zeqF rfl rfl ?_
      iterate 2 (refine ev_st rfl rfl ?_)
      refine ev_getf rfl qq2.c0 (by rfl) ?_
      iterate 1 (refine ev_st rfl rfl ?_)
      refine ev_aaldN rfl qq2.c17 (by omega) (by omega) ?_
      rw [eqi]
      refine ev_callV rfl rfl hs2 rfl cput ?_
      iterate 2 (refine ev_st rfl rfl ?_)
      rw [nat_1]
      exact ih
theorem c_tryQueue {h : AH} {R : Nat → Prop} {ad : Nat → Nat} {N Z s0 p0 : Nat} {E : EL} (hZR : rsN R Z) (hW : WE N E) (hP : PW N E) (hOW : ∀ n, n < N → sOK N E (e_ow (E n))) (r0 : ¬ R p0) (ns : ¬ (Z ≤ s0 ∧ s0 < Z + 19)) (np : ¬ (Z ≤ p0 ∧ p0 < Z + 19)) {Q : List Nat} (hQ : ∀ n ∈ Q, n < N ∧ ¬ e_kd (E n) = 5) (hQl : Q.length ≤ 400) {fa ft tp ls qu f0 : Nat → Option Nat} {gc gs gx gp : Nat → BitVec 64} {rk : Nat → Int} {σ : SS} (hqu : lsR ad Q qu) (q : rsR h Z fa ft gc gs gx gp tp ls qu rk) (hs : h.2.2 s0 = some (cSt p0)) (hp : h.2.2 p0 = some (cEa 23 f0)) (hf : ∀ j, j < 23 → f0 j = oa ad (σ (pi_ j))) (hσ : sOK N E σ) (hL : LG h R ad N E) : ∃ h' ft' f0', Em mResolver_tryQueue 1 [vR Z, .inl (Q.length : Int), vR s0] h none h' ∧ rsR h' Z fa ft' gc gs gx gp tp ls qu rk ∧ h'.2.2 s0 = some (cSt p0) ∧ h'.2.2 p0 = some (cEa 23 f0') ∧ (∀ j, j < 23 → f0' j = oa ad (Q.foldl (r_try E) σ (pi_ j))) ∧ sOK N E (Q.foldl (r_try E) σ) ∧ two (Z + 6) p0 h h' := by
  obtain ⟨h', ft', f0', a1, a2, a3, a4, a5, a6, hE⟩ := l_try hZR hW hP hOW r0 ns np hQ hQl hqu Q.length 0 h ft f0 σ (Nat.zero_add _) q hs hp hf hσ hL
  refine ⟨h', ft', f0', ?_, a1, a2, a3, a4, a5, a6⟩
  show Ev tResolver_tryQueue 0 [some (vR Z), some (.inl (Q.length : Int)), some (vR s0), none] [] h _
  iterate 2 (refine ev_st rfl rfl ?_)
  exact hE
