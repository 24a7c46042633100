-- Event.settle, setParents
def m_good (E : EL) (x : ED) (τ β : SS) : Bool := (decide (e_kd x = 0) || decide (0 < (e_pa x).length)) && (b_all 23 (fun p => decide (τ p < 0) || e_gd (E (τ p).toNat)) && (m_allow E x τ && m_allow E x β))
theorem lvR.put {h : AH} {x : ED} {lv : Option Nat} {v : Nat} {b : Nat × List AV} {e : AE} (q : lvR h x lv) (hv : h.2.2 v = some (.inr b)) : lvR (ah_put h v e) x lv := by
  refine ⟨fun k => ?_, q.2⟩
  obtain ⟨la, fl, h1, h2, h3⟩ := q.1 k
  exact ⟨la, fl, h1, ah_ne (ne_ao hv h2).symm h2, h3⟩
theorem stR.putE {h : AH} {ad : Nat → Nat} {s v : Nat} {σ : SS} {fs : List AV} {e : AE} (q : stR h ad s σ) (hv : h.2.2 v = some (.inr (1, fs))) : stR (ah_put h v e) ad s σ := by
  obtain ⟨p, f, hs, hp, hf⟩ := q
  have n1 : s ≠ v := by rintro rfl; rw [hs] at hv; cases hv
  exact ⟨p, f, ah_ne n1 hs, ah_ne (ne_ao hv hp).symm hp, hf⟩
theorem c_setParents {h : AH} {v n c pa pa' : Nat} {x : ED} {gr lv er bh : Option Nat} {sl gd : Int} (hv : h.2.2 v = some (cEv n x c pa gr sl lv er bh gd)) : Em mEvent_setParents 0 [vR v, vR pa'] h none (ah_put h v (cEv n x c pa' gr sl lv er bh gd)) := by
  show Ev tEvent_setParents 0 [some (vR v), some (vR pa')] [] h _
  repeat (refine ev_st rfl rfl ?_)
  refine ev_putf rfl hv (Nat.le_of_ble_eq_true rfl) rfl ?_
  exact ev_rt rfl rfl rfl
set_option maxHeartbeats 8000000 in
theorem c_settle {h : AH} {R : Nat → Prop} {ad : Nat → Nat} {N : Nat} {E : EL} {τ β : SS} {g s v n c pa : Nat} {x : ED} {sl : Int} {lv : Option Nat} {pf : Nat → Option Nat} (hT : stR h ad g τ) (hB : stR h ad s β) (hL : LG h R ad N E) (hO : hOK h) (hW : WE N E) (hτ : sOK N E τ) (hβ : sOK N E β) (hv : h.2.2 v = some (cEv n x c pa (some g) sl lv none none 0)) (wf : wfE x) (hlv : lvR h x lv) (hpa : h.2.2 pa = some (cEa (e_pa x).length pf)) (hpl : (e_pa x).length ≤ 1000) (rv : ¬ R v) : ∃ h' bh p f', Em mEvent_settle 0 [vR v, vR s] h none h' ∧ h'.2.2 v = some (cEv n x c pa (some g) sl lv (some s) (some bh) (bif m_good E x τ β then 1 else 0)) ∧ (h'.2.2 bh = some (cSt p) ∧ h'.2.2 p = some (cEa 23 f') ∧ ∀ i, i < 23 → f' i = if m_good E x τ β = true ∧ (i : Int) = e_cp x then some v else oa ad (β (pi_ i))) ∧ ((bh = s ∧ h.2.2 s = some (cSt p)) ∨ (bh = h.1 ∧ p = h.1 + 1)) ∧ (h.1 ≤ h'.1 ∧ h'.1 ≤ h.1 + 2 ∧ h.2.1 ≤ h'.2.1 ∧ h'.2.1 ≤ h.2.1 + 24) ∧ (∀ a, a ≠ v → a < h.1 → h'.2.2 a = h.2.2 a) ∧ hOK h' := by
  have lvl := hO _ _ hv
  -- the heap with the event as it is told
  have hEv : ∀ e, LG (ah_put h v e) R ad N E := fun e => hL.fz (fz.put rv)
  have hTv : ∀ e, stR (ah_put h v e) ad g τ := fun e => hT.putE hv
  have hBv : ∀ e, stR (ah_put h v e) ad s β := fun e => hB.putE hv
  have hLv : ∀ e, lvR (ah_put h v e) x lv := fun e => hlv.put hv
  have hPv : ∀ e, (ah_put h v e).2.2 pa = some (cEa (e_pa x).length pf) := fun e => ah_ne (ne_ao hv hpa).symm hpa
  have cG := c_allGood (hTv (cEv n x c pa (some g) sl lv (some s) none 0)) (hEv _) hτ
  rw [pi_all (fun p => decide (τ p < 0) || e_gd (E (τ p).toNat))] at cG
  have cA := c_allows (hTv (cEv n x c pa (some g) sl lv (some s) none 0)) (hEv _) hW hτ ah_eq wf (hLv _) (hPv _) hpl
  have cB := c_allows (hBv (cEv n x c pa (some g) sl lv (some s) none 0)) (hEv _) hW hβ ah_eq wf (hLv _) (hPv _) hpl
  obtain ⟨pg, fg, hgs, hgp, hgf⟩ := id (hTv (cEv n x c pa (some g) sl lv (some s) none 0))
  have hk := wf.2.1
  -- from the answer on
  have tail : ∀ G : Bool, ∃ h' bh p f', Ev tEvent_settle 55 [some (vR v), some (vR s)] [vB G, vR v] (ah_put h v (cEv n x c pa (some g) sl lv (some s) none 0)) (none, h') ∧ h'.2.2 v = some (cEv n x c pa (some g) sl lv (some s) (some bh) (bif G then 1 else 0)) ∧ (h'.2.2 bh = some (cSt p) ∧ h'.2.2 p = some (cEa 23 f') ∧ ∀ i, i < 23 → f' i = if G = true ∧ (i : Int) = e_cp x then some v else oa ad (β (pi_ i))) ∧ ((bh = s ∧ h.2.2 s = some (cSt p)) ∨ (bh = h.1 ∧ p = h.1 + 1)) ∧ (h.1 ≤ h'.1 ∧ h'.1 ≤ h.1 + 2 ∧ h.2.1 ≤ h'.2.1 ∧ h'.2.1 ≤ h.2.1 + 24) ∧ (∀ a, a ≠ v → a < h.1 → h'.2.2 a = h.2.2 a) ∧ hOK h' := by
    intro G
    have same : G = false ∨ e_cp x = -1 → ∃ h' bh p f', Ev tEvent_settle 83 [some (vR v), some (vR s)] [vR s, vR v] (ah_put h v (cEv n x c pa (some g) sl lv (some s) none (bif G then 1 else 0))) (none, h') ∧ h'.2.2 v = some (cEv n x c pa (some g) sl lv (some s) (some bh) (bif G then 1 else 0)) ∧ (h'.2.2 bh = some (cSt p) ∧ h'.2.2 p = some (cEa 23 f') ∧ ∀ i, i < 23 → f' i = if G = true ∧ (i : Int) = e_cp x then some v else oa ad (β (pi_ i))) ∧ ((bh = s ∧ h.2.2 s = some (cSt p)) ∨ (bh = h.1 ∧ p = h.1 + 1)) ∧ (h.1 ≤ h'.1 ∧ h'.1 ≤ h.1 + 2 ∧ h.2.1 ≤ h'.2.1 ∧ h'.2.1 ≤ h.2.1 + 24) ∧ (∀ a, a ≠ v → a < h.1 → h'.2.2 a = h.2.2 a) ∧ hOK h' := by
      intro hq
      obtain ⟨p, f, hs, hp, hf⟩ := hBv (cEv n x c pa (some g) sl lv (some s) (some s) (bif G then 1 else 0))
      refine ⟨ah_put h v (cEv n x c pa (some g) sl lv (some s) (some s) (bif G then 1 else 0)), s, p, f, ?_, ah_eq, ⟨hs, hp, fun i hi => ?_⟩, Or.inl ⟨rfl, ?_⟩, ⟨Nat.le_refl _, Nat.le_add_right _ _, Nat.le_refl _, Nat.le_add_right _ _⟩, fun a a1 _ => ah_ne a1 rfl, hO.put lvl⟩
      · refine ev_putf rfl ah_eq (Nat.le_of_ble_eq_true rfl) rfl ?_
        rw [ah_putput]
        exact ev_rt rfl rfl rfl
      · rw [hf i hi, if_neg]
        rintro ⟨q1, q2⟩
        rcases hq with hq | hq
        · rw [hq] at q1; cases q1
        · omega
      · have : s ≠ v := by
          rintro rfl
          have := ah_eq.symm.trans hs
          cases this
        exact (ah_ne this rfl).symm.trans hs
    cases G with
    | false =>
      obtain ⟨h', bh, p, f', hE, hr⟩ := same (Or.inl rfl)
      refine ⟨h', bh, p, f', ?_, hr⟩
      refine ev_putf rfl ah_eq (Nat.le_of_ble_eq_true rfl) rfl ?_
      rw [ah_putput]
      iterate 2 (refine ev_st rfl rfl ?_)
      refine ev_getf rfl ah_eq (by rfl) ?_
      refine ev_zeqT (b := false) rfl rfl ?_
      iterate 1 (refine ev_st rfl rfl ?_)
      exact hE
    | true =>
      by_cases hcp : e_cp x = -1
      · obtain ⟨h', bh, p, f', hE, hr⟩ := same (Or.inr hcp)
        refine ⟨h', bh, p, f', ?_, hr⟩
        refine ev_putf rfl ah_eq (Nat.le_of_ble_eq_true rfl) rfl ?_
        rw [ah_putput]
        iterate 2 (refine ev_st rfl rfl ?_)
        refine ev_getf rfl ah_eq (by rfl) ?_
        refine ev_zeqF (b := true) rfl rfl ?_
        iterate 1 (refine ev_st rfl rfl ?_)
        refine ev_getf rfl ah_eq (by rfl) ?_
        repeat (first | refine ev_st rfl rfl ?_ | refine ev_getf rfl (by first | assumption | exact ah_eq | (refine ah_ne (by omega) ?_; first | assumption | exact ah_eq | (refine ah_ne (by omega) ?_; first | assumption | exact ah_eq | (refine ah_ne (by omega) ?_; first | assumption | exact ah_eq)))) (by rfl) ?_ | refine ev_ifT rfl (by simp only [ick, w32]; omega) ?_ | refine ev_ifF rfl (by simp only [ick, w32]; omega) ?_ | refine ev_icT rfl (by simp only [ick, w32]; omega) ?_ | refine ev_icF rfl (by simp only [ick, w32]; omega) ?_)
        exact hE
      · obtain ⟨cp, hcp1, hcp2⟩ : ∃ k : Nat, e_cp x = k ∧ k < 23 := by
          obtain ⟨-, w1, w2, w3, -⟩ := wf
          refine ⟨(e_cp x).toNat, ?_, ?_⟩ <;>
          · revert hcp
            unfold e_cp
            repeat (split; intro hcp; first | omega | skip)
            all_goals (first | omega | (intro hcp; omega))
        obtain ⟨p, f, hs, hp, hf⟩ := hBv (cEv n x c pa (some g) sl lv (some s) none 1)
        have hO2 : hOK (ah_put h v (cEv n x c pa (some g) sl lv (some s) none 1)) := hO.put lvl
        have cw := c_with (v := v) (cp := cp) hs hp hO2 (fun i hi y hy => by
          rw [hf i hi] at hy
          rcases hβ.at (pi_ i) with h1 | ⟨m, hm, h1, -⟩
          · rw [oa_none h1] at hy; cases hy
          · rw [oa_some h1] at hy
            cases hy
            exact (hEv _).isE hm) ah_eq (by rw [← hcp1]; rfl) hcp2
        refine ⟨ah_put (hSt (ah_put h v (cEv n x c pa (some g) sl lv (some s) none 1)) (va_up (fill 23 f fun _ => none) cp (some v))) v (cEv n x c pa (some g) sl lv (some s) (some h.1) 1), h.1, h.1 + 1, _, ?_, ah_eq, ⟨ah_ne (by omega) hSt_0, ah_ne (by omega) hSt_1, fun i hi => ?_⟩, Or.inr ⟨rfl, rfl⟩, ⟨Nat.le_add_right _ _, Nat.le_refl _, Nat.le_add_right _ _, Nat.le_refl _⟩, fun a a1 a2 => ah_ne a1 ((hSt_o (h := ah_put h v _) a2).trans (ah_ne a1 rfl)), ?_⟩
        · refine ev_putf rfl ah_eq (Nat.le_of_ble_eq_true rfl) rfl ?_
          rw [ah_putput]
          iterate 2 (refine ev_st rfl rfl ?_)
          refine ev_getf rfl ah_eq (by rfl) ?_
          refine ev_zeqF (b := true) rfl rfl ?_
          iterate 1 (refine ev_st rfl rfl ?_)
          refine ev_getf rfl ah_eq (by rfl) ?_
          repeat (first | refine ev_st rfl rfl ?_ | refine ev_getf rfl (by first | assumption | exact ah_eq | (refine ah_ne (by omega) ?_; first | assumption | exact ah_eq | (refine ah_ne (by omega) ?_; first | assumption | exact ah_eq | (refine ah_ne (by omega) ?_; first | assumption | exact ah_eq)))) (by rfl) ?_ | refine ev_ifT rfl (by simp only [ick, w32]; omega) ?_ | refine ev_ifF rfl (by simp only [ick, w32]; omega) ?_ | refine ev_icT rfl (by simp only [ick, w32]; omega) ?_ | refine ev_icF rfl (by simp only [ick, w32]; omega) ?_)
          refine ev_callV rfl rfl hs rfl cw ?_
          iterate 1 (refine ev_st rfl rfl ?_)
          refine ev_putf rfl ((hSt_o (h := ah_put h v _) lvl).trans ah_eq) (Nat.le_of_ble_eq_true rfl) rfl ?_
          exact ev_rt rfl rfl rfl
        · by_cases hq : i = cp
          · subst hq
            rw [if_pos ⟨rfl, hcp1.symm⟩]
            simp [va_up]
          · rw [if_neg (by rintro ⟨-, q⟩; omega)]
            simp only [va_up, if_neg hq, fill, if_pos hi]
            exact hf i hi
        · refine hOK.put (a := v) ?_ ?_
          · intro a y hy
            show a < h.1 + 2
            by_cases q1 : a < h.1
            · omega
            · by_cases q2 : a = h.1
              · omega
              · by_cases q3 : a = h.1 + 1
                · omega
                · have : (ah_put h v (cEv n x c pa (some g) sl lv (some s) none 1)).2.2 a = some y := by
                    have e : (hSt (ah_put h v (cEv n x c pa (some g) sl lv (some s) none 1)) (va_up (fill 23 f fun _ => none) cp (some v))).2.2 a = (ah_put h v (cEv n x c pa (some g) sl lv (some s) none 1)).2.2 a := by
                      simp only [hSt]
                      rw [if_neg (show ¬ a = (ah_put h v _).1 from q2), if_neg (show ¬ a = (ah_put h v _).1 + 1 from q3)]
                    rw [← e]; exact hy
                  exact absurd (hO2 _ _ this) q1
          · show v < h.1 + 2
            omega
  obtain ⟨h', bh, p, f', hE, hr⟩ := tail (m_good E x τ β)
  refine ⟨h', bh, p, f', ?_, hr⟩
  clear tail hr
  show Ev tEvent_settle 0 [some (vR v), some (vR s)] [] h _
  iterate 2 (refine ev_st rfl rfl ?_)
  refine ev_putf rfl hv (Nat.le_of_ble_eq_true rfl) rfl ?_
  iterate 2 (refine ev_st rfl rfl ?_)
  refine ev_getf rfl ah_eq (by rfl) ?_
  have go : (decide (e_kd x = 0) || decide (0 < (e_pa x).length)) = true → Ev tEvent_settle 21 [some (vR v), some (vR s)] [vR v] (ah_put h v (cEv n x c pa (some g) sl lv (some s) none 0)) (none, h') := by
    intro hq
    unfold m_good at hE
    rw [hq, Bool.true_and] at hE
    generalize b_all 23 (fun p => decide (τ p < 0) || e_gd (E (τ p).toNat)) = b1 at *
    generalize m_allow E x τ = b2 at *
    generalize m_allow E x β = b3 at *
    iterate 1 (refine ev_st rfl rfl ?_)
    refine ev_getf rfl ah_eq (by rfl) ?_
    refine ev_callV rfl rfl hgs rfl cG ?_
    cases b1 with
    | false =>
      refine ev_zeqT rfl rfl ?_
      iterate 1 (refine ev_st rfl rfl ?_)
      exact hE
    | true =>
      refine ev_zeqF rfl rfl ?_
      iterate 1 (refine ev_st rfl rfl ?_)
      refine ev_getf rfl ah_eq (by rfl) ?_
      iterate 1 (refine ev_st rfl rfl ?_)
      refine ev_cl rfl rfl cA ?_
      cases b2 with
      | false =>
        refine ev_zeqT rfl rfl ?_
        iterate 1 (refine ev_st rfl rfl ?_)
        exact hE
      | true =>
        refine ev_zeqF rfl rfl ?_
        iterate 2 (refine ev_st rfl rfl ?_)
        refine ev_cl rfl rfl cB ?_
        cases b3 with
        | false =>
          refine ev_zeqT rfl rfl ?_
          iterate 1 (refine ev_st rfl rfl ?_)
          exact hE
        | true =>
          refine ev_zeqF rfl rfl ?_
          iterate 2 (refine ev_st rfl rfl ?_)
          exact hE
  by_cases k0 : e_kd x = 0
  · refine ev_ifT rfl (by simp only [ick, w32]; omega) ?_
    exact go (by rw [decide_eq_true k0]; rfl)
  · refine ev_ifF rfl (by simp only [ick, w32]; omega) ?_
    iterate 1 (refine ev_st rfl rfl ?_)
    refine ev_getf rfl ah_eq (by rfl) ?_
    refine ev_alen rfl (hPv _) ?_
    by_cases hz : 0 < (e_pa x).length
    · refine ev_ifF rfl (by simp only [ick, w32]; omega) ?_
      exact go (by rw [decide_eq_true hz]; simp)
    · refine ev_ifT rfl (by simp only [ick, w32]; omega) ?_
      have : m_good E x τ β = false := by
        unfold m_good
        rw [decide_eq_false k0, decide_eq_false hz]
        rfl
      rw [this] at hE
      iterate 1 (refine ev_st rfl rfl ?_)
      exact hE
