-- Law: what a state allows
theorem mem_rng {N : Nat} {E : EL} {σ : SS} (hW : WE N E) (hσ : sOK N E σ) (u : Nat) : InR (m_mem E σ u) := by
  rcases hσ.at (1 + u) with h1 | ⟨n, hn, h1, -⟩
  · rw [mem_0 h1]; unfold InR; omega
  · rw [mem_s h1]; exact (hW n hn).2.2.2.2.2.1
theorem lev_rng {N : Nat} {E : EL} {σ : SS} (hW : WE N E) (hσ : sOK N E σ) {u : Nat} (hu : u < 12) : -100 ≤ m_lev E σ u ∧ m_lev E σ u ≤ 100 := by
  rcases hσ.at 13 with h1 | ⟨n, hn, h1, hpl⟩
  · rcases hσ.at 0 with h0 | ⟨n, hn, h0, -⟩
    · rw [lev_0 h1 h0]; omega
    · rw [lev_c h1 h0]; split <;> omega
  · rw [lev_p h1]
    have := (hW n hn).2.2.2.2.2.2.2 (pl_13 (hW n hn) hpl) u hu
    rw [Int.toNat_natCast]
    exact this
set_option maxHeartbeats 1000000 in
theorem c_isUser {h : AH} {u : Int} (hu : InR u) : Em mLaw_isUser 0 [.inl u] h (some (vB (decide (0 ≤ u ∧ u < 12)))) h := by
  unfold InR at hu
  show Ev tLaw_isUser 0 [some (.inl u)] [] h _
  by_cases hq : 0 ≤ u ∧ u < 12
  · rw [decide_eq_true hq]
    repeat (first | refine ev_st rfl rfl ?_ | refine ev_getf rfl (by first | assumption | exact ah_eq | (refine ah_ne (by omega) ?_; first | assumption | exact ah_eq | (refine ah_ne (by omega) ?_; first | assumption | exact ah_eq | (refine ah_ne (by omega) ?_; first | assumption | exact ah_eq)))) (by rfl) ?_ | refine ev_ifT rfl (by simp only [ick, w32]; omega) ?_ | refine ev_ifF rfl (by simp only [ick, w32]; omega) ?_ | refine ev_icT rfl (by simp only [ick, w32]; omega) ?_ | refine ev_icF rfl (by simp only [ick, w32]; omega) ?_)
    exact ev_rt rfl rfl rfl
  · rw [decide_eq_false hq]
    repeat (refine ev_st rfl rfl ?_)
    refine ev_if rfl (fun c => ?_) (fun c => ?_)
    · repeat (refine ev_st rfl rfl ?_)
      exact ev_rt rfl rfl rfl
    · simp only [ick, w32] at c
      repeat (first | refine ev_st rfl rfl ?_ | refine ev_getf rfl (by first | assumption | exact ah_eq | (refine ah_ne (by omega) ?_; first | assumption | exact ah_eq | (refine ah_ne (by omega) ?_; first | assumption | exact ah_eq | (refine ah_ne (by omega) ?_; first | assumption | exact ah_eq)))) (by rfl) ?_ | refine ev_ifT rfl (by simp only [ick, w32]; omega) ?_ | refine ev_ifF rfl (by simp only [ick, w32]; omega) ?_ | refine ev_icT rfl (by simp only [ick, w32]; omega) ?_ | refine ev_icF rfl (by simp only [ick, w32]; omega) ?_)
      exact ev_rt rfl rfl rfl
set_option maxHeartbeats 4000000 in
theorem c_allowsMember {h : AH} {R : Nat → Prop} {ad : Nat → Nat} {N : Nat} {E : EL} {σ : SS} {s : Nat} (hS : stR h ad s σ) (hL : LG h R ad N E) (hW : WE N E) (hσ : sOK N E σ) {v n c pa : Nat} {x : ED} {gr lv er bh : Option Nat} {sl gd : Int} (hv : h.2.2 v = some (cEv n x c pa gr sl lv er bh gd)) (wf : wfE x) (hk : e_kd x = 1) (h0 : 0 ≤ σ 0) : Em mLaw_allowsMember 3 [vR s, vR v] h (some (vB (m_member E x σ))) h := by
  obtain ⟨ua, hua, hua2⟩ : ∃ u : Nat, e_a x = u ∧ u < 12 := ⟨(e_a x).toNat, by have := wf.2.2.1 (Or.inl hk); omega, by have := wf.2.2.1 (Or.inl hk); omega⟩
  obtain ⟨us, hus, hus2⟩ : ∃ u : Nat, e_sd x = u ∧ u < 12 := ⟨(e_sd x).toNat, by have := wf.1; omega, by have := wf.1; omega⟩
  have hb := wf.2.2.2.2.2.1
  obtain ⟨p, f, hs, hp, hf⟩ := id hS
  have cA := c_memb hS hL hW hσ hua2
  have cS := c_memb hS hL hW hσ hus2
  have lA := c_levelOf hS hL hW hσ hua2
  have lS := c_levelOf hS hL hW hσ hus2
  have cO := c_isOpen hS hL hW hσ
  have cM := c_awaits hS hL hW hσ hua2
  have rA := mem_rng hW hσ ua
  have rS := mem_rng hW hσ us
  have qA := lev_rng hW hσ hua2
  have qS := lev_rng hW hσ hus2
  unfold InR at hb rA rS
  have hM : m_member E x σ = if e_b x = 1 then decide (us = ua) && (!decide (m_mem E σ ua = 3) && ((decide (σ 14 < 0) || decide (e_b (E (σ 14).toNat) = 0)) || (decide (m_mem E σ ua = 1) || (decide (m_mem E σ ua = 2) || decide (0 ≤ σ 0 ∧ e_sd (E (σ 0).toNat) = ua ∧ σ 13 < 0 ∧ σ (1 + ua) < 0)))))
    else if e_b x = 2 then decide (m_mem E σ us = 1) && (!decide (m_mem E σ ua = 1) && !decide (m_mem E σ ua = 3))
    else if e_b x = 0 then (if us = ua then decide (m_mem E σ ua = 1) || decide (m_mem E σ ua = 2) else (decide (m_mem E σ us = 1) && (decide (50 ≤ m_lev E σ us) && decide (m_lev E σ ua < m_lev E σ us))) && !decide (m_mem E σ ua = 0))
    else if e_b x = 3 then (decide (m_mem E σ us = 1) && (decide (50 ≤ m_lev E σ us) && decide (m_lev E σ ua < m_lev E σ us)))
    else false := by
    unfold m_member m_join m_above
    rw [hua, hus]
    have e1 : decide ((us : Int) = (ua : Int)) = decide (us = ua) := by
      by_cases hq : us = ua
      · subst hq; simp
      · rw [decide_eq_false hq, decide_eq_false (by omega)]
    rw [e1, Int.toNat_natCast]
    by_cases h1 : e_b x = 1
    · rw [if_pos h1, if_pos h1]
      by_cases h2 : us = ua
      · subst h2
        have e2 : decide (0 ≤ σ 0 ∧ e_sd (E (σ 0).toNat) = (us : Int) ∧ σ 13 < 0 ∧ σ (1 + us) < 0) = (decide (σ (1 + us) < 0) && (decide (σ 13 < 0) && decide (e_sd (E (σ 0).toNat) = (us : Int)))) := by
          by_cases a1 : σ (1 + us) < 0 <;> by_cases a2 : σ 13 < 0 <;> by_cases a3 : e_sd (E (σ 0).toNat) = (us : Int) <;> simp [a1, a2, a3, h0]
        rw [e2, Bool.or_assoc]
      · rw [decide_eq_false h2]; simp
    · rw [if_neg h1, if_neg h1]
      by_cases h2 : us = ua
      · subst h2; simp
      · have h3 : ¬ ((us : Int) = (ua : Int)) := by omega
        simp only [if_neg h2, if_neg h3]
  rw [hM]
  clear hM hf
  generalize m_mem E σ ua = was at *
  generalize m_mem E σ us = mS at *
  generalize m_lev E σ ua = vA at *
  generalize m_lev E σ us = vS at *
  generalize (decide (σ 14 < 0) || decide (e_b (E (σ 14).toNat) = 0)) = bO at *
  generalize decide (0 ≤ σ 0 ∧ e_sd (E (σ 0).toNat) = (ua : Int) ∧ σ 13 < 0 ∧ σ (1 + ua) < 0) = bM at *
  show Ev tLaw_allowsMember 0 [some (vR s), some (vR v), none, none, none] [] h _
  repeat (first | refine ev_st rfl rfl ?_ | refine ev_getf rfl (by first | assumption | exact ah_eq | (refine ah_ne (by omega) ?_; first | assumption | exact ah_eq | (refine ah_ne (by omega) ?_; first | assumption | exact ah_eq | (refine ah_ne (by omega) ?_; first | assumption | exact ah_eq)))) (by rfl) ?_)
  rw [hua]
  refine ev_callV rfl rfl hs rfl cA ?_
  repeat (first | refine ev_st rfl rfl ?_ | refine ev_getf rfl (by first | assumption | exact ah_eq | (refine ah_ne (by omega) ?_; first | assumption | exact ah_eq | (refine ah_ne (by omega) ?_; first | assumption | exact ah_eq | (refine ah_ne (by omega) ?_; first | assumption | exact ah_eq)))) (by rfl) ?_)
  by_cases h1 : e_b x = 1
  · rw [if_pos h1]
    refine ev_icF rfl (by simp only [ick, w32]; omega) ?_
    repeat (first | refine ev_st rfl rfl ?_ | refine ev_getf rfl (by first | assumption | exact ah_eq | (refine ah_ne (by omega) ?_; first | assumption | exact ah_eq | (refine ah_ne (by omega) ?_; first | assumption | exact ah_eq | (refine ah_ne (by omega) ?_; first | assumption | exact ah_eq)))) (by rfl) ?_)
    rw [hua, hus]
    by_cases h2 : us = ua
    · rw [decide_eq_true h2, Bool.true_and]
      refine ev_icF rfl (by simp only [ick, w32]; omega) ?_
      repeat (refine ev_st rfl rfl ?_)
      by_cases h3 : was = 3
      · rw [decide_eq_true h3]
        refine ev_icT rfl (by simp only [ick, w32]; omega) ?_
        repeat (refine ev_st rfl rfl ?_)
        exact ev_rt rfl rfl rfl
      · rw [decide_eq_false h3]
        refine ev_icF rfl (by simp only [ick, w32]; omega) ?_
        repeat (refine ev_st rfl rfl ?_)
        refine ev_callV rfl rfl hs rfl cO ?_
        cases bO with
        | true =>
          refine ev_zneT rfl rfl ?_
          repeat (refine ev_st rfl rfl ?_)
          exact ev_rt rfl rfl rfl
        | false =>
          refine ev_zneF rfl rfl ?_
          repeat (refine ev_st rfl rfl ?_)
          by_cases h4 : was = 1
          · rw [decide_eq_true h4]
            refine ev_icT rfl (by simp only [ick, w32]; omega) ?_
            repeat (refine ev_st rfl rfl ?_)
            exact ev_rt rfl rfl rfl
          · rw [decide_eq_false h4]
            refine ev_icF rfl (by simp only [ick, w32]; omega) ?_
            repeat (refine ev_st rfl rfl ?_)
            by_cases h5 : was = 2
            · rw [decide_eq_true h5]
              refine ev_icT rfl (by simp only [ick, w32]; omega) ?_
              repeat (refine ev_st rfl rfl ?_)
              exact ev_rt rfl rfl rfl
            · rw [decide_eq_false h5]
              refine ev_icF rfl (by simp only [ick, w32]; omega) ?_
              repeat (first | refine ev_st rfl rfl ?_ | refine ev_getf rfl (by first | assumption | exact ah_eq | (refine ah_ne (by omega) ?_; first | assumption | exact ah_eq | (refine ah_ne (by omega) ?_; first | assumption | exact ah_eq | (refine ah_ne (by omega) ?_; first | assumption | exact ah_eq)))) (by rfl) ?_)
              rw [hua]
              refine ev_callV rfl rfl hs rfl cM ?_
              cases bM with
              | true =>
                refine ev_zeqF rfl rfl ?_
                repeat (refine ev_st rfl rfl ?_)
                exact ev_rt rfl rfl rfl
              | false =>
                refine ev_zeqT rfl rfl ?_
                repeat (refine ev_st rfl rfl ?_)
                exact ev_rt rfl rfl rfl
    · rw [decide_eq_false h2, Bool.false_and]
      refine ev_icT rfl (by simp only [ick, w32]; omega) ?_
      repeat (refine ev_st rfl rfl ?_)
      exact ev_rt rfl rfl rfl
  rw [if_neg h1]
  refine ev_icT rfl (by simp only [ick, w32]; omega) ?_
  repeat (first | refine ev_st rfl rfl ?_ | refine ev_getf rfl (by first | assumption | exact ah_eq | (refine ah_ne (by omega) ?_; first | assumption | exact ah_eq | (refine ah_ne (by omega) ?_; first | assumption | exact ah_eq | (refine ah_ne (by omega) ?_; first | assumption | exact ah_eq)))) (by rfl) ?_)
  -- the rest is asked of the sender
  have rest : ∀ M : Bool, (mS = 1 → M = if e_b x = 2 then !decide (was = 1) && !decide (was = 3) else if e_b x = 0 then (decide (50 ≤ vS) && decide (vA < vS)) && !decide (was = 0) else if e_b x = 3 then decide (50 ≤ vS) && decide (vA < vS) else false) → (¬ mS = 1 → M = false) → Ev tLaw_allowsMember 101 [some (vR s), some (vR v), some (.inl was), none, none] [] h (some (vB M), h) := by
    intro M hM1 hM2
    repeat (first | refine ev_st rfl rfl ?_ | refine ev_getf rfl (by first | assumption | exact ah_eq | (refine ah_ne (by omega) ?_; first | assumption | exact ah_eq | (refine ah_ne (by omega) ?_; first | assumption | exact ah_eq | (refine ah_ne (by omega) ?_; first | assumption | exact ah_eq)))) (by rfl) ?_)
    rw [hus]
    refine ev_callV rfl rfl hs rfl cS ?_
    repeat (refine ev_st rfl rfl ?_)
    by_cases h2 : mS = 1
    · rw [hM1 h2]
      refine ev_icT rfl (by simp only [ick, w32]; omega) ?_
      repeat (first | refine ev_st rfl rfl ?_ | refine ev_getf rfl (by first | assumption | exact ah_eq | (refine ah_ne (by omega) ?_; first | assumption | exact ah_eq | (refine ah_ne (by omega) ?_; first | assumption | exact ah_eq | (refine ah_ne (by omega) ?_; first | assumption | exact ah_eq)))) (by rfl) ?_)
      rw [hus]
      refine ev_callV rfl rfl hs rfl lS ?_
      repeat (refine ev_st rfl rfl ?_)
      have last : ∀ ab : Bool, ab = (decide (50 ≤ vS) && decide (vA < vS)) → Ev tLaw_allowsMember 147 [some (vR s), some (vR v), some (.inl was), some (.inl vS), none] [vB ab] h (some (vB (if e_b x = 2 then !decide (was = 1) && !decide (was = 3) else if e_b x = 0 then ab && !decide (was = 0) else if e_b x = 3 then ab else false)), h) := by
        intro ab _
        repeat (first | refine ev_st rfl rfl ?_ | refine ev_getf rfl (by first | assumption | exact ah_eq | (refine ah_ne (by omega) ?_; first | assumption | exact ah_eq | (refine ah_ne (by omega) ?_; first | assumption | exact ah_eq | (refine ah_ne (by omega) ?_; first | assumption | exact ah_eq)))) (by rfl) ?_)
        by_cases k2 : e_b x = 2
        · rw [if_pos k2, k2]
          refine ev_sw rfl (pc' := 184) (by decide) rfl ?_
          repeat (refine ev_st rfl rfl ?_)
          by_cases k3 : was = 1
          · rw [decide_eq_true k3]
            refine ev_icT rfl (by simp only [ick, w32]; omega) ?_
            repeat (refine ev_st rfl rfl ?_)
            exact ev_rt rfl rfl rfl
          · rw [decide_eq_false k3]
            refine ev_icF rfl (by simp only [ick, w32]; omega) ?_
            repeat (refine ev_st rfl rfl ?_)
            by_cases k4 : was = 3
            · rw [decide_eq_true k4]
              refine ev_icT rfl (by simp only [ick, w32]; omega) ?_
              repeat (refine ev_st rfl rfl ?_)
              exact ev_rt rfl rfl rfl
            · rw [decide_eq_false k4]
              refine ev_icF rfl (by simp only [ick, w32]; omega) ?_
              repeat (refine ev_st rfl rfl ?_)
              exact ev_rt rfl rfl rfl
        rw [if_neg k2]
        by_cases k0 : e_b x = 0
        · rw [if_pos k0, k0]
          refine ev_sw rfl (pc' := 200) (by decide) rfl ?_
          repeat (refine ev_st rfl rfl ?_)
          cases ab with
          | true =>
            refine ev_zeqF rfl rfl ?_
            repeat (refine ev_st rfl rfl ?_)
            by_cases k3 : was = 0
            · rw [decide_eq_true k3]
              refine ev_ifT rfl (by simp only [ick, w32]; omega) ?_
              repeat (refine ev_st rfl rfl ?_)
              exact ev_rt rfl rfl rfl
            · rw [decide_eq_false k3]
              refine ev_ifF rfl (by simp only [ick, w32]; omega) ?_
              repeat (refine ev_st rfl rfl ?_)
              exact ev_rt rfl rfl rfl
          | false =>
            refine ev_zeqT rfl rfl ?_
            repeat (refine ev_st rfl rfl ?_)
            exact ev_rt rfl rfl rfl
        rw [if_neg k0]
        by_cases k3 : e_b x = 3
        · rw [if_pos k3, k3]
          refine ev_sw rfl (pc' := 215) (by decide) rfl ?_
          repeat (refine ev_st rfl rfl ?_)
          cases ab <;> exact ev_rt rfl rfl rfl
        rw [if_neg k3]
        refine ev_sw rfl (pc' := 218) (by rw [w32_id (by omega) (by omega)]; simp only [ai_sw]; rw [if_neg (by omega), if_neg (by omega), if_neg (by omega)]) rfl ?_
        repeat (refine ev_st rfl rfl ?_)
        exact ev_rt rfl rfl rfl
      by_cases k5 : 50 ≤ vS
      · refine ev_icF rfl (by simp only [ick, w32]; omega) ?_
        repeat (first | refine ev_st rfl rfl ?_ | refine ev_getf rfl (by first | assumption | exact ah_eq | (refine ah_ne (by omega) ?_; first | assumption | exact ah_eq | (refine ah_ne (by omega) ?_; first | assumption | exact ah_eq | (refine ah_ne (by omega) ?_; first | assumption | exact ah_eq)))) (by rfl) ?_)
        rw [hua]
        refine ev_callV rfl rfl hs rfl lA ?_
        by_cases k6 : vA < vS
        · refine ev_icF rfl (by simp only [ick, w32]; omega) ?_
          iterate 2 (refine ev_st rfl rfl ?_)
          rw [decide_eq_true k5, decide_eq_true k6]
          exact last true (by rw [decide_eq_true k5, decide_eq_true k6]; rfl)
        · refine ev_icT rfl (by simp only [ick, w32]; omega) ?_
          iterate 1 (refine ev_st rfl rfl ?_)
          rw [decide_eq_true k5, decide_eq_false k6]
          exact last false (by rw [decide_eq_true k5, decide_eq_false k6]; rfl)
      · refine ev_icT rfl (by simp only [ick, w32]; omega) ?_
        iterate 1 (refine ev_st rfl rfl ?_)
        rw [decide_eq_false k5]
        exact last false (by rw [decide_eq_false k5]; rfl)
    · rw [hM2 h2]
      refine ev_icF rfl (by simp only [ick, w32]; omega) ?_
      repeat (refine ev_st rfl rfl ?_)
      exact ev_rt rfl rfl rfl
  by_cases hb0 : e_b x = 0
  · rw [if_neg (show ¬ e_b x = 2 by omega), if_pos hb0]
    refine ev_ifF rfl (by simp only [ick, w32]; omega) ?_
    repeat (first | refine ev_st rfl rfl ?_ | refine ev_getf rfl (by first | assumption | exact ah_eq | (refine ah_ne (by omega) ?_; first | assumption | exact ah_eq | (refine ah_ne (by omega) ?_; first | assumption | exact ah_eq | (refine ah_ne (by omega) ?_; first | assumption | exact ah_eq)))) (by rfl) ?_)
    rw [hua, hus]
    by_cases h2 : us = ua
    · rw [if_pos h2]
      refine ev_icF rfl (by simp only [ick, w32]; omega) ?_
      repeat (refine ev_st rfl rfl ?_)
      by_cases k3 : was = 1
      · rw [decide_eq_true k3]
        refine ev_icT rfl (by simp only [ick, w32]; omega) ?_
        repeat (refine ev_st rfl rfl ?_)
        exact ev_rt rfl rfl rfl
      · rw [decide_eq_false k3]
        refine ev_icF rfl (by simp only [ick, w32]; omega) ?_
        repeat (refine ev_st rfl rfl ?_)
        by_cases k4 : was = 2
        · rw [decide_eq_true k4]
          refine ev_icF rfl (by simp only [ick, w32]; omega) ?_
          repeat (refine ev_st rfl rfl ?_)
          exact ev_rt rfl rfl rfl
        · rw [decide_eq_false k4]
          refine ev_icT rfl (by simp only [ick, w32]; omega) ?_
          repeat (refine ev_st rfl rfl ?_)
          exact ev_rt rfl rfl rfl
    · rw [if_neg h2]
      refine ev_icT rfl (by simp only [ick, w32]; omega) ?_
      refine rest _ (fun q => ?_) (fun q => ?_)
      · rw [if_neg (show ¬ e_b x = 2 by omega), if_pos hb0, decide_eq_true q]; rfl
      · rw [decide_eq_false q]; rfl
  · refine ev_ifT rfl (by simp only [ick, w32]; omega) ?_
    refine rest _ (fun q => ?_) (fun q => ?_)
    · rw [decide_eq_true q, if_neg hb0, if_neg hb0]; rfl
    · rw [decide_eq_false q, if_neg hb0]
      split
      · rfl
      · split <;> rfl
