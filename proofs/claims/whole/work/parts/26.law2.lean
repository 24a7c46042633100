-- Law: allowsLevels, allows, isProper
set_option maxHeartbeats 4000000 in
theorem l_levels {h : AH} {R : Nat → Prop} {ad : Nat → Nat} {N : Nat} {E : EL} {σ : SS} {s p : Nat} (hS : stR h ad s σ) (hs : h.2.2 s = some (cSt p)) (hL : LG h R ad N E) (hW : WE N E) (hσ : sOK N E σ) {v n c pa la : Nat} {x : ED} {gr er bh : Option Nat} {sl gd : Int} {fl : Nat → Int} (hv : h.2.2 v = some (cEv n x c pa gr sl (some la) er bh gd)) (hla : h.2.2 la = some (cIa 12 fl)) (hfl : ∀ u, u < 12 → fl u = e_lv x u) (hlv : ∀ u, u < 12 → -100 ≤ e_lv x u ∧ e_lv x u ≤ 100) {us : Nat} (hus : e_sd x = us) (hus2 : us < 12) (B : Bool) (hB : B = m_levels E x σ) : ∀ (k i : Nat) (j4 j5 : Option AV), i + k = 12 → (∀ u, u < i → (decide (m_lev E σ u = e_lv x u) || (decide (m_lev E σ u ≤ m_lev E σ us) && (decide (e_lv x u ≤ m_lev E σ us) && (decide ((u : Int) = us) || decide (m_lev E σ u < m_lev E σ us))))) = true) → Ev tLaw_allowsLevels 20 [some (vR s), some (vR v), some (.inl (m_lev E σ us)), some (.inl (i : Int)), j4, j5] [] h (some (vB B), h) := by
  intro k
  induction k with
  | zero =>
    intro i j4 j5 hi hb
    obtain rfl : i = 12 := by omega
    have hBt : B = true := by
      rw [hB]
      unfold m_levels
      rw [b_all_iff, hus]
      exact hb
    rw [hBt]
    clear hb hB hBt hfl hlv
    repeat (first | refine ev_st rfl rfl ?_ | refine ev_getf rfl (by first | assumption | exact ah_eq | (refine ah_ne (by omega) ?_; first | assumption | exact ah_eq | (refine ah_ne (by omega) ?_; first | assumption | exact ah_eq | (refine ah_ne (by omega) ?_; first | assumption | exact ah_eq)))) (by rfl) ?_ | refine ev_ifT rfl (by simp only [ick, w32]; omega) ?_ | refine ev_ifF rfl (by simp only [ick, w32]; omega) ?_ | refine ev_icT rfl (by simp only [ick, w32]; omega) ?_ | refine ev_icF rfl (by simp only [ick, w32]; omega) ?_)
    exact ev_rt rfl rfl rfl
  | succ k ih =>
    intro i j4 j5 hi hb
    have hbad : (decide (m_lev E σ i = e_lv x i) || (decide (m_lev E σ i ≤ m_lev E σ us) && (decide (e_lv x i ≤ m_lev E σ us) && (decide ((i : Int) = us) || decide (m_lev E σ i < m_lev E σ us))))) = false → B = false := by
      intro hq
      rw [hB, ← Bool.not_eq_true]
      unfold m_levels
      rw [b_all_iff, hus]
      intro hall
      have := hall i (by omega)
      rw [hq] at this
      cases this
    have hgood : (decide (m_lev E σ i = e_lv x i) || (decide (m_lev E σ i ≤ m_lev E σ us) && (decide (e_lv x i ≤ m_lev E σ us) && (decide ((i : Int) = us) || decide (m_lev E σ i < m_lev E σ us))))) = true → Ev tLaw_allowsLevels 20 [some (vR s), some (vR v), some (.inl (m_lev E σ us)), some (.inl ((i + 1 : Nat) : Int)), some (.inl (m_lev E σ i)), some (.inl (e_lv x i))] [] h (some (vB B), h) := by
      intro hq
      refine ih (i + 1) _ _ (by omega) (fun u hu => ?_)
      by_cases h1 : u = i
      · subst h1; exact hq
      · exact hb u (by omega)
    have r1 := lev_rng hW hσ (u := i) (by omega)
    have r2 := lev_rng hW hσ hus2
    have r3 := hlv i (by omega)
    have cl := c_levelOf hS hL hW hσ (u := i) (by omega)
    clear hb ih hB
    repeat (first | refine ev_st rfl rfl ?_ | refine ev_getf rfl (by first | assumption | exact ah_eq | (refine ah_ne (by omega) ?_; first | assumption | exact ah_eq | (refine ah_ne (by omega) ?_; first | assumption | exact ah_eq | (refine ah_ne (by omega) ?_; first | assumption | exact ah_eq)))) (by rfl) ?_ | refine ev_ifT rfl (by simp only [ick, w32]; omega) ?_ | refine ev_ifF rfl (by simp only [ick, w32]; omega) ?_ | refine ev_icT rfl (by simp only [ick, w32]; omega) ?_ | refine ev_icF rfl (by simp only [ick, w32]; omega) ?_)
    refine ev_callV rfl rfl hs rfl cl ?_
    repeat (first | refine ev_st rfl rfl ?_ | refine ev_getf rfl (by first | assumption | exact ah_eq | (refine ah_ne (by omega) ?_; first | assumption | exact ah_eq | (refine ah_ne (by omega) ?_; first | assumption | exact ah_eq | (refine ah_ne (by omega) ?_; first | assumption | exact ah_eq)))) (by rfl) ?_ | refine ev_ifT rfl (by simp only [ick, w32]; omega) ?_ | refine ev_ifF rfl (by simp only [ick, w32]; omega) ?_ | refine ev_icT rfl (by simp only [ick, w32]; omega) ?_ | refine ev_icF rfl (by simp only [ick, w32]; omega) ?_)
    refine ev_ialdN rfl (by first | assumption | exact ah_eq | (refine ah_ne (by omega) ?_; first | assumption | exact ah_eq | (refine ah_ne (by omega) ?_; first | assumption | exact ah_eq | (refine ah_ne (by omega) ?_; first | assumption | exact ah_eq)))) (by omega) (by omega) ?_
    rw [hfl i (by omega)]
    clear cl hfl hlv
    generalize m_lev E σ i = wa at *
    generalize m_lev E σ us = mo at *
    generalize e_lv x i = wi at *
    repeat (refine ev_st rfl rfl ?_)
    by_cases k1 : wa = wi
    · refine ev_icT rfl (by simp only [ick, w32]; omega) ?_
      iterate 2 (refine ev_st rfl rfl ?_)
      rw [nat_1]
      exact hgood (by rw [decide_eq_true k1]; rfl)
    · refine ev_icF rfl (by simp only [ick, w32]; omega) ?_
      rw [decide_eq_false k1, Bool.false_or] at hgood hbad
      repeat (refine ev_st rfl rfl ?_)
      by_cases k2 : wa ≤ mo
      · refine ev_icF rfl (by simp only [ick, w32]; omega) ?_
        rw [decide_eq_true k2, Bool.true_and] at hgood hbad
        repeat (refine ev_st rfl rfl ?_)
        by_cases k3 : wi ≤ mo
        · refine ev_icF rfl (by simp only [ick, w32]; omega) ?_
          rw [decide_eq_true k3, Bool.true_and] at hgood hbad
          repeat (first | refine ev_st rfl rfl ?_ | refine ev_getf rfl (by first | assumption | exact ah_eq | (refine ah_ne (by omega) ?_; first | assumption | exact ah_eq | (refine ah_ne (by omega) ?_; first | assumption | exact ah_eq | (refine ah_ne (by omega) ?_; first | assumption | exact ah_eq)))) (by rfl) ?_ | refine ev_ifT rfl (by simp only [ick, w32]; omega) ?_ | refine ev_ifF rfl (by simp only [ick, w32]; omega) ?_ | refine ev_icT rfl (by simp only [ick, w32]; omega) ?_ | refine ev_icF rfl (by simp only [ick, w32]; omega) ?_)
          rw [hus]
          by_cases k4 : (i : Int) = us
          · refine ev_icT rfl (by simp only [ick, w32]; omega) ?_
            iterate 2 (refine ev_st rfl rfl ?_)
            rw [nat_1]
            exact hgood (by rw [decide_eq_true k4]; rfl)
          · refine ev_icF rfl (by simp only [ick, w32]; omega) ?_
            rw [decide_eq_false k4, Bool.false_or] at hgood hbad
            repeat (refine ev_st rfl rfl ?_)
            by_cases k5 : wa < mo
            · refine ev_icT rfl (by simp only [ick, w32]; omega) ?_
              iterate 2 (refine ev_st rfl rfl ?_)
              rw [nat_1]
              exact hgood (decide_eq_true k5)
            · refine ev_icF rfl (by simp only [ick, w32]; omega) ?_
              rw [hbad (decide_eq_false k5)]
              repeat (refine ev_st rfl rfl ?_)
              exact ev_rt rfl rfl rfl
        · refine ev_icT rfl (by simp only [ick, w32]; omega) ?_
          rw [hbad (by rw [decide_eq_false k3]; rfl)]
          repeat (refine ev_st rfl rfl ?_)
          exact ev_rt rfl rfl rfl
      · refine ev_icT rfl (by simp only [ick, w32]; omega) ?_
        rw [hbad (by rw [decide_eq_false k2]; rfl)]
        repeat (refine ev_st rfl rfl ?_)
        exact ev_rt rfl rfl rfl
theorem c_allowsLevels {h : AH} {R : Nat → Prop} {ad : Nat → Nat} {N : Nat} {E : EL} {σ : SS} {s : Nat} (hS : stR h ad s σ) (hL : LG h R ad N E) (hW : WE N E) (hσ : sOK N E σ) {v n c pa : Nat} {x : ED} {gr lv er bh : Option Nat} {sl gd : Int} (hv : h.2.2 v = some (cEv n x c pa gr sl lv er bh gd)) (wf : wfE x) (hk : e_kd x = 2) (hlv : lvR h x lv) : Em mLaw_allowsLevels 4 [vR s, vR v] h (some (vB (m_levels E x σ))) h := by
  obtain ⟨us, hus, hus2⟩ : ∃ u : Nat, e_sd x = u ∧ u < 12 := ⟨(e_sd x).toNat, by have := wf.1; omega, by have := wf.1; omega⟩
  obtain ⟨la, fl, rfl, hla, hfl⟩ := hlv.1 hk
  obtain ⟨p, f, hs, hp, hf⟩ := id hS
  show Ev tLaw_allowsLevels 0 [some (vR s), some (vR v), none, none, none, none] [] h _
  repeat (first | refine ev_st rfl rfl ?_ | refine ev_getf rfl (by first | assumption | exact ah_eq | (refine ah_ne (by omega) ?_; first | assumption | exact ah_eq | (refine ah_ne (by omega) ?_; first | assumption | exact ah_eq | (refine ah_ne (by omega) ?_; first | assumption | exact ah_eq)))) (by rfl) ?_)
  rw [hus]
  refine ev_callV rfl rfl hs rfl (c_levelOf hS hL hW hσ hus2) ?_
  iterate 3 (refine ev_st rfl rfl ?_)
  exact l_levels hS hs hL hW hσ hv hla hfl (wf.2.2.2.2.2.2.2 hk) hus hus2 _ rfl 12 0 none none rfl (fun u hu => absurd hu (by omega))
set_option maxHeartbeats 4000000 in
theorem c_allows {h : AH} {R : Nat → Prop} {ad : Nat → Nat} {N : Nat} {E : EL} {σ : SS} {s : Nat} (hS : stR h ad s σ) (hL : LG h R ad N E) (hW : WE N E) (hσ : sOK N E σ) {v n c pa : Nat} {x : ED} {gr lv er bh : Option Nat} {sl gd : Int} (hv : h.2.2 v = some (cEv n x c pa gr sl lv er bh gd)) (wf : wfE x) (hlv : lvR h x lv) {pf : Nat → Option Nat} (hpa : h.2.2 pa = some (cEa (e_pa x).length pf)) (hpl : (e_pa x).length ≤ 1000) : Em mLaw_allows 1 [vR s, vR v] h (some (vB (m_allow E x σ))) h := by
  obtain ⟨us, hus, hus2⟩ : ∃ u : Nat, e_sd x = u ∧ u < 12 := ⟨(e_sd x).toNat, by have := wf.1; omega, by have := wf.1; omega⟩
  have hkr := wf.2.1
  have hb := wf.2.2.2.2.2.1
  unfold InR at hb
  obtain ⟨p, f, hs, hp, hf⟩ := id hS
  show Ev tLaw_allows 0 [some (vR s), some (vR v), none] [] h _
  unfold m_allow
  rw [hus]
  repeat (first | refine ev_st rfl rfl ?_ | refine ev_getf rfl (by first | assumption | exact ah_eq | (refine ah_ne (by omega) ?_; first | assumption | exact ah_eq | (refine ah_ne (by omega) ?_; first | assumption | exact ah_eq | (refine ah_ne (by omega) ?_; first | assumption | exact ah_eq)))) (by rfl) ?_)
  by_cases k0 : e_kd x = 0
  · rw [if_pos k0]
    refine ev_ifF rfl (by simp only [ick, w32]; omega) ?_
    repeat (first | refine ev_st rfl rfl ?_ | refine ev_getf rfl (by first | assumption | exact ah_eq | (refine ah_ne (by omega) ?_; first | assumption | exact ah_eq | (refine ah_ne (by omega) ?_; first | assumption | exact ah_eq | (refine ah_ne (by omega) ?_; first | assumption | exact ah_eq)))) (by rfl) ?_)
    refine ev_alen rfl hpa ?_
    by_cases hz : (e_pa x).length = 0
    · rw [decide_eq_true hz]
      refine ev_ifF rfl (by simp only [ick, w32]; omega) ?_
      repeat (refine ev_st rfl rfl ?_)
      exact ev_rt rfl rfl rfl
    · rw [decide_eq_false hz]
      refine ev_ifT rfl (by simp only [ick, w32]; omega) ?_
      repeat (refine ev_st rfl rfl ?_)
      exact ev_rt rfl rfl rfl
  rw [if_neg k0]
  refine ev_ifT rfl (by simp only [ick, w32]; omega) ?_
  repeat (refine ev_st rfl rfl ?_)
  refine ev_callV rfl rfl hs rfl (c_at hs hp (i := 0) (by omega)) ?_
  rw [hf 0 (by omega), show pi_ 0 = 0 by rfl]
  by_cases h0 : σ 0 < 0
  · rw [if_pos h0, show oa ad (σ 0) = none from if_pos h0]
    repeat (refine ev_st rfl rfl ?_)
    exact ev_rt rfl rfl rfl
  rw [if_neg h0, show oa ad (σ 0) = some (ad (σ 0).toNat) from if_neg h0]
  repeat (first | refine ev_st rfl rfl ?_ | refine ev_getf rfl (by first | assumption | exact ah_eq | (refine ah_ne (by omega) ?_; first | assumption | exact ah_eq | (refine ah_ne (by omega) ?_; first | assumption | exact ah_eq | (refine ah_ne (by omega) ?_; first | assumption | exact ah_eq)))) (by rfl) ?_)
  by_cases k1 : e_kd x = 1
  · rw [if_pos k1]
    refine ev_icF rfl (by simp only [ick, w32]; omega) ?_
    repeat (refine ev_st rfl rfl ?_)
    refine ev_cl rfl rfl (c_allowsMember hS hL hW hσ hv wf k1 (by omega)) ?_
    cases m_member E x σ <;> exact ev_rt rfl rfl rfl
  rw [if_neg k1]
  refine ev_icT rfl (by simp only [ick, w32]; omega) ?_
  repeat (first | refine ev_st rfl rfl ?_ | refine ev_getf rfl (by first | assumption | exact ah_eq | (refine ah_ne (by omega) ?_; first | assumption | exact ah_eq | (refine ah_ne (by omega) ?_; first | assumption | exact ah_eq | (refine ah_ne (by omega) ?_; first | assumption | exact ah_eq)))) (by rfl) ?_)
  rw [hus]
  refine ev_callV rfl rfl hs rfl (c_memb hS hL hW hσ hus2) ?_
  have rS := mem_rng hW hσ us
  have qS := lev_rng hW hσ hus2
  have lS := c_levelOf hS hL hW hσ hus2
  unfold InR at rS
  generalize m_mem E σ us = mS at *
  repeat (refine ev_st rfl rfl ?_)
  by_cases hm : mS = 1
  · rw [if_pos hm]
    refine ev_icT rfl (by simp only [ick, w32]; omega) ?_
    repeat (first | refine ev_st rfl rfl ?_ | refine ev_getf rfl (by first | assumption | exact ah_eq | (refine ah_ne (by omega) ?_; first | assumption | exact ah_eq | (refine ah_ne (by omega) ?_; first | assumption | exact ah_eq | (refine ah_ne (by omega) ?_; first | assumption | exact ah_eq)))) (by rfl) ?_)
    rw [hus]
    refine ev_callV rfl rfl hs rfl lS ?_
    have last : ∀ st : Bool, st = decide (50 ≤ m_lev E σ us) → Ev tLaw_allows 77 [some (vR s), some (vR v), none] [vB st] h (some (vB (if e_kd x = 5 then true else if m_lev E σ us < 50 then false else if e_kd x = 2 then m_levels E x σ else decide (e_kd x = 4) || (decide (e_b x = 0) || decide (e_b x = 1)))), h) := by
      intro st hst
      have cv := fun k2 => c_allowsLevels hS hL hW hσ hv wf k2 hlv
      generalize m_levels E x σ = bL at *
      generalize m_lev E σ us = vS at *
      repeat (first | refine ev_st rfl rfl ?_ | refine ev_getf rfl (by first | assumption | exact ah_eq | (refine ah_ne (by omega) ?_; first | assumption | exact ah_eq | (refine ah_ne (by omega) ?_; first | assumption | exact ah_eq | (refine ah_ne (by omega) ?_; first | assumption | exact ah_eq)))) (by rfl) ?_)
      by_cases k2 : e_kd x = 2
      · have cv := cv k2
        rw [if_neg (show ¬ e_kd x = 5 by omega), if_pos k2, k2]
        refine ev_sw rfl (pc' := 108) (by decide) rfl ?_
        repeat (refine ev_st rfl rfl ?_)
        by_cases h5 : 50 ≤ vS
        · rw [decide_eq_true h5] at hst
          rw [if_neg (by omega), hst]
          refine ev_zeqF rfl rfl ?_
          repeat (refine ev_st rfl rfl ?_)
          refine ev_cl rfl rfl cv ?_
          cases bL with
          | true =>
            refine ev_zeqF rfl rfl ?_
            repeat (refine ev_st rfl rfl ?_)
            exact ev_rt rfl rfl rfl
          | false =>
            refine ev_zeqT rfl rfl ?_
            repeat (refine ev_st rfl rfl ?_)
            exact ev_rt rfl rfl rfl
        · rw [decide_eq_false h5] at hst
          rw [if_pos (by omega), hst]
          refine ev_zeqT rfl rfl ?_
          repeat (refine ev_st rfl rfl ?_)
          exact ev_rt rfl rfl rfl
      clear cv
      by_cases k3 : e_kd x = 3
      · rw [if_neg (show ¬ e_kd x = 5 by omega), if_neg k2, decide_eq_false (show ¬ e_kd x = 4 by omega), Bool.false_or, k3]
        refine ev_sw rfl (pc' := 126) (by decide) rfl ?_
        repeat (refine ev_st rfl rfl ?_)
        by_cases h5 : 50 ≤ vS
        · rw [decide_eq_true h5] at hst
          rw [if_neg (by omega), hst]
          refine ev_zeqF rfl rfl ?_
          repeat (first | refine ev_st rfl rfl ?_ | refine ev_getf rfl (by first | assumption | exact ah_eq | (refine ah_ne (by omega) ?_; first | assumption | exact ah_eq | (refine ah_ne (by omega) ?_; first | assumption | exact ah_eq | (refine ah_ne (by omega) ?_; first | assumption | exact ah_eq)))) (by rfl) ?_)
          by_cases b0 : e_b x = 0
          · rw [decide_eq_true b0]
            refine ev_ifT rfl (by simp only [ick, w32]; omega) ?_
            repeat (refine ev_st rfl rfl ?_)
            exact ev_rt rfl rfl rfl
          · rw [decide_eq_false b0]
            refine ev_ifF rfl (by simp only [ick, w32]; omega) ?_
            repeat (first | refine ev_st rfl rfl ?_ | refine ev_getf rfl (by first | assumption | exact ah_eq | (refine ah_ne (by omega) ?_; first | assumption | exact ah_eq | (refine ah_ne (by omega) ?_; first | assumption | exact ah_eq | (refine ah_ne (by omega) ?_; first | assumption | exact ah_eq)))) (by rfl) ?_)
            by_cases b1 : e_b x = 1
            · rw [decide_eq_true b1]
              refine ev_icF rfl (by simp only [ick, w32]; omega) ?_
              repeat (refine ev_st rfl rfl ?_)
              exact ev_rt rfl rfl rfl
            · rw [decide_eq_false b1]
              refine ev_icT rfl (by simp only [ick, w32]; omega) ?_
              repeat (refine ev_st rfl rfl ?_)
              exact ev_rt rfl rfl rfl
        · rw [decide_eq_false h5] at hst
          rw [if_pos (by omega), hst]
          refine ev_zeqT rfl rfl ?_
          repeat (refine ev_st rfl rfl ?_)
          exact ev_rt rfl rfl rfl
      by_cases k4 : e_kd x = 4
      · rw [if_neg (show ¬ e_kd x = 5 by omega), if_neg k2, decide_eq_true k4, Bool.true_or, k4]
        refine ev_sw rfl (pc' := 151) (by decide) rfl ?_
        repeat (refine ev_st rfl rfl ?_)
        by_cases h5 : 50 ≤ vS
        · rw [decide_eq_true h5] at hst
          rw [if_neg (by omega), hst]
          exact ev_rt rfl rfl rfl
        · rw [decide_eq_false h5] at hst
          rw [if_pos (by omega), hst]
          exact ev_rt rfl rfl rfl
      have k5 : e_kd x = 5 := by omega
      rw [if_pos k5, k5]
      refine ev_sw rfl (pc' := 153) (by decide) rfl ?_
      repeat (refine ev_st rfl rfl ?_)
      exact ev_rt rfl rfl rfl
    repeat (refine ev_st rfl rfl ?_)
    by_cases h5 : 50 ≤ m_lev E σ us
    · refine ev_icF rfl (by simp only [ick, w32]; omega) ?_
      iterate 2 (refine ev_st rfl rfl ?_)
      exact last true (decide_eq_true h5).symm
    · refine ev_icT rfl (by simp only [ick, w32]; omega) ?_
      iterate 1 (refine ev_st rfl rfl ?_)
      exact last false (decide_eq_false h5).symm
  · rw [if_neg hm]
    refine ev_icF rfl (by simp only [ick, w32]; omega) ?_
    repeat (refine ev_st rfl rfl ?_)
    exact ev_rt rfl rfl rfl
def m_prop (u k a b : Int) : Bool := decide (0 ≤ u ∧ u < 12) && (if k = 0 ∨ k = 3 ∨ k = 5 then true else if k = 1 then decide (0 ≤ a ∧ a < 12) else if k = 2 then decide (0 ≤ a ∧ a < 12) && decide (-100 ≤ b ∧ b ≤ 100) else if k = 4 then decide (0 ≤ a ∧ a < 8) else false)
set_option maxHeartbeats 4000000 in
theorem c_isProper {h : AH} {u k a b : Int} (hu : InR u) (hk : InR k) (ha : InR a) (hb : InR b) : Em mLaw_isProper 0 [.inl u, .inl k, .inl a, .inl b] h (some (vB (m_prop u k a b))) h := by
  have cU := c_isUser (h := h) hu
  have cA := c_isUser (h := h) ha
  unfold InR at hu hk ha hb
  show Ev tLaw_isProper 0 [some (.inl u), some (.inl k), some (.inl a), some (.inl b)] [] h _
  unfold m_prop
  repeat (refine ev_st rfl rfl ?_)
  refine ev_cl rfl rfl cU ?_
  cases hq : decide (0 ≤ u ∧ u < 12) with
  | false =>
    refine ev_zneF rfl rfl ?_
    repeat (refine ev_st rfl rfl ?_)
    exact ev_rt rfl rfl rfl
  | true =>
    rw [Bool.true_and]
    refine ev_zneT rfl rfl ?_
    repeat (refine ev_st rfl rfl ?_)
    by_cases k0 : k = 0 ∨ k = 3 ∨ k = 5
    · rw [if_pos k0]
      refine ev_sw rfl (pc' := 48) (by rcases k0 with rfl | rfl | rfl <;> decide) rfl ?_
      repeat (refine ev_st rfl rfl ?_)
      exact ev_rt rfl rfl rfl
    rw [if_neg k0]
    by_cases k1 : k = 1
    · rw [if_pos k1, k1]
      refine ev_sw rfl (pc' := 50) (by decide) rfl ?_
      repeat (refine ev_st rfl rfl ?_)
      refine ev_cl rfl rfl cA ?_
      cases decide (0 ≤ a ∧ a < 12) <;> exact ev_rt rfl rfl rfl
    rw [if_neg k1]
    by_cases k2 : k = 2
    · rw [if_pos k2, k2]
      refine ev_sw rfl (pc' := 55) (by decide) rfl ?_
      repeat (refine ev_st rfl rfl ?_)
      refine ev_cl rfl rfl cA ?_
      cases decide (0 ≤ a ∧ a < 12) with
      | false =>
        refine ev_zeqT rfl rfl ?_
        repeat (refine ev_st rfl rfl ?_)
        exact ev_rt rfl rfl rfl
      | true =>
        refine ev_zeqF rfl rfl ?_
        by_cases hbb : -100 ≤ b ∧ b ≤ 100
        · rw [decide_eq_true hbb]
          repeat (first | refine ev_st rfl rfl ?_ | refine ev_getf rfl (by first | assumption | exact ah_eq | (refine ah_ne (by omega) ?_; first | assumption | exact ah_eq | (refine ah_ne (by omega) ?_; first | assumption | exact ah_eq | (refine ah_ne (by omega) ?_; first | assumption | exact ah_eq)))) (by rfl) ?_ | refine ev_ifT rfl (by simp only [ick, w32]; omega) ?_ | refine ev_ifF rfl (by simp only [ick, w32]; omega) ?_ | refine ev_icT rfl (by simp only [ick, w32]; omega) ?_ | refine ev_icF rfl (by simp only [ick, w32]; omega) ?_)
          exact ev_rt rfl rfl rfl
        · rw [decide_eq_false hbb]
          repeat (refine ev_st rfl rfl ?_)
          refine ev_ic rfl (fun c => ?_) (fun c => ?_)
          · repeat (refine ev_st rfl rfl ?_)
            exact ev_rt rfl rfl rfl
          · simp only [ick, w32] at c
            repeat (first | refine ev_st rfl rfl ?_ | refine ev_getf rfl (by first | assumption | exact ah_eq | (refine ah_ne (by omega) ?_; first | assumption | exact ah_eq | (refine ah_ne (by omega) ?_; first | assumption | exact ah_eq | (refine ah_ne (by omega) ?_; first | assumption | exact ah_eq)))) (by rfl) ?_ | refine ev_ifT rfl (by simp only [ick, w32]; omega) ?_ | refine ev_ifF rfl (by simp only [ick, w32]; omega) ?_ | refine ev_icT rfl (by simp only [ick, w32]; omega) ?_ | refine ev_icF rfl (by simp only [ick, w32]; omega) ?_)
            exact ev_rt rfl rfl rfl
    rw [if_neg k2]
    by_cases k4 : k = 4
    · rw [if_pos k4, k4]
      refine ev_sw rfl (pc' := 80) (by decide) rfl ?_
      by_cases hbb : 0 ≤ a ∧ a < 8
      · rw [decide_eq_true hbb]
        repeat (first | refine ev_st rfl rfl ?_ | refine ev_getf rfl (by first | assumption | exact ah_eq | (refine ah_ne (by omega) ?_; first | assumption | exact ah_eq | (refine ah_ne (by omega) ?_; first | assumption | exact ah_eq | (refine ah_ne (by omega) ?_; first | assumption | exact ah_eq)))) (by rfl) ?_ | refine ev_ifT rfl (by simp only [ick, w32]; omega) ?_ | refine ev_ifF rfl (by simp only [ick, w32]; omega) ?_ | refine ev_icT rfl (by simp only [ick, w32]; omega) ?_ | refine ev_icF rfl (by simp only [ick, w32]; omega) ?_)
        exact ev_rt rfl rfl rfl
      · rw [decide_eq_false hbb]
        repeat (refine ev_st rfl rfl ?_)
        refine ev_if rfl (fun c => ?_) (fun c => ?_)
        · repeat (refine ev_st rfl rfl ?_)
          exact ev_rt rfl rfl rfl
        · simp only [ick, w32] at c
          repeat (first | refine ev_st rfl rfl ?_ | refine ev_getf rfl (by first | assumption | exact ah_eq | (refine ah_ne (by omega) ?_; first | assumption | exact ah_eq | (refine ah_ne (by omega) ?_; first | assumption | exact ah_eq | (refine ah_ne (by omega) ?_; first | assumption | exact ah_eq)))) (by rfl) ?_ | refine ev_ifT rfl (by simp only [ick, w32]; omega) ?_ | refine ev_ifF rfl (by simp only [ick, w32]; omega) ?_ | refine ev_icT rfl (by simp only [ick, w32]; omega) ?_ | refine ev_icF rfl (by simp only [ick, w32]; omega) ?_)
          exact ev_rt rfl rfl rfl
    rw [if_neg k4]
    refine ev_sw rfl (pc' := 96) (by rw [w32_id (by omega) (by omega)]; simp only [ai_sw]; rw [if_neg (by omega), if_neg (by omega), if_neg (by omega), if_neg (by omega), if_neg (by omega), if_neg (by omega)]) rfl ?_
    repeat (refine ev_st rfl rfl ?_)
    exact ev_rt rfl rfl rfl
