-- the reference: powers, allowed, placeOf, place, id
def m_lv1 (E : EL) (x : ED) (s : SS) (u : Nat) : Bool := decide (m_lev E s u = e_lv x u) || (decide (m_lev E s u ≤ m_lev E s (e_sd x)) && (decide (e_lv x u ≤ m_lev E s (e_sd x)) && (decide ((u : Int) = e_sd x) || decide (m_lev E s u < m_lev E s (e_sd x)))))
theorem b_all_F {n i : Nat} {f : Nat → Bool} (hi : i < n) (h : f i = false) : b_all n f = false := by
  cases hb : b_all n f
  · rfl
  · rw [b_all_iff.1 hb i hi] at h; cases h
theorem l_mpowers {h : AH} {M N n : Nat} {C : RM} {E : EL} {σ : SS} {sa fr : Nat} {x : ED} (hN : N ≤ 400) (q : rE C N E) (hS : rS (hM h M C) sa fr σ) (hW : WE N E) (hσ : sOK N E σ) (hn : n < 400) (hx : rF C n x) (wf : wfE x) (hk : e_kd x = 2) (hl : rL C n x) : ∀ (k i : Nat) (j6 j7 : Option AV), i + k = 12 → b_all i (m_lv1 E x σ) = true → Ev tMd_powers 17 [some (vR M), some (.inl (n : Int)), some (vR sa), some (.inl (fr : Int)), some (.inl (m_lev E σ (e_sd x))), some (.inl (i : Int)), j6, j7] [] (hM h M C) (some (vB (b_all 12 (m_lv1 E x σ))), hM h M C) := by
  obtain ⟨us, hus, hus2⟩ : ∃ u : Nat, e_sd x = u ∧ u < 12 := ⟨(e_sd x).toNat, by have := wf.1; omega, by have := wf.1; omega⟩
  have qS := lev_rng hW hσ hus2
  rw [← hus] at qS
  obtain ⟨f0, f1, f2, f3, f4⟩ := hx
  intro k
  induction k with
  | zero =>
    intro i j6 j7 hi hb
    obtain rfl : i = 12 := by omega
    rw [hb]
    iterate 2 (refine ev_st rfl rfl ?_)
    refine ev_icT rfl (by simp only [ick, w32]; omega) ?_
    iterate 1 (refine ev_st rfl rfl ?_)
    exact ev_rt rfl rfl rfl
  | succ k ih =>
    intro i j6 j7 hi hb
    have lv := c_mlevel hN q hS hW hσ (show i < 12 by omega)
    have qi := lev_rng hW hσ (show i < 12 by omega)
    have ql := wf.2.2.2.2.2.2.2 hk i (by omega)
    iterate 2 (refine ev_st rfl rfl ?_)
    refine ev_icF rfl (by simp only [ick, w32]; omega) ?_
    iterate 4 (refine ev_st rfl rfl ?_)
    refine ev_callV rfl rfl hM_0 rfl lv ?_
    iterate 2 (refine ev_st rfl rfl ?_)
    refine ev_getf rfl hM_0 (by rfl) ?_
    iterate 5 (refine ev_st rfl rfl ?_)
    refine ev_iald (12 * n + i) rfl hA9 (by simp only [w32]; omega) (by omega) ?_
    rw [hl hk i (by omega)]
    iterate 3 (refine ev_st rfl rfl ?_)
    have step : m_lv1 E x σ i = true → ∀ {j6 j7 : Option AV}, Ev tMd_powers 92 [some (vR M), some (.inl (n : Int)), some (vR sa), some (.inl (fr : Int)), some (.inl (m_lev E σ (e_sd x))), some (.inl (i : Int)), j6, j7] [] (hM h M C) (some (vB (b_all 12 (m_lv1 E x σ))), hM h M C) := by
      intro hg j6 j7
      iterate 2 (refine ev_st rfl rfl ?_)
      exact ih (i + 1) j6 j7 (by omega) (by simp [b_all, hb, hg])
    have stop : m_lv1 E x σ i = false → ∀ {j6 j7 : Option AV}, Ev tMd_powers 90 [some (vR M), some (.inl (n : Int)), some (vR sa), some (.inl (fr : Int)), some (.inl (m_lev E σ (e_sd x))), some (.inl (i : Int)), j6, j7] [] (hM h M C) (some (vB (b_all 12 (m_lv1 E x σ))), hM h M C) := by
      intro hg j6 j7
      rw [b_all_F (show i < 12 by omega) hg]
      iterate 1 (refine ev_st rfl rfl ?_)
      exact ev_rt rfl rfl rfl
    by_cases c1 : m_lev E σ i = e_lv x i
    · refine ev_icF rfl (by simp only [ick, w32]; omega) ?_
      iterate 1 (refine ev_st rfl rfl ?_)
      exact step (by simp [m_lv1, c1])
    · refine ev_icT rfl (by simp only [ick, w32]; omega) ?_
      iterate 2 (refine ev_st rfl rfl ?_)
      by_cases c2 : m_lev E σ i ≤ m_lev E σ (e_sd x)
      · refine ev_icF rfl (by simp only [ick, w32]; omega) ?_
        iterate 2 (refine ev_st rfl rfl ?_)
        by_cases c3 : e_lv x i ≤ m_lev E σ (e_sd x)
        · refine ev_icF rfl (by simp only [ick, w32]; omega) ?_
          iterate 2 (refine ev_st rfl rfl ?_)
          refine ev_getf rfl hM_0 (by rfl) ?_
          iterate 1 (refine ev_st rfl rfl ?_)
          refine ev_iald n rfl hA0 (by simp only [w32]; omega) (by omega) ?_
          rw [f0]
          by_cases c4 : (i : Int) = e_sd x
          · refine ev_icT rfl (by rw [← c4]; rfl) ?_
            exact step (by unfold m_lv1; rw [decide_eq_true c2, decide_eq_true c3, decide_eq_true c4]; simp)
          · refine ev_icF rfl (by simp only [ick, w32]; omega) ?_
            iterate 2 (refine ev_st rfl rfl ?_)
            by_cases c5 : m_lev E σ i < m_lev E σ (e_sd x)
            · refine ev_icT rfl (by simp only [ick, w32]; omega) ?_
              exact step (by unfold m_lv1; rw [decide_eq_true c2, decide_eq_true c3, decide_eq_true c5]; simp)
            · refine ev_icF rfl (by simp only [ick, w32]; omega) ?_
              exact stop (by unfold m_lv1; rw [decide_eq_false c1, decide_eq_false c5, decide_eq_false c4]; simp)
        · refine ev_icT rfl (by simp only [ick, w32]; omega) ?_
          exact stop (by unfold m_lv1; rw [decide_eq_false c1, decide_eq_false c3]; simp)
      · refine ev_icT rfl (by simp only [ick, w32]; omega) ?_
        exact stop (by unfold m_lv1; rw [decide_eq_false c1, decide_eq_false c2]; simp)
theorem c_mpowers {h : AH} {M N n : Nat} {C : RM} {E : EL} {σ : SS} {sa fr : Nat} {x : ED} (hN : N ≤ 400) (q : rE C N E) (hS : rS (hM h M C) sa fr σ) (hW : WE N E) (hσ : sOK N E σ) (hn : n < 400) (hx : rF C n x) (wf : wfE x) (hk : e_kd x = 2) (hl : rL C n x) : Em mMd_powers 4 [vR M, .inl (n : Int), vR sa, .inl (fr : Int)] (hM h M C) (some (vB (m_levels E x σ))) (hM h M C) := by
  obtain ⟨us, hus, hus2⟩ : ∃ u : Nat, e_sd x = u ∧ u < 12 := ⟨(e_sd x).toNat, by have := wf.1; omega, by have := wf.1; omega⟩
  have lv := c_mlevel hN q hS hW hσ hus2
  rw [← hus] at lv
  show Ev tMd_powers 0 [some (vR M), some (.inl (n : Int)), some (vR sa), some (.inl (fr : Int)), none, none, none, none] [] _ _
  iterate 4 (refine ev_st rfl rfl ?_)
  refine ev_getf rfl hM_0 (by rfl) ?_
  iterate 1 (refine ev_st rfl rfl ?_)
  refine ev_iald n rfl hA0 (by simp only [w32]; omega) (by omega) ?_
  rw [hx.1]
  refine ev_callV rfl rfl hM_0 rfl lv ?_
  iterate 3 (refine ev_st rfl rfl ?_)
  exact l_mpowers hN q hS hW hσ hn hx wf hk hl 12 0 none none rfl rfl
set_option maxHeartbeats 4000000 in
theorem c_mallow {h : AH} {M N n : Nat} {C : RM} {E : EL} {σ : SS} {sa fr : Nat} {x : ED} (hN : N ≤ 400) (q : rE C N E) (hS : rS (hM h M C) sa fr σ) (hW : WE N E) (hσ : sOK N E σ) (hn : n < 400) (hx : rF C n x) (wf : wfE x) (hl : rL C n x) (hp : C.1 6 n = ((e_pa x).length : Int)) (hp4 : (e_pa x).length ≤ 4) : Em mMd_allowed 0 [vR M, .inl (n : Int), vR sa, .inl (fr : Int)] (hM h M C) (some (vB (m_allow E x σ))) (hM h M C) := by
  obtain ⟨us, hus, hus2⟩ : ∃ u : Nat, e_sd x = u ∧ u < 12 := ⟨(e_sd x).toNat, by have := wf.1; omega, by have := wf.1; omega⟩
  have cS := c_mmemb hN q hS hσ hus2
  have lS := c_mlevel hN q hS hW hσ hus2
  rw [← hus] at cS lS
  have rS_ := mem_rng hW hσ us
  have qS := lev_rng hW hσ hus2
  rw [← hus] at rS_ qS
  have hb := wf.2.2.2.2.2.1
  have wk := wf.2.1
  unfold InR at hb rS_
  obtain ⟨f0, f1, f2, f3, f4⟩ := id hx
  obtain ⟨ln, f, hs, ⟨l1, l2⟩, hf⟩ := id hS
  show Ev tMd_allowed 0 [some (vR M), some (.inl (n : Int)), some (vR sa), some (.inl (fr : Int))] [] _ _
  unfold m_allow
  iterate 1 (refine ev_st rfl rfl ?_)
  refine ev_getf rfl hM_0 (by rfl) ?_
  iterate 1 (refine ev_st rfl rfl ?_)
  refine ev_iald n rfl hA1 (by simp only [w32]; omega) (by omega) ?_
  rw [f1]
  by_cases k0 : e_kd x = 0
  · rw [if_pos k0]
    refine ev_ifF rfl (by simp only [ick, w32]; omega) ?_
    iterate 1 (refine ev_st rfl rfl ?_)
    refine ev_getf rfl hM_0 (by rfl) ?_
    iterate 1 (refine ev_st rfl rfl ?_)
    refine ev_iald n rfl hA6 (by simp only [w32]; omega) (by omega) ?_
    rw [hp]
    by_cases z : (e_pa x).length = 0
    · refine ev_ifF rfl (by simp only [ick, w32]; omega) ?_
      iterate 2 (refine ev_st rfl rfl ?_)
      exact ev_rb rfl (by rw [decide_eq_true z]; rfl)
    · refine ev_ifT rfl (by simp only [ick, w32]; omega) ?_
      iterate 1 (refine ev_st rfl rfl ?_)
      exact ev_rb rfl (by rw [decide_eq_false z]; rfl)
  · rw [if_neg k0]
    refine ev_ifT rfl (by simp only [ick, w32]; omega) ?_
    iterate 2 (refine ev_st rfl rfl ?_)
    refine ev_iald (fr + 0) rfl hs (by simp only [w32]; omega) (by omega) ?_
    rw [hf 0 (by omega)]
    rcases hσ.at 0 with z | ⟨m0, z1, z2, z3⟩
    · rw [if_pos (by omega), z]
      refine ev_ifF rfl (by simp only [ick, w32]; omega) ?_
      iterate 1 (refine ev_st rfl rfl ?_)
      exact ev_rt rfl rfl rfl
    · rw [if_neg (show ¬ σ 0 < 0 by omega), z2]
      refine ev_ifT rfl (by simp only [ick, w32]; omega) ?_
      iterate 1 (refine ev_st rfl rfl ?_)
      refine ev_getf rfl hM_0 (by rfl) ?_
      iterate 1 (refine ev_st rfl rfl ?_)
      refine ev_iald n rfl hA1 (by simp only [w32]; omega) (by omega) ?_
      rw [f1]
      iterate 1 (refine ev_st rfl rfl ?_)
      by_cases k1 : e_kd x = 1
      · rw [if_pos k1]
        refine ev_icF rfl (by simp only [ick, w32]; omega) ?_
        iterate 4 (refine ev_st rfl rfl ?_)
        refine ev_callV rfl rfl hM_0 rfl (c_mmember hN q hS hW hσ hn hx wf k1 (by omega)) ?_
        exact ev_rb rfl rfl
      · rw [if_neg k1]
        refine ev_icT rfl (by simp only [ick, w32]; omega) ?_
        iterate 4 (refine ev_st rfl rfl ?_)
        refine ev_getf rfl hM_0 (by rfl) ?_
        iterate 1 (refine ev_st rfl rfl ?_)
        refine ev_iald n rfl hA0 (by simp only [w32]; omega) (by omega) ?_
        rw [f0]
        refine ev_callV rfl rfl hM_0 rfl cS ?_
        iterate 1 (refine ev_st rfl rfl ?_)
        by_cases j : m_mem E σ (e_sd x) = 1
        · rw [if_pos j]
          refine ev_icT rfl (by simp only [ick, w32]; omega) ?_
          iterate 1 (refine ev_st rfl rfl ?_)
          refine ev_getf rfl hM_0 (by rfl) ?_
          iterate 1 (refine ev_st rfl rfl ?_)
          refine ev_iald n rfl hA1 (by simp only [w32]; omega) (by omega) ?_
          rw [f1]
          iterate 1 (refine ev_st rfl rfl ?_)
          by_cases k5 : e_kd x = 5
          · rw [if_pos k5]
            refine ev_icF rfl (by simp only [ick, w32]; omega) ?_
            iterate 1 (refine ev_st rfl rfl ?_)
            exact ev_rt rfl rfl rfl
          · rw [if_neg k5]
            refine ev_icT rfl (by simp only [ick, w32]; omega) ?_
            iterate 4 (refine ev_st rfl rfl ?_)
            refine ev_getf rfl hM_0 (by rfl) ?_
            iterate 1 (refine ev_st rfl rfl ?_)
            refine ev_iald n rfl hA0 (by simp only [w32]; omega) (by omega) ?_
            rw [f0]
            refine ev_callV rfl rfl hM_0 rfl lS ?_
            iterate 1 (refine ev_st rfl rfl ?_)
            by_cases l5 : m_lev E σ (e_sd x) < 50
            · rw [if_pos l5]
              refine ev_icF rfl (by simp only [ick, w32]; omega) ?_
              iterate 1 (refine ev_st rfl rfl ?_)
              exact ev_rt rfl rfl rfl
            · rw [if_neg l5]
              refine ev_icT rfl (by simp only [ick, w32]; omega) ?_
              iterate 1 (refine ev_st rfl rfl ?_)
              refine ev_getf rfl hM_0 (by rfl) ?_
              iterate 1 (refine ev_st rfl rfl ?_)
              refine ev_iald n rfl hA1 (by simp only [w32]; omega) (by omega) ?_
              rw [f1]
              iterate 1 (refine ev_st rfl rfl ?_)
              by_cases k2 : e_kd x = 2
              · rw [if_pos k2]
                refine ev_icF rfl (by simp only [ick, w32]; omega) ?_
                iterate 4 (refine ev_st rfl rfl ?_)
                refine ev_callV rfl rfl hM_0 rfl (c_mpowers hN q hS hW hσ hn hx wf k2 hl) ?_
                exact ev_rb rfl rfl
              · rw [if_neg k2]
                refine ev_icT rfl (by simp only [ick, w32]; omega) ?_
                iterate 1 (refine ev_st rfl rfl ?_)
                refine ev_getf rfl hM_0 (by rfl) ?_
                iterate 1 (refine ev_st rfl rfl ?_)
                refine ev_iald n rfl hA1 (by simp only [w32]; omega) (by omega) ?_
                rw [f1]
                iterate 1 (refine ev_st rfl rfl ?_)
                by_cases k4 : e_kd x = 4
                · refine ev_icT rfl (by simp only [ick, w32]; omega) ?_
                  iterate 2 (refine ev_st rfl rfl ?_)
                  exact ev_rb rfl (by rw [decide_eq_true k4]; rfl)
                · rw [decide_eq_false k4, Bool.false_or]
                  refine ev_icF rfl (by simp only [ick, w32]; omega) ?_
                  iterate 1 (refine ev_st rfl rfl ?_)
                  refine ev_getf rfl hM_0 (by rfl) ?_
                  iterate 1 (refine ev_st rfl rfl ?_)
                  refine ev_iald n rfl hA3 (by simp only [w32]; omega) (by omega) ?_
                  rw [f3]
                  by_cases b0 : e_b x = 0
                  · refine ev_ifT rfl (by simp only [ick, w32]; omega) ?_
                    iterate 2 (refine ev_st rfl rfl ?_)
                    exact ev_rb rfl (by rw [decide_eq_true b0]; rfl)
                  · rw [decide_eq_false b0, Bool.false_or]
                    refine ev_ifF rfl (by simp only [ick, w32]; omega) ?_
                    iterate 1 (refine ev_st rfl rfl ?_)
                    refine ev_getf rfl hM_0 (by rfl) ?_
                    iterate 1 (refine ev_st rfl rfl ?_)
                    refine ev_iald n rfl hA3 (by simp only [w32]; omega) (by omega) ?_
                    rw [f3]
                    iterate 1 (refine ev_st rfl rfl ?_)
                    by_cases b1 : e_b x = 1
                    · refine ev_icF rfl (by simp only [ick, w32]; omega) ?_
                      iterate 2 (refine ev_st rfl rfl ?_)
                      exact ev_rb rfl (by rw [decide_eq_true b1]; rfl)
                    · refine ev_icT rfl (by simp only [ick, w32]; omega) ?_
                      iterate 1 (refine ev_st rfl rfl ?_)
                      exact ev_rb rfl (by rw [decide_eq_false b1]; rfl)
        · rw [if_neg j]
          refine ev_icF rfl (by simp only [ick, w32]; omega) ?_
          iterate 1 (refine ev_st rfl rfl ?_)
          exact ev_rt rfl rfl rfl
-- places
def m_qp (k key : Int) : Int := if k = 0 then (if key = 0 then 0 else -1) else if k = 1 then (if key < 12 then 1 + key else -1) else if k = 2 then (if key = 0 then 13 else -1) else if k = 3 then (if key = 0 then 14 else -1) else if k = 4 then (if key < 8 then 15 + key else -1) else -1
theorem c_mplaceOf {h : AH} {k key : Int} (hk : InR k) (hy : InR key) : Em mMd_placeOf 0 [.inl k, .inl key] h (some (.inl (m_qp k key))) h := by
  unfold InR at hk hy
  show Ev tMd_placeOf 0 [some (.inl k), some (.inl key)] [] _ _
  unfold m_qp
  iterate 1 (refine ev_st rfl rfl ?_)
  by_cases k0 : k = 0
  · rw [if_pos k0, k0]
    refine ev_sw rfl (pc' := 36) (by decide) rfl ?_
    iterate 1 (refine ev_st rfl rfl ?_)
    by_cases z : key = 0
    · rw [if_pos z]
      refine ev_ifF rfl (by simp only [ick, w32]; omega) ?_
      iterate 2 (refine ev_st rfl rfl ?_)
      exact ev_rt rfl rfl rfl
    · rw [if_neg z]
      refine ev_ifT rfl (by simp only [ick, w32]; omega) ?_
      iterate 1 (refine ev_st rfl rfl ?_)
      exact ev_rt rfl rfl rfl
  · rw [if_neg k0]
    by_cases k1 : k = 1
    · rw [if_pos k1, k1]
      refine ev_sw rfl (pc' := 46) (by decide) rfl ?_
      iterate 2 (refine ev_st rfl rfl ?_)
      by_cases z : key < 12
      · rw [if_pos z]
        refine ev_icF rfl (by simp only [ick, w32]; omega) ?_
        iterate 4 (refine ev_st rfl rfl ?_)
        exact ev_rt rfl rfl rfl
      · rw [if_neg z]
        refine ev_icT rfl (by simp only [ick, w32]; omega) ?_
        iterate 1 (refine ev_st rfl rfl ?_)
        exact ev_rt rfl rfl rfl
    · rw [if_neg k1]
      by_cases k2 : k = 2
      · rw [if_pos k2, k2]
        refine ev_sw rfl (pc' := 60) (by decide) rfl ?_
        iterate 1 (refine ev_st rfl rfl ?_)
        by_cases z : key = 0
        · rw [if_pos z]
          refine ev_ifF rfl (by simp only [ick, w32]; omega) ?_
          iterate 2 (refine ev_st rfl rfl ?_)
          exact ev_rt rfl rfl rfl
        · rw [if_neg z]
          refine ev_ifT rfl (by simp only [ick, w32]; omega) ?_
          iterate 1 (refine ev_st rfl rfl ?_)
          exact ev_rt rfl rfl rfl
      · rw [if_neg k2]
        by_cases k3 : k = 3
        · rw [if_pos k3, k3]
          refine ev_sw rfl (pc' := 71) (by decide) rfl ?_
          iterate 1 (refine ev_st rfl rfl ?_)
          by_cases z : key = 0
          · rw [if_pos z]
            refine ev_ifF rfl (by simp only [ick, w32]; omega) ?_
            iterate 2 (refine ev_st rfl rfl ?_)
            exact ev_rt rfl rfl rfl
          · rw [if_neg z]
            refine ev_ifT rfl (by simp only [ick, w32]; omega) ?_
            iterate 1 (refine ev_st rfl rfl ?_)
            exact ev_rt rfl rfl rfl
        · rw [if_neg k3]
          by_cases k4 : k = 4
          · rw [if_pos k4, k4]
            refine ev_sw rfl (pc' := 82) (by decide) rfl ?_
            iterate 2 (refine ev_st rfl rfl ?_)
            by_cases z : key < 8
            · rw [if_pos z]
              refine ev_icF rfl (by simp only [ick, w32]; omega) ?_
              iterate 4 (refine ev_st rfl rfl ?_)
              exact ev_rt rfl rfl rfl
            · rw [if_neg z]
              refine ev_icT rfl (by simp only [ick, w32]; omega) ?_
              iterate 1 (refine ev_st rfl rfl ?_)
              exact ev_rt rfl rfl rfl
          · rw [if_neg k4]
            refine ev_sw rfl (pc' := 97) (by
              rw [w32_id hk.1 hk.2]
              simp only [ai_sw]
              rw [if_neg k0, if_neg k1, if_neg k2, if_neg k3, if_neg k4]) rfl ?_
            iterate 1 (refine ev_st rfl rfl ?_)
            exact ev_rt rfl rfl rfl
theorem qp_pl {x : ED} (wf : wfE x) : m_qp (e_kd x) (if e_kd x = 1 ∨ e_kd x = 4 then e_a x else 0) = e_pl x := by
  obtain ⟨-, h1, h2, h3, -⟩ := wf
  unfold m_qp e_pl m_pl
  rcases (show e_kd x = 0 ∨ e_kd x = 1 ∨ e_kd x = 2 ∨ e_kd x = 3 ∨ e_kd x = 4 ∨ e_kd x = 5 by omega) with k | k | k | k | k | k <;> simp [k]
  · have := h2 (Or.inl k); omega
  · have := h3 k; omega
theorem c_mplace {h : AH} {M n : Nat} {C : RM} {x : ED} (hn : n < 400) (hx : rF C n x) (wf : wfE x) : Em mMd_place 0 [vR M, .inl (n : Int)] (hM h M C) (some (.inl (e_pl x))) (hM h M C) := by
  obtain ⟨f0, f1, f2, f3, f4⟩ := hx
  have wk := wf.2.1
  have wa := wf.2.2.2.2.1
  have pl := qp_pl wf
  show Ev tMd_place 0 [some (vR M), some (.inl (n : Int))] [] _ _
  have hkk : InR (e_kd x) := by unfold InR; omega
  have fin : ∀ {o : Option AV × AH}, Ev tMd_place 36 [some (vR M), some (.inl (n : Int))] [.inl (if e_kd x = 1 ∨ e_kd x = 4 then e_a x else 0), .inl (e_kd x)] (hM h M C) o → Ev tMd_place 0 [some (vR M), some (.inl (n : Int))] [] (hM h M C) o := by
    intro o hgo
    iterate 1 (refine ev_st rfl rfl ?_)
    refine ev_getf rfl hM_0 (by rfl) ?_
    iterate 1 (refine ev_st rfl rfl ?_)
    refine ev_iald n rfl hA1 (by simp only [w32]; omega) (by omega) ?_
    rw [f1]
    iterate 1 (refine ev_st rfl rfl ?_)
    refine ev_getf rfl hM_0 (by rfl) ?_
    iterate 1 (refine ev_st rfl rfl ?_)
    refine ev_iald n rfl hA1 (by simp only [w32]; omega) (by omega) ?_
    rw [f1]
    iterate 1 (refine ev_st rfl rfl ?_)
    by_cases k1 : e_kd x = 1
    · rw [if_pos (Or.inl k1)] at hgo
      refine ev_icT rfl (by simp only [ick, w32]; omega) ?_
      iterate 1 (refine ev_st rfl rfl ?_)
      refine ev_getf rfl hM_0 (by rfl) ?_
      iterate 1 (refine ev_st rfl rfl ?_)
      refine ev_iald n rfl hA2 (by simp only [w32]; omega) (by omega) ?_
      rw [f2]
      iterate 1 (refine ev_st rfl rfl ?_)
      exact hgo
    · refine ev_icF rfl (by simp only [ick, w32]; omega) ?_
      iterate 1 (refine ev_st rfl rfl ?_)
      refine ev_getf rfl hM_0 (by rfl) ?_
      iterate 1 (refine ev_st rfl rfl ?_)
      refine ev_iald n rfl hA1 (by simp only [w32]; omega) (by omega) ?_
      rw [f1]
      iterate 1 (refine ev_st rfl rfl ?_)
      by_cases k4 : e_kd x = 4
      · rw [if_pos (Or.inr k4)] at hgo
        refine ev_icF rfl (by simp only [ick, w32]; omega) ?_
        iterate 1 (refine ev_st rfl rfl ?_)
        refine ev_getf rfl hM_0 (by rfl) ?_
        iterate 1 (refine ev_st rfl rfl ?_)
        refine ev_iald n rfl hA2 (by simp only [w32]; omega) (by omega) ?_
        rw [f2]
        iterate 1 (refine ev_st rfl rfl ?_)
        exact hgo
      · rw [if_neg (by omega)] at hgo
        refine ev_icT rfl (by simp only [ick, w32]; omega) ?_
        iterate 1 (refine ev_st rfl rfl ?_)
        exact hgo
  refine fin ?_
  refine ev_cl rfl rfl (c_mplaceOf hkk (by split <;> first | exact wa | (unfold InR; omega))) ?_
  rw [pl]
  exact ev_rt rfl rfl rfl
theorem id_and : ∀ e : Fin 400, a_and ((e.val : Int) * 40503) 65535 = ((e.val * 40503 % 65536 : Nat) : Int) := by decide +kernel
theorem c_mid {h : AH} {n : Nat} (hn : n < 400) : Em mMd_id 0 [.inl (n : Int)] h (some (.inl (e_id n))) h := by
  show Ev tMd_id 0 [some (.inl (n : Int))] [] _ _
  iterate 5 (refine ev_st rfl rfl ?_)
  exact ev_ri rfl (id_and ⟨n, hn⟩)
