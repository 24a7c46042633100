-- what the reference's arrays hold; levelBy, membership, member
abbrev b2 (b : Bool) : Int := bif b then 1 else 0
def rPa (C : RM) (n : Nat) (l : List Nat) : Prop := C.1 6 n = (l.length : Int) ∧ ∀ i, i < l.length → C.1 5 (4 * n + i) = (l.getD i 0 : Nat)
def rAu (C : RM) (n : Nat) (σ : SS) : Prop := ∃ A : List Nat, C.1 8 n = (A.length : Int) ∧ A.length ≤ 6 ∧ A.length = d_cnt σ ∧ (∀ i, i < A.length → C.1 7 (6 * n + i) = (A.getD i 0 : Nat)) ∧ ∀ v, v ∈ A ↔ ∃ p, p < 23 ∧ σ p = (v : Int)
def rF (C : RM) (n : Nat) (x : ED) : Prop := C.1 0 n = e_sd x ∧ C.1 1 n = e_kd x ∧ C.1 2 n = e_a x ∧ C.1 3 n = e_b x ∧ C.1 4 n = e_tm x
def rL (C : RM) (n : Nat) (x : ED) : Prop := e_kd x = 2 → ∀ u, u < 12 → C.1 9 (12 * n + u) = e_lv x u
def rE (C : RM) (N : Nat) (E : EL) : Prop := C.2.1 = (N : Int) ∧ ∀ n, n < N → rF C n (E n) ∧ rPa C n (e_pa (E n)) ∧ rAu C n (e_ow (E n)) ∧ rL C n (E n) ∧ (∀ y, y < 400 → C.1 10 (400 * n + y) = b2 (e_ch (E n) y)) ∧ C.1 11 n = b2 (e_gd (E n)) ∧ (∀ p, p < 23 → C.1 12 (23 * n + p) = e_bf (E n) p) ∧ ∀ p, p < 23 → C.1 13 (23 * n + p) = e_bh E n p
def rS (H : AH) (sa fr : Nat) (σ : SS) : Prop := ∃ ln f, H.2.2 sa = some (.inl (0, ln, .inl f)) ∧ (fr + 23 ≤ ln ∧ ln ≤ 10000) ∧ ∀ p, p < 23 → f (fr + p) = σ p
theorem mpl_13 {x : ED} (wf : wfE x) (h : e_pl x = 13) : e_kd x = 2 := by
  obtain ⟨-, h1, h2, h3, -⟩ := wf
  unfold e_pl m_pl at h
  repeat (first | omega | split at h)
theorem c_mlevel {h : AH} {M N : Nat} {C : RM} {E : EL} {σ : SS} {sa fr : Nat} (hN : N ≤ 400) (q : rE C N E) (hS : rS (hM h M C) sa fr σ) (hW : WE N E) (hσ : sOK N E σ) {u : Nat} (hu : u < 12) : Em mMd_levelBy 1 [vR M, vR sa, .inl (fr : Int), .inl (u : Int)] (hM h M C) (some (.inl (m_lev E σ u))) (hM h M C) := by
  obtain ⟨ln, f, hs, ⟨l1, l2⟩, hf⟩ := hS
  show Ev tMd_levelBy 0 [some (vR M), some (vR sa), some (.inl (fr : Int)), some (.inl (u : Int)), none] [] _ _
  iterate 4 (refine ev_st rfl rfl ?_)
  refine ev_iald (fr + 13) rfl hs (by simp only [w32]; omega) (by omega) ?_
  rw [hf 13 (by omega)]
  iterate 2 (refine ev_st rfl rfl ?_)
  unfold m_lev
  rcases hσ.at 13 with z | ⟨n, z1, z2, z3⟩
  · rw [z, if_neg (by omega)]
    refine ev_ifT rfl (by simp only [ick, w32]; omega) ?_
    iterate 2 (refine ev_st rfl rfl ?_)
    refine ev_iald (fr + 0) rfl hs (by simp only [w32]; omega) (by omega) ?_
    rw [hf 0 (by omega)]
    rcases hσ.at 0 with y | ⟨m, y1, y2, y3⟩
    · rw [y, if_neg (by omega)]
      refine ev_ifT rfl (by simp only [ick, w32]; omega) ?_
      iterate 1 (refine ev_st rfl rfl ?_)
      exact ev_rt rfl rfl rfl
    · rw [y2, Int.toNat_natCast]
      obtain ⟨⟨f0, f1, f2, f3, f4⟩, -⟩ := q.2 m y1
      have wf := hW m y1
      have wf1 := wf.1
      refine ev_ifF rfl (by simp only [ick, w32]; omega) ?_
      iterate 1 (refine ev_st rfl rfl ?_)
      refine ev_getf rfl hM_0 (by rfl) ?_
      iterate 2 (refine ev_st rfl rfl ?_)
      refine ev_iald (fr + 0) rfl hs (by simp only [w32]; omega) (by omega) ?_
      rw [hf 0 (by omega), y2]
      refine ev_iald m rfl hA0 (by simp only [w32]; omega) (by omega) ?_
      rw [f0]
      iterate 1 (refine ev_st rfl rfl ?_)
      by_cases hz : e_sd (E m) = u
      · rw [if_pos ⟨by omega, hz⟩]
        refine ev_icF rfl (by simp only [ick, w32]; omega) ?_
        iterate 2 (refine ev_st rfl rfl ?_)
        exact ev_rt rfl rfl rfl
      · rw [if_neg (fun w => hz w.2)]
        refine ev_icT rfl (by simp only [ick, w32]; omega) ?_
        iterate 1 (refine ev_st rfl rfl ?_)
        exact ev_rt rfl rfl rfl
  · rw [z2, if_pos (by omega), Int.toNat_natCast, Int.toNat_natCast]
    obtain ⟨-, -, -, f9, -⟩ := q.2 n z1
    refine ev_ifF rfl (by simp only [ick, w32]; omega) ?_
    iterate 1 (refine ev_st rfl rfl ?_)
    refine ev_getf rfl hM_0 (by rfl) ?_
    iterate 5 (refine ev_st rfl rfl ?_)
    refine ev_iald (12 * n + u) rfl hA9 (by simp only [w32]; omega) (by omega) ?_
    rw [f9 (mpl_13 (hW n z1) z3) u hu]
    exact ev_rt rfl rfl rfl
theorem c_mmemb {h : AH} {M N : Nat} {C : RM} {E : EL} {σ : SS} {sa fr : Nat} (hN : N ≤ 400) (q : rE C N E) (hS : rS (hM h M C) sa fr σ) (hσ : sOK N E σ) {u : Nat} (hu : u < 12) : Em mMd_membership 1 [vR M, vR sa, .inl (fr : Int), .inl (u : Int)] (hM h M C) (some (.inl (m_mem E σ u))) (hM h M C) := by
  obtain ⟨ln, f, hs, ⟨l1, l2⟩, hf⟩ := hS
  show Ev tMd_membership 0 [some (vR M), some (vR sa), some (.inl (fr : Int)), some (.inl (u : Int)), none] [] _ _
  iterate 6 (refine ev_st rfl rfl ?_)
  refine ev_iald (fr + (1 + u)) rfl hs (by simp only [w32]; omega) (by omega) ?_
  rw [hf (1 + u) (by omega)]
  iterate 2 (refine ev_st rfl rfl ?_)
  unfold m_mem
  rw [Int.toNat_natCast]
  rcases hσ.at (1 + u) with z | ⟨n, z1, z2, z3⟩
  · rw [z, if_pos (by omega)]
    refine ev_ifF rfl (by simp only [ick, w32]; omega) ?_
    iterate 2 (refine ev_st rfl rfl ?_)
    exact ev_rt rfl rfl rfl
  · rw [z2, if_neg (by omega), Int.toNat_natCast]
    obtain ⟨⟨f0, f1, f2, f3, f4⟩, -⟩ := q.2 n z1
    refine ev_ifT rfl (by simp only [ick, w32]; omega) ?_
    iterate 1 (refine ev_st rfl rfl ?_)
    refine ev_getf rfl hM_0 (by rfl) ?_
    iterate 1 (refine ev_st rfl rfl ?_)
    refine ev_iald n rfl hA3 (by simp only [w32]; omega) (by omega) ?_
    rw [f3]
    exact ev_rt rfl rfl rfl
theorem b2d {p : Prop} [Decidable p] : b2 (decide p) = if p then 1 else 0 := by
  by_cases h : p <;> simp [h]
set_option maxHeartbeats 8000000 in
theorem c_mmember {h : AH} {M N n : Nat} {C : RM} {E : EL} {σ : SS} {sa fr : Nat} {x : ED} (hN : N ≤ 400) (q : rE C N E) (hS : rS (hM h M C) sa fr σ) (hW : WE N E) (hσ : sOK N E σ) (hn : n < 400) (hx : rF C n x) (wf : wfE x) (hk : e_kd x = 1) (h0 : ¬ σ 0 < 0) : Em mMd_member 7 [vR M, .inl (n : Int), vR sa, .inl (fr : Int)] (hM h M C) (some (vB (m_member E x σ))) (hM h M C) := by
  obtain ⟨ua, hua, hua2⟩ : ∃ u : Nat, e_a x = u ∧ u < 12 := ⟨(e_a x).toNat, by have := wf.2.2.1 (Or.inl hk); omega, by have := wf.2.2.1 (Or.inl hk); omega⟩
  obtain ⟨us, hus, hus2⟩ : ∃ u : Nat, e_sd x = u ∧ u < 12 := ⟨(e_sd x).toNat, by have := wf.1; omega, by have := wf.1; omega⟩
  have hb := wf.2.2.2.2.2.1
  have cA := c_mmemb hN q hS hσ hua2
  have cS := c_mmemb hN q hS hσ hus2
  have lA := c_mlevel hN q hS hW hσ hua2
  have lS := c_mlevel hN q hS hW hσ hus2
  have rA := mem_rng hW hσ ua
  have rS_ := mem_rng hW hσ us
  have qA := lev_rng hW hσ hua2
  have qS := lev_rng hW hσ hus2
  unfold InR at hb rA rS_
  obtain ⟨ln, f, hs, ⟨l1, l2⟩, hf⟩ := hS
  obtain ⟨f0, f1, f2, f3, f4⟩ := hx
  have hM_ : m_member E x σ = if e_b x = 1 then decide ((us : Int) = ua) && (!decide (m_mem E σ ua = 3) && (decide (σ 14 < 0) || (decide (e_b (E (σ 14).toNat) = 0) || (decide (m_mem E σ ua = 1) || (decide (m_mem E σ ua = 2) || (decide (σ (1 + ua) < 0) && (decide (σ 13 < 0) && decide (e_sd (E (σ 0).toNat) = us))))))))
    else if e_b x = 2 then decide (m_mem E σ us = 1) && (!decide (m_mem E σ ua = 1) && !decide (m_mem E σ ua = 3))
    else if e_b x = 0 then (if (us : Int) = ua then decide (m_mem E σ ua = 1) || decide (m_mem E σ ua = 2) else (decide (m_mem E σ us = 1) && (decide (50 ≤ m_lev E σ us) && decide (m_lev E σ ua < m_lev E σ us))) && !decide (m_mem E σ ua = 0))
    else if e_b x = 3 then (decide (m_mem E σ us = 1) && (decide (50 ≤ m_lev E σ us) && decide (m_lev E σ ua < m_lev E σ us)))
    else false := by
    unfold m_member m_join m_above
    rw [hua, hus, Int.toNat_natCast]
  rw [hM_]
  clear hM_
  generalize m_mem E σ ua = was at *
  generalize m_mem E σ us = mS at *
  generalize m_lev E σ ua = vA at *
  generalize m_lev E σ us = vS at *
  generalize hab : (decide (mS = 1) && (decide (50 ≤ vS) && decide (vA < vS))) = ab
  have st1 : ∀ {o : Option AV × AH}, Ev tMd_member 93 [some (vR M), some (.inl (n : Int)), some (vR sa), some (.inl (fr : Int)), some (.inl (us : Int)), some (.inl (ua : Int)), some (.inl was), some (vB (decide (mS = 1))), some (.inl vS), some (vB ab), none] [.inl (e_b x)] (hM h M C) o → Ev tMd_member 0 [some (vR M), some (.inl (n : Int)), some (vR sa), some (.inl (fr : Int)), none, none, none, none, none, none, none] [] (hM h M C) o := by
    intro o hgo
    iterate 1 (refine ev_st rfl rfl ?_)
    refine ev_getf rfl hM_0 (by rfl) ?_
    iterate 1 (refine ev_st rfl rfl ?_)
    refine ev_iald n rfl hA0 (by simp only [w32]; omega) (by omega) ?_
    rw [f0, hus]
    iterate 2 (refine ev_st rfl rfl ?_)
    refine ev_getf rfl hM_0 (by rfl) ?_
    iterate 1 (refine ev_st rfl rfl ?_)
    refine ev_iald n rfl hA2 (by simp only [w32]; omega) (by omega) ?_
    rw [f2, hua]
    iterate 5 (refine ev_st rfl rfl ?_)
    refine ev_callV rfl rfl hM_0 rfl cA ?_
    iterate 5 (refine ev_st rfl rfl ?_)
    refine ev_callV rfl rfl hM_0 rfl cS ?_
    iterate 1 (refine ev_st rfl rfl ?_)
    have st2 : ∀ {o : Option AV × AH}, Ev tMd_member 43 [some (vR M), some (.inl (n : Int)), some (vR sa), some (.inl (fr : Int)), some (.inl (us : Int)), some (.inl (ua : Int)), some (.inl was), none, none, none, none] [vB (decide (mS = 1))] (hM h M C) o → Ev tMd_member 35 [some (vR M), some (.inl (n : Int)), some (vR sa), some (.inl (fr : Int)), some (.inl (us : Int)), some (.inl (ua : Int)), some (.inl was), none, none, none, none] [.inl 1, .inl mS] (hM h M C) o := by
      intro o hgo
      by_cases hj : mS = 1
      · rw [decide_eq_true hj] at hgo
        refine ev_icF rfl (by simp only [ick, w32]; omega) ?_
        iterate 2 (refine ev_st rfl rfl ?_)
        exact hgo
      · rw [decide_eq_false hj] at hgo
        refine ev_icT rfl (by simp only [ick, w32]; omega) ?_
        iterate 1 (refine ev_st rfl rfl ?_)
        exact hgo
    refine st2 ?_
    iterate 5 (refine ev_st rfl rfl ?_)
    refine ev_callV rfl rfl hM_0 rfl lS ?_
    iterate 2 (refine ev_st rfl rfl ?_)
    have fin : ∀ {o : Option AV × AH}, Ev tMd_member 85 [some (vR M), some (.inl (n : Int)), some (vR sa), some (.inl (fr : Int)), some (.inl (us : Int)), some (.inl (ua : Int)), some (.inl was), some (vB (decide (mS = 1))), some (.inl vS), none, none] [vB ab] (hM h M C) o → Ev tMd_member 57 [some (vR M), some (.inl (n : Int)), some (vR sa), some (.inl (fr : Int)), some (.inl (us : Int)), some (.inl (ua : Int)), some (.inl was), some (vB (decide (mS = 1))), some (.inl vS), none, none] [vB (decide (mS = 1))] (hM h M C) o := by
      intro o hgo
      by_cases hj : mS = 1
      · refine ev_zeqF rfl (decide_eq_true hj) ?_
        iterate 2 (refine ev_st rfl rfl ?_)
        by_cases h5 : 50 ≤ vS
        · refine ev_icF rfl (by simp only [ick, w32]; omega) ?_
          iterate 5 (refine ev_st rfl rfl ?_)
          refine ev_callV rfl rfl hM_0 rfl lA ?_
          by_cases h6 : vA < vS
          · rw [← hab, decide_eq_true hj, decide_eq_true h5, decide_eq_true h6] at hgo
            refine ev_icF rfl (by simp only [ick, w32]; omega) ?_
            iterate 2 (refine ev_st rfl rfl ?_)
            rw [decide_eq_true hj]
            exact hgo
          · rw [← hab, decide_eq_true hj, decide_eq_true h5, decide_eq_false h6] at hgo
            refine ev_icT rfl (by simp only [ick, w32]; omega) ?_
            iterate 1 (refine ev_st rfl rfl ?_)
            rw [decide_eq_true hj]
            exact hgo
        · rw [← hab, decide_eq_true hj, decide_eq_false h5] at hgo
          refine ev_icT rfl (by simp only [ick, w32]; omega) ?_
          iterate 1 (refine ev_st rfl rfl ?_)
          rw [decide_eq_true hj]
          exact hgo
      · refine ev_zeqT rfl (decide_eq_false hj) ?_
        rw [← hab, decide_eq_false hj] at hgo
        iterate 1 (refine ev_st rfl rfl ?_)
        rw [decide_eq_false hj]
        exact hgo
    refine fin ?_
    iterate 2 (refine ev_st rfl rfl ?_)
    refine ev_getf rfl hM_0 (by rfl) ?_
    iterate 1 (refine ev_st rfl rfl ?_)
    refine ev_iald n rfl hA3 (by simp only [w32]; omega) (by omega) ?_
    rw [f3]
    exact hgo
  show Ev tMd_member 0 [some (vR M), some (.inl (n : Int)), some (vR sa), some (.inl (fr : Int)), none, none, none, none, none, none, none] [] _ _
  refine st1 ?_
  by_cases h1 : e_b x = 1
  · rw [if_pos h1, h1]
    refine ev_sw rfl (pc' := 124) (by decide) rfl ?_
    iterate 2 (refine ev_st rfl rfl ?_)
    by_cases h2 : (us : Int) = ua
    · rw [decide_eq_true h2, Bool.true_and]
      refine ev_icF rfl (by simp only [ick, w32]; omega) ?_
      iterate 2 (refine ev_st rfl rfl ?_)
      by_cases h3 : was = 3
      · rw [decide_eq_true h3]
        refine ev_icF rfl (by simp only [ick, w32]; omega) ?_
        iterate 1 (refine ev_st rfl rfl ?_)
        exact ev_rt rfl rfl rfl
      · rw [decide_eq_false h3, Bool.not_false, Bool.true_and]
        refine ev_icT rfl (by simp only [ick, w32]; omega) ?_
        iterate 4 (refine ev_st rfl rfl ?_)
        refine ev_iald (fr + 14) rfl hs (by simp only [w32]; omega) (by omega) ?_
        rw [hf 14 (by omega)]
        iterate 2 (refine ev_st rfl rfl ?_)
        rcases hσ.at 14 with z | ⟨m, y1, y2, y3⟩
        · rw [z]
          refine ev_ifT rfl (by simp only [ick, w32]; omega) ?_
          iterate 1 (refine ev_st rfl rfl ?_)
          exact ev_rb rfl (by simp)
        · rw [y2, Int.toNat_natCast, decide_eq_false (show ¬ ((m : Int) < 0) by omega), Bool.false_or]
          obtain ⟨⟨g0, g1, g2, g3, g4⟩, -⟩ := q.2 m y1
          have hbm := (hW m y1).2.2.2.2.2.1
          unfold InR at hbm
          refine ev_ifF rfl (by simp only [ick, w32]; omega) ?_
          iterate 1 (refine ev_st rfl rfl ?_)
          refine ev_getf rfl hM_0 (by rfl) ?_
          iterate 1 (refine ev_st rfl rfl ?_)
          refine ev_iald m rfl hA3 (by simp only [w32]; omega) (by omega) ?_
          rw [g3]
          by_cases h4 : e_b (E m) = 0
          · refine ev_ifT rfl (by simp only [ick, w32]; omega) ?_
            iterate 1 (refine ev_st rfl rfl ?_)
            exact ev_rb rfl (by simp [h4])
          · rw [decide_eq_false h4, Bool.false_or]
            refine ev_ifF rfl (by simp only [ick, w32]; omega) ?_
            iterate 2 (refine ev_st rfl rfl ?_)
            by_cases h5 : was = 1
            · refine ev_icT rfl (by simp only [ick, w32]; omega) ?_
              iterate 1 (refine ev_st rfl rfl ?_)
              exact ev_rb rfl (by simp [h5])
            · rw [decide_eq_false h5, Bool.false_or]
              refine ev_icF rfl (by simp only [ick, w32]; omega) ?_
              iterate 2 (refine ev_st rfl rfl ?_)
              by_cases h6 : was = 2
              · refine ev_icF rfl (by simp only [ick, w32]; omega) ?_
                iterate 1 (refine ev_st rfl rfl ?_)
                exact ev_rb rfl (by simp [h6])
              · rw [decide_eq_false h6, Bool.false_or]
                refine ev_icT rfl (by simp only [ick, w32]; omega) ?_
                iterate 6 (refine ev_st rfl rfl ?_)
                refine ev_iald (fr + (1 + ua)) rfl hs (by simp only [w32]; omega) (by omega) ?_
                rw [hf (1 + ua) (by omega)]
                rcases hσ.at (1 + ua) with w | ⟨m2, w1, w2, w3⟩
                · rw [w]
                  refine ev_ifF rfl (by simp only [ick, w32]; omega) ?_
                  iterate 4 (refine ev_st rfl rfl ?_)
                  refine ev_iald (fr + 13) rfl hs (by simp only [w32]; omega) (by omega) ?_
                  rw [hf 13 (by omega)]
                  rcases hσ.at 13 with v | ⟨m3, v1, v2, v3⟩
                  · rw [v]
                    refine ev_ifF rfl (by simp only [ick, w32]; omega) ?_
                    iterate 1 (refine ev_st rfl rfl ?_)
                    refine ev_getf rfl hM_0 (by rfl) ?_
                    iterate 2 (refine ev_st rfl rfl ?_)
                    refine ev_iald (fr + 0) rfl hs (by simp only [w32]; omega) (by omega) ?_
                    rw [hf 0 (by omega)]
                    rcases hσ.at 0 with k | ⟨m4, k1, k2, k3⟩
                    · omega
                    · rw [k2, Int.toNat_natCast]
                      obtain ⟨⟨s0, -⟩, -⟩ := q.2 m4 k1
                      have wf4 := (hW m4 k1).1
                      refine ev_iald m4 rfl hA0 (by simp only [w32]; omega) (by omega) ?_
                      rw [s0]
                      iterate 1 (refine ev_st rfl rfl ?_)
                      by_cases h7 : e_sd (E m4) = us
                      · refine ev_icF rfl (by simp only [ick, w32]; omega) ?_
                        iterate 2 (refine ev_st rfl rfl ?_)
                        exact ev_rb rfl (by simp [h7])
                      · refine ev_icT rfl (by simp only [ick, w32]; omega) ?_
                        iterate 1 (refine ev_st rfl rfl ?_)
                        exact ev_rb rfl (by simp [h7])
                  · rw [v2]
                    refine ev_ifT rfl (by simp only [ick, w32]; omega) ?_
                    iterate 1 (refine ev_st rfl rfl ?_)
                    exact ev_rb rfl (by rw [decide_eq_false (show ¬ ((m3 : Int) < 0) by omega)]; simp)
                · rw [w2]
                  refine ev_ifT rfl (by simp only [ick, w32]; omega) ?_
                  iterate 1 (refine ev_st rfl rfl ?_)
                  exact ev_rb rfl (by rw [decide_eq_false (show ¬ ((m2 : Int) < 0) by omega)]; simp)
    · rw [decide_eq_false h2]
      refine ev_icT rfl (by simp only [ick, w32]; omega) ?_
      iterate 1 (refine ev_st rfl rfl ?_)
      exact ev_rt rfl rfl rfl
  · rw [if_neg h1]
    by_cases h2 : e_b x = 2
    · rw [if_pos h2, h2]
      refine ev_sw rfl (pc' := 215) (by decide) rfl ?_
      iterate 1 (refine ev_st rfl rfl ?_)
      by_cases hj : mS = 1
      · refine ev_zeqF rfl (decide_eq_true hj) ?_
        iterate 2 (refine ev_st rfl rfl ?_)
        by_cases h5 : was = 1
        · refine ev_icT rfl (by simp only [ick, w32]; omega) ?_
          iterate 1 (refine ev_st rfl rfl ?_)
          exact ev_rb rfl (by simp [h5])
        · refine ev_icF rfl (by simp only [ick, w32]; omega) ?_
          iterate 2 (refine ev_st rfl rfl ?_)
          by_cases h6 : was = 3
          · refine ev_icT rfl (by simp only [ick, w32]; omega) ?_
            iterate 1 (refine ev_st rfl rfl ?_)
            exact ev_rb rfl (by simp [h6])
          · refine ev_icF rfl (by simp only [ick, w32]; omega) ?_
            iterate 2 (refine ev_st rfl rfl ?_)
            exact ev_rb rfl (by simp [h5, h6, hj])
      · refine ev_zeqT rfl (decide_eq_false hj) ?_
        iterate 1 (refine ev_st rfl rfl ?_)
        exact ev_rb rfl (by simp [hj])
    · rw [if_neg h2]
      by_cases h3 : e_b x = 0
      · rw [if_pos h3, h3]
        refine ev_sw rfl (pc' := 238) (by decide) rfl ?_
        iterate 2 (refine ev_st rfl rfl ?_)
        by_cases h4 : (us : Int) = ua
        · rw [if_pos h4]
          refine ev_icF rfl (by simp only [ick, w32]; omega) ?_
          iterate 2 (refine ev_st rfl rfl ?_)
          by_cases h5 : was = 1
          · refine ev_icT rfl (by simp only [ick, w32]; omega) ?_
            iterate 2 (refine ev_st rfl rfl ?_)
            exact ev_rb rfl (by simp [h5])
          · refine ev_icF rfl (by simp only [ick, w32]; omega) ?_
            iterate 2 (refine ev_st rfl rfl ?_)
            by_cases h6 : was = 2
            · refine ev_icF rfl (by simp only [ick, w32]; omega) ?_
              iterate 2 (refine ev_st rfl rfl ?_)
              exact ev_rb rfl (by simp [h6])
            · refine ev_icT rfl (by simp only [ick, w32]; omega) ?_
              iterate 2 (refine ev_st rfl rfl ?_)
              exact ev_rb rfl (by simp [h5, h6])
        · rw [if_neg h4]
          refine ev_icT rfl (by simp only [ick, w32]; omega) ?_
          iterate 1 (refine ev_st rfl rfl ?_)
          cases ab with
          | false =>
            refine ev_zeqT rfl rfl ?_
            iterate 1 (refine ev_st rfl rfl ?_)
            exact ev_rt rfl rfl rfl
          | true =>
            refine ev_zeqF rfl rfl ?_
            iterate 1 (refine ev_st rfl rfl ?_)
            by_cases h5 : was = 0
            · refine ev_ifT rfl (by simp only [ick, w32]; omega) ?_
              iterate 1 (refine ev_st rfl rfl ?_)
              exact ev_rb rfl (by simp [h5])
            · refine ev_ifF rfl (by simp only [ick, w32]; omega) ?_
              iterate 2 (refine ev_st rfl rfl ?_)
              exact ev_rb rfl (by simp [h5])
      · rw [if_neg h3]
        by_cases h4 : e_b x = 3
        · rw [if_pos h4, h4]
          refine ev_sw rfl (pc' := 281) (by decide) rfl ?_
          iterate 1 (refine ev_st rfl rfl ?_)
          exact ev_rb rfl rfl
        · rw [if_neg h4]
          refine ev_sw rfl (pc' := 284) (by
            rw [w32_id hb.1 hb.2]
            simp only [ai_sw]
            rw [if_neg h3, if_neg h1, if_neg h2, if_neg h4]) rfl ?_
          iterate 1 (refine ev_st rfl rfl ?_)
          exact ev_rt rfl rfl rfl
