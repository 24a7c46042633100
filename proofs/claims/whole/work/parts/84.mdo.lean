-- the reference: head, count
set_option maxRecDepth 20000
theorem l_mhd {h : AH} {M N s : Nat} {C : RM} {E : EL} {V : SV} {K : Int} (hE : EOK N E) (q : rE C N E) (hs : s < 4) (hS : SOK N E V) (h14 : ∀ y, y < N → C.1 14 (400 * s + y) = b2 (V.1 y)) (hK : InR K) : ∀ (k e p : Nat), e + k = N → p ≤ e → Ev tMd_head 14 [some (vR M), some (.inl (s : Int)), some (.inl K), some (.inl (p : Int)), some (.inl (e : Int))] [] (hM h M C) (some (.inl (v_hn V.2.2 K k e p)), hM h M C) := by
  have hN := hE.1
  have hP := hE.2.2.1
  unfold InR at hK
  intro k
  induction k with
  | zero =>
    intro e p he hp
    obtain rfl : e = N := by omega
    iterate 2 (refine ev_st rfl rfl ?_)
    refine ev_getf rfl hM_0 (by rfl) ?_
    rw [q.1]
    refine ev_icT rfl (by simp only [ick, w32]; omega) ?_
    iterate 1 (refine ev_st rfl rfl ?_)
    exact ev_rt rfl rfl rfl
  | succ k ih =>
    intro e p he hp
    have ch := c_mhead (h := h) (M := M) hN hP q hs (show e < N by omega) h14
    rw [← hS.2.2.2.2] at ch
    simp only [v_hn]
    iterate 2 (refine ev_st rfl rfl ?_)
    refine ev_getf rfl hM_0 (by rfl) ?_
    rw [q.1]
    refine ev_icF rfl (by simp only [ick, w32]; omega) ?_
    iterate 3 (refine ev_st rfl rfl ?_)
    refine ev_callV rfl rfl hM_0 rfl ch ?_
    cases hd : V.2.2 e with
    | false =>
      rw [cond_false]
      refine ev_zneF rfl rfl ?_
      iterate 3 (refine ev_st rfl rfl ?_)
      exact ih (e + 1) p (by omega) (by omega)
    | true =>
      rw [cond_true]
      refine ev_zneT rfl rfl ?_
      iterate 2 (refine ev_st rfl rfl ?_)
      by_cases z : (p : Int) = K
      · rw [if_pos z]
        refine ev_icF rfl (by simp only [ick, w32]; omega) ?_
        iterate 1 (refine ev_st rfl rfl ?_)
        exact ev_rt rfl rfl rfl
      · rw [if_neg z]
        refine ev_icT rfl (by simp only [ick, w32]; omega) ?_
        iterate 3 (refine ev_st rfl rfl ?_)
        exact ih (e + 1) (p + 1) (by omega) (by omega)
theorem c_mhd {h : AH} {M N : Nat} {C : RM} {E : EL} {V : Nat → SV} (hE : EOK N E) (hS : VOK N E V) (q : rE C N E) (rv : rV C N E V) {s k : Int} (hs : InR s) (hk : InR k) : Em mMd_head 2 [vR M, .inl s, .inl k] (hM h M C) (some (.inl (d_head N V s k))) (hM h M C) := by
  have c1 := c_misrv (h := hM h M C) hs
  have hN := hE.1
  show Ev tMd_head 0 [some (vR M), some (.inl s), some (.inl k), none, none] [] _ _
  unfold d_head
  cases hd : d_srv s with
  | false =>
    rw [hd] at c1
    rw [if_neg (by simp)]
    iterate 1 (refine ev_st rfl rfl ?_)
    refine ev_cl rfl rfl c1 ?_
    refine ev_zneF rfl rfl ?_
    iterate 1 (refine ev_st rfl rfl ?_)
    exact ev_rt rfl rfl rfl
  | true =>
    rw [hd] at c1
    rw [if_pos rfl]
    have hs4 := d_srv_lt hd
    have hs0 : 0 ≤ s ∧ s < 4 := of_decide_eq_true hd
    obtain ⟨sn, rfl⟩ : ∃ n : Nat, s = n := ⟨s.toNat, by omega⟩
    rw [Int.toNat_natCast] at *
    iterate 1 (refine ev_st rfl rfl ?_)
    refine ev_cl rfl rfl c1 ?_
    refine ev_zneT rfl rfl ?_
    iterate 4 (refine ev_st rfl rfl ?_)
    exact l_mhd hE q hs4 (hS sn hs4) (fun y hy => ((rv sn hs4).1 y (by omega)).1) hk N 0 0 (by omega) (by omega)
theorem l_mc3 {h : AH} {M s : Nat} {C : RM} {σ : SS} (hs : s < 4) (h17 : ∀ p, p < 23 → C.1 17 (23 * s + p) = σ p ∧ -1 ≤ σ p ∧ σ p < 400) : ∀ (k p : Nat), p + k = 23 → Ev tMd_count 28 [some (vR M), some (.inl (s : Int)), some (.inl 3), some (.inl (b_cnt p (fun p => decide (0 ≤ σ p)) : Int)), some (.inl (p : Int))] [] (hM h M C) (some (.inl (d_cnt σ : Int)), hM h M C) := by
  intro k
  induction k with
  | zero =>
    intro p hp
    obtain rfl : p = 23 := by omega
    iterate 2 (refine ev_st rfl rfl ?_)
    refine ev_icT rfl (by simp only [ick, w32]; omega) ?_
    iterate 1 (refine ev_st rfl rfl ?_)
    exact ev_ri rfl rfl
  | succ k ih =>
    intro p hp
    obtain ⟨a1, a2, a3⟩ := h17 p (by omega)
    have nx := ih (p + 1) (by omega)
    simp only [b_cnt] at nx
    iterate 2 (refine ev_st rfl rfl ?_)
    refine ev_icF rfl (by simp only [ick, w32]; omega) ?_
    iterate 2 (refine ev_st rfl rfl ?_)
    refine ev_getf rfl hM_0 (by rfl) ?_
    iterate 5 (refine ev_st rfl rfl ?_)
    refine ev_iald (23 * s + p) rfl hA17 (by simp only [w32]; omega) (by omega) ?_
    rw [a1]
    by_cases z : 0 ≤ σ p
    · rw [decide_eq_true z] at nx
      refine ev_ifF rfl (by simp only [ick, w32]; omega) ?_
      iterate 6 (refine ev_st rfl rfl ?_)
      exact nx
    · rw [decide_eq_false z] at nx
      refine ev_ifT rfl (by simp only [ick, w32]; omega) ?_
      iterate 5 (refine ev_st rfl rfl ?_)
      exact nx
theorem l_mcn {h : AH} {M N s : Nat} {C : RM} {w : Int} {g : Nat → Bool} (hN : N ≤ 400) (hc : C.2.1 = (N : Int)) (step : ∀ (e : Nat) (n : Int) {o : Option AV × AH}, e < N → Ev tMd_count 141 [some (vR M), some (.inl (s : Int)), some (.inl w), some (.inl n), some (.inl (e : Int))] [vB (g e), .inl n] (hM h M C) o → Ev tMd_count 79 [some (vR M), some (.inl (s : Int)), some (.inl w), some (.inl n), some (.inl (e : Int))] [.inl n] (hM h M C) o) : ∀ (k e : Nat), e + k = N → Ev tMd_count 69 [some (vR M), some (.inl (s : Int)), some (.inl w), some (.inl (b_cnt e g : Int)), some (.inl (e : Int))] [] (hM h M C) (some (.inl (b_cnt N g : Int)), hM h M C) := by
  intro k
  induction k with
  | zero =>
    intro e he
    obtain rfl : e = N := by omega
    iterate 2 (refine ev_st rfl rfl ?_)
    refine ev_getf rfl hM_0 (by rfl) ?_
    rw [hc]
    refine ev_icT rfl (by simp only [ick, w32]; omega) ?_
    iterate 1 (refine ev_st rfl rfl ?_)
    exact ev_ri rfl rfl
  | succ k ih =>
    intro e he
    have nx := ih (e + 1) (by omega)
    simp only [b_cnt] at nx
    iterate 2 (refine ev_st rfl rfl ?_)
    refine ev_getf rfl hM_0 (by rfl) ?_
    rw [hc]
    refine ev_icF rfl (by simp only [ick, w32]; omega) ?_
    iterate 1 (refine ev_st rfl rfl ?_)
    refine step e _ (by omega) ?_
    cases hg : g e with
    | true =>
      rw [hg] at nx
      iterate 4 (refine ev_st rfl rfl ?_)
      exact nx
    | false =>
      rw [hg] at nx
      iterate 4 (refine ev_st rfl rfl ?_)
      exact nx
theorem c_mcount {h : AH} {M N : Nat} {C : RM} {E : EL} {V : Nat → SV} (hE : EOK N E) (hS : VOK N E V) (q : rE C N E) (rv : rV C N E V) {s w : Int} (hs : InR s) (hw : InR w) : Em mMd_count 2 [vR M, .inl s, .inl w] (hM h M C) (some (.inl (d_count N E V s w))) (hM h M C) := by
  have c1 := c_misrv (h := hM h M C) hs
  have hN := hE.1
  have hP := hE.2.2.1
  unfold InR at hw
  show Ev tMd_count 0 [some (vR M), some (.inl s), some (.inl w), none, none] [] _ _
  unfold d_count
  cases hd : d_srv s with
  | false =>
    rw [hd] at c1
    rw [if_neg (by simp)]
    iterate 1 (refine ev_st rfl rfl ?_)
    refine ev_cl rfl rfl c1 ?_
    refine ev_zeqT rfl rfl ?_
    iterate 1 (refine ev_st rfl rfl ?_)
    exact ev_rt rfl rfl rfl
  | true =>
    rw [hd] at c1
    rw [if_pos rfl]
    have hs4 := d_srv_lt hd
    have hs0 : 0 ≤ s ∧ s < 4 := of_decide_eq_true hd
    obtain ⟨sn, rfl⟩ : ∃ n : Nat, s = n := ⟨s.toNat, by omega⟩
    rw [Int.toNat_natCast] at *
    obtain ⟨s1, s2, s3, s4, s5⟩ := hS sn hs4
    have e14 : ∀ y, y < N → C.1 14 (400 * sn + y) = b2 ((V sn).1 y) := fun y hy => ((rv sn hs4).1 y (by omega)).1
    have e15 : ∀ y, y < N → C.1 15 (400 * sn + y) = b2 ((V sn).2.1 y) := fun y hy => ((rv sn hs4).1 y (by omega)).2
    have off : ∀ {f : Nat → Bool}, (∀ y, f y = true → y < N) → ∀ y, N ≤ y → f y = false := by
      intro f hf y hy
      cases hz : f y
      · rfl
      · have := hf y hz; omega
    by_cases hz : 0 ≤ w ∧ w ≤ 3
    · have pre : ∀ {o : Option AV × AH}, Ev tMd_count 18 [some (vR M), some (.inl (sn : Int)), some (.inl w), none, none] [] (hM h M C) o → Ev tMd_count 0 [some (vR M), some (.inl (sn : Int)), some (.inl w), none, none] [] (hM h M C) o := by
        intro o hgo
        iterate 1 (refine ev_st rfl rfl ?_)
        refine ev_cl rfl rfl c1 ?_
        refine ev_zeqF rfl rfl ?_
        iterate 1 (refine ev_st rfl rfl ?_)
        refine ev_ifF rfl (by simp only [ick, w32]; omega) ?_
        iterate 2 (refine ev_st rfl rfl ?_)
        refine ev_icT rfl (by simp only [ick, w32]; omega) ?_
        exact hgo
      refine pre ?_
      rcases (show w = 0 ∨ w = 1 ∨ w = 2 ∨ w = 3 by omega) with rfl | rfl | rfl | rfl
      · rw [if_pos rfl, b_cnt_stop (show N ≤ 448 by omega) (off s1)]
        iterate 4 (refine ev_st rfl rfl ?_)
        refine ev_icT rfl (by simp only [ick, w32]; omega) ?_
        iterate 2 (refine ev_st rfl rfl ?_)
        refine l_mcn (g := (V sn).1) hN q.1 (fun e n {o} he hgo => ?_) N 0 (by omega)
        iterate 1 (refine ev_st rfl rfl ?_)
        refine ev_ifF rfl (by simp only [ick, w32]; omega) ?_
        iterate 1 (refine ev_st rfl rfl ?_)
        refine ev_getf rfl hM_0 (by rfl) ?_
        iterate 5 (refine ev_st rfl rfl ?_)
        refine ev_iald (400 * sn + e) rfl hA14 (by simp only [w32]; omega) (by omega) ?_
        rw [e14 e he]
        cases hg : (V sn).1 e with
        | true =>
          rw [hg] at hgo
          refine ev_zeqF rfl rfl ?_
          iterate 3 (refine ev_st rfl rfl ?_)
          exact hgo
        | false =>
          rw [hg] at hgo
          refine ev_zeqT rfl rfl ?_
          iterate 1 (refine ev_st rfl rfl ?_)
          exact hgo
      · rw [if_neg (by omega), if_pos rfl, b_cnt_stop (show N ≤ 448 by omega) (off s2)]
        iterate 4 (refine ev_st rfl rfl ?_)
        refine ev_icT rfl (by simp only [ick, w32]; omega) ?_
        iterate 2 (refine ev_st rfl rfl ?_)
        refine l_mcn (g := (V sn).2.1) hN q.1 (fun e n {o} he hgo => ?_) N 0 (by omega)
        iterate 1 (refine ev_st rfl rfl ?_)
        refine ev_ifT rfl (by simp only [ick, w32]; omega) ?_
        iterate 2 (refine ev_st rfl rfl ?_)
        refine ev_icF rfl (fun hh => hh rfl) ?_
        iterate 1 (refine ev_st rfl rfl ?_)
        refine ev_getf rfl hM_0 (by rfl) ?_
        iterate 5 (refine ev_st rfl rfl ?_)
        refine ev_iald (400 * sn + e) rfl hA15 (by simp only [w32]; omega) (by omega) ?_
        rw [e15 e he]
        cases hg : (V sn).2.1 e with
        | true =>
          rw [hg] at hgo
          refine ev_zeqF rfl rfl ?_
          iterate 3 (refine ev_st rfl rfl ?_)
          exact hgo
        | false =>
          rw [hg] at hgo
          refine ev_zeqT rfl rfl ?_
          iterate 1 (refine ev_st rfl rfl ?_)
          exact hgo
      · rw [if_neg (by omega), if_neg (by omega), if_pos rfl, b_cnt_stop (show N ≤ 448 by omega) (off (f := (V sn).2.2) (fun y hy => by rw [s5, m_head_iff] at hy; exact s1 y hy.1))]
        iterate 4 (refine ev_st rfl rfl ?_)
        refine ev_icT rfl (by simp only [ick, w32]; omega) ?_
        iterate 2 (refine ev_st rfl rfl ?_)
        refine l_mcn (g := (V sn).2.2) hN q.1 (fun e n {o} he hgo => ?_) N 0 (by omega)
        have ch := c_mhead (h := h) (M := M) hN hP q hs4 he e14
        rw [← s5] at ch
        iterate 1 (refine ev_st rfl rfl ?_)
        refine ev_ifT rfl (by simp only [ick, w32]; omega) ?_
        iterate 2 (refine ev_st rfl rfl ?_)
        refine ev_icT rfl (by simp only [ick, w32]; omega) ?_
        iterate 3 (refine ev_st rfl rfl ?_)
        refine ev_callV rfl rfl hM_0 rfl ch ?_
        cases hg : (V sn).2.2 e with
        | true =>
          rw [hg] at hgo
          refine ev_zeqF rfl rfl ?_
          iterate 2 (refine ev_st rfl rfl ?_)
          exact hgo
        | false =>
          rw [hg] at hgo
          refine ev_zeqT rfl rfl ?_
          iterate 1 (refine ev_st rfl rfl ?_)
          exact hgo
      · rw [if_neg (by omega), if_neg (by omega), if_neg (by omega), if_pos rfl]
        iterate 4 (refine ev_st rfl rfl ?_)
        refine ev_icF rfl (fun hh => hh rfl) ?_
        iterate 2 (refine ev_st rfl rfl ?_)
        exact l_mc3 hs4 (fun p hp => ⟨(rv sn hs4).2.2 p hp, (state_ok hE).r400 hN p⟩) 23 0 (by omega)
    · rw [if_neg (by omega), if_neg (by omega), if_neg (by omega), if_neg (by omega)]
      iterate 1 (refine ev_st rfl rfl ?_)
      refine ev_cl rfl rfl c1 ?_
      refine ev_zeqF rfl rfl ?_
      by_cases z1 : w < 0
      · repeat (first | refine ev_st rfl rfl ?_ | refine ev_getf rfl hM_0 (by rfl) ?_ | refine ev_ifT rfl (by simp only [ick, w32]; omega) ?_ | refine ev_ifF rfl (by simp only [ick, w32]; omega) ?_ | refine ev_icT rfl (by simp only [ick, w32]; omega) ?_ | refine ev_icF rfl (by simp only [ick, w32]; omega) ?_)
        exact ev_rt rfl rfl rfl
      · repeat (first | refine ev_st rfl rfl ?_ | refine ev_getf rfl hM_0 (by rfl) ?_ | refine ev_ifT rfl (by simp only [ick, w32]; omega) ?_ | refine ev_ifF rfl (by simp only [ick, w32]; omega) ?_ | refine ev_icT rfl (by simp only [ick, w32]; omega) ?_ | refine ev_icF rfl (by simp only [ick, w32]; omega) ?_)
        exact ev_rt rfl rfl rfl
