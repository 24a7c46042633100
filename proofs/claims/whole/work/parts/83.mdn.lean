-- the reference: what only tells
set_option maxRecDepth 20000
theorem qp_cpl : ∀ k : Fin 5, ∀ key : Fin 12, (m_cpl (k.val : Int) (key.val : Int) < 0 ↔ m_qp (k.val : Int) (key.val : Int) < 0) ∧ (0 ≤ m_qp (k.val : Int) (key.val : Int) → pi_ (m_cpl (k.val : Int) (key.val : Int)).toNat = (m_qp (k.val : Int) (key.val : Int)).toNat ∧ (m_qp (k.val : Int) (key.val : Int)).toNat < 23) := by decide
theorem num_qp {σ : SS} {k key : Int} (h : d_key k key = true) : d_num σ k key = if m_qp k key < 0 then -2 else if σ (m_qp k key).toNat < 0 then -2 else σ (m_qp k key).toNat := by
  have h' : (0 ≤ k ∧ k ≤ 4) ∧ (0 ≤ key ∧ key < 12) := of_decide_eq_true h
  obtain ⟨kn, rfl⟩ : ∃ n : Nat, k = n := ⟨k.toNat, by omega⟩
  obtain ⟨yn, rfl⟩ : ∃ n : Nat, key = n := ⟨key.toNat, by omega⟩
  have ab : (m_cpl (kn : Int) (yn : Int) < 0 ↔ m_qp (kn : Int) (yn : Int) < 0) ∧ (0 ≤ m_qp (kn : Int) (yn : Int) → pi_ (m_cpl (kn : Int) (yn : Int)).toNat = (m_qp (kn : Int) (yn : Int)).toNat ∧ (m_qp (kn : Int) (yn : Int)).toNat < 23) := qp_cpl ⟨kn, by omega⟩ ⟨yn, by omega⟩
  obtain ⟨a, b⟩ := ab
  unfold d_num
  by_cases z : m_qp (kn : Int) (yn : Int) < 0
  · rw [if_pos (a.2 z), if_pos z]
  · rw [if_neg (fun w => z (a.1 w)), if_neg z, (b (by omega)).1]
theorem qp_rng {k key : Int} (h : d_key k key = true) : -1 ≤ m_qp k key ∧ m_qp k key < 23 := by
  have h' : (0 ≤ k ∧ k ≤ 4) ∧ (0 ≤ key ∧ key < 12) := of_decide_eq_true h
  unfold m_qp
  repeat (first | omega | split)
theorem c_mstate {h : AH} {M N : Nat} {C : RM} {E : EL} {V : Nat → SV} (hE : EOK N E) (rv : rV C N E V) {s k key : Int} (hs : InR s) (hk : InR k) (hy : InR key) : Em mMd_state 1 [vR M, .inl s, .inl k, .inl key] (hM h M C) (some (.inl (d_state N E V s k key))) (hM h M C) := by
  have c1 := c_misrv (h := hM h M C) hs
  have c2 := c_mplaceOf (h := hM h M C) hk hy
  show Ev tMd_state 0 [some (vR M), some (.inl s), some (.inl k), some (.inl key), none] [] _ _
  unfold d_state
  cases hd : d_srv s with
  | false =>
    rw [hd] at c1
    rw [if_neg (by simp)]
    iterate 1 (refine ev_st rfl rfl ?_)
    refine ev_cl rfl rfl c1 ?_
    refine ev_zeqT rfl rfl ?_
    iterate 1 (refine ev_st rfl rfl ?_)
    exact ev_rt rfl rfl rfl
  | true =>
    rw [hd] at c1
    unfold InR at hk hy
    have hs4 := d_srv_lt hd
    have hs0 : 0 ≤ s ∧ s < 4 := of_decide_eq_true hd
    cases hk2 : d_key k key with
    | false =>
      have hn : ¬ ((0 ≤ k ∧ k ≤ 4) ∧ (0 ≤ key ∧ key < 12)) := of_decide_eq_false hk2
      rw [if_neg (by simp)]
      iterate 1 (refine ev_st rfl rfl ?_)
      refine ev_cl rfl rfl c1 ?_
      refine ev_zeqF rfl rfl ?_
      by_cases z1 : k < 0
      · repeat (first | refine ev_st rfl rfl ?_ | refine ev_getf rfl hM_0 (by rfl) ?_ | refine ev_ifT rfl (by simp only [ick, w32]; omega) ?_ | refine ev_ifF rfl (by simp only [ick, w32]; omega) ?_ | refine ev_icT rfl (by simp only [ick, w32]; omega) ?_ | refine ev_icF rfl (by simp only [ick, w32]; omega) ?_)
        exact ev_rt rfl rfl rfl
      · by_cases z2 : 4 < k
        · repeat (first | refine ev_st rfl rfl ?_ | refine ev_getf rfl hM_0 (by rfl) ?_ | refine ev_ifT rfl (by simp only [ick, w32]; omega) ?_ | refine ev_ifF rfl (by simp only [ick, w32]; omega) ?_ | refine ev_icT rfl (by simp only [ick, w32]; omega) ?_ | refine ev_icF rfl (by simp only [ick, w32]; omega) ?_)
          exact ev_rt rfl rfl rfl
        · by_cases z3 : key < 0
          · repeat (first | refine ev_st rfl rfl ?_ | refine ev_getf rfl hM_0 (by rfl) ?_ | refine ev_ifT rfl (by simp only [ick, w32]; omega) ?_ | refine ev_ifF rfl (by simp only [ick, w32]; omega) ?_ | refine ev_icT rfl (by simp only [ick, w32]; omega) ?_ | refine ev_icF rfl (by simp only [ick, w32]; omega) ?_)
            exact ev_rt rfl rfl rfl
          · repeat (first | refine ev_st rfl rfl ?_ | refine ev_getf rfl hM_0 (by rfl) ?_ | refine ev_ifT rfl (by simp only [ick, w32]; omega) ?_ | refine ev_ifF rfl (by simp only [ick, w32]; omega) ?_ | refine ev_icT rfl (by simp only [ick, w32]; omega) ?_ | refine ev_icF rfl (by simp only [ick, w32]; omega) ?_)
            exact ev_rt rfl rfl rfl
    | true =>
      have h' : (0 ≤ k ∧ k ≤ 4) ∧ (0 ≤ key ∧ key < 12) := of_decide_eq_true hk2
      have hr := qp_rng hk2
      rw [if_pos (show (true && true) = true from rfl), num_qp hk2]
      have pre : ∀ {o : Option AV × AH}, Ev tMd_state 37 [some (vR M), some (.inl s), some (.inl k), some (.inl key), some (.inl (m_qp k key))] [.inl (m_qp k key)] (hM h M C) o → Ev tMd_state 0 [some (vR M), some (.inl s), some (.inl k), some (.inl key), none] [] (hM h M C) o := by
        intro o hgo
        iterate 1 (refine ev_st rfl rfl ?_)
        refine ev_cl rfl rfl c1 ?_
        refine ev_zeqF rfl rfl ?_
        iterate 1 (refine ev_st rfl rfl ?_)
        refine ev_ifF rfl (by simp only [ick, w32]; omega) ?_
        iterate 2 (refine ev_st rfl rfl ?_)
        refine ev_icF rfl (by simp only [ick, w32]; omega) ?_
        iterate 1 (refine ev_st rfl rfl ?_)
        refine ev_ifF rfl (by simp only [ick, w32]; omega) ?_
        iterate 2 (refine ev_st rfl rfl ?_)
        refine ev_icT rfl (by simp only [ick, w32]; omega) ?_
        iterate 2 (refine ev_st rfl rfl ?_)
        refine ev_cl rfl rfl c2 ?_
        iterate 2 (refine ev_st rfl rfl ?_)
        exact hgo
      refine pre ?_
      generalize m_qp k key = p at *
      by_cases z : p < 0
      · rw [if_pos z]
        refine ev_ifT rfl (by simp only [ick, w32]; omega) ?_
        iterate 2 (refine ev_st rfl rfl ?_)
        exact ev_rt rfl rfl rfl
      · rw [if_neg z]
        have e17 := (rv _ hs4).2.2 p.toNat (by omega)
        have r4 := (state_ok (kn := (V s.toNat).1) hE).r400 hE.1 p.toNat
        refine ev_ifF rfl (by simp only [ick, w32]; omega) ?_
        iterate 1 (refine ev_st rfl rfl ?_)
        refine ev_getf rfl hM_0 (by rfl) ?_
        iterate 5 (refine ev_st rfl rfl ?_)
        refine ev_iald (23 * s.toNat + p.toNat) rfl hA17 (by simp only [w32]; omega) (by omega) ?_
        rw [e17]
        by_cases z2 : m_state N E (V s.toNat).1 p.toNat < 0
        · rw [if_pos z2]
          refine ev_ifF rfl (by simp only [ick, w32]; omega) ?_
          iterate 2 (refine ev_st rfl rfl ?_)
          exact ev_rt rfl rfl rfl
        · rw [if_neg z2]
          refine ev_ifT rfl (by simp only [ick, w32]; omega) ?_
          iterate 1 (refine ev_st rfl rfl ?_)
          refine ev_getf rfl hM_0 (by rfl) ?_
          iterate 5 (refine ev_st rfl rfl ?_)
          refine ev_iald (23 * s.toNat + p.toNat) rfl hA17 (by simp only [w32]; omega) (by omega) ?_
          rw [e17]
          exact ev_rt rfl rfl rfl
theorem c_mbefore {h : AH} {M N : Nat} {C : RM} {E : EL} (hE : EOK N E) (q : rE C N E) {e k key : Int} (he : InR e) (hk : InR k) (hy : InR key) : Em mMd_before 1 [vR M, .inl e, .inl k, .inl key] (hM h M C) (some (.inl (d_before N E e k key))) (hM h M C) := by
  have c1 := c_misev (h := h) (M := M) hE.1 q.1 he
  have c2 := c_mplaceOf (h := hM h M C) hk hy
  have hN := hE.1
  show Ev tMd_before 0 [some (vR M), some (.inl e), some (.inl k), some (.inl key), none] [] _ _
  unfold d_before
  unfold InR at hk hy
  cases hk2 : d_key k key with
  | false =>
    have hn : ¬ ((0 ≤ k ∧ k ≤ 4) ∧ (0 ≤ key ∧ key < 12)) := of_decide_eq_false hk2
    rw [if_neg (by simp)]
    by_cases z1 : k < 0
    · repeat (first | refine ev_st rfl rfl ?_ | refine ev_getf rfl hM_0 (by rfl) ?_ | refine ev_ifT rfl (by simp only [ick, w32]; omega) ?_ | refine ev_ifF rfl (by simp only [ick, w32]; omega) ?_ | refine ev_icT rfl (by simp only [ick, w32]; omega) ?_ | refine ev_icF rfl (by simp only [ick, w32]; omega) ?_)
      exact ev_rt rfl rfl rfl
    · by_cases z2 : 4 < k
      · repeat (first | refine ev_st rfl rfl ?_ | refine ev_getf rfl hM_0 (by rfl) ?_ | refine ev_ifT rfl (by simp only [ick, w32]; omega) ?_ | refine ev_ifF rfl (by simp only [ick, w32]; omega) ?_ | refine ev_icT rfl (by simp only [ick, w32]; omega) ?_ | refine ev_icF rfl (by simp only [ick, w32]; omega) ?_)
        exact ev_rt rfl rfl rfl
      · by_cases z3 : key < 0
        · repeat (first | refine ev_st rfl rfl ?_ | refine ev_getf rfl hM_0 (by rfl) ?_ | refine ev_ifT rfl (by simp only [ick, w32]; omega) ?_ | refine ev_ifF rfl (by simp only [ick, w32]; omega) ?_ | refine ev_icT rfl (by simp only [ick, w32]; omega) ?_ | refine ev_icF rfl (by simp only [ick, w32]; omega) ?_)
          exact ev_rt rfl rfl rfl
        · repeat (first | refine ev_st rfl rfl ?_ | refine ev_getf rfl hM_0 (by rfl) ?_ | refine ev_ifT rfl (by simp only [ick, w32]; omega) ?_ | refine ev_ifF rfl (by simp only [ick, w32]; omega) ?_ | refine ev_icT rfl (by simp only [ick, w32]; omega) ?_ | refine ev_icF rfl (by simp only [ick, w32]; omega) ?_)
          exact ev_rt rfl rfl rfl
  | true =>
    have h' : (0 ≤ k ∧ k ≤ 4) ∧ (0 ≤ key ∧ key < 12) := of_decide_eq_true hk2
    have hr := qp_rng hk2
    rw [if_pos rfl]
    have pre : ∀ {o : Option AV × AH}, Ev tMd_before 33 [some (vR M), some (.inl e), some (.inl k), some (.inl key), some (.inl (m_qp k key))] [vB (decide (0 ≤ e ∧ e < N))] (hM h M C) o → Ev tMd_before 0 [some (vR M), some (.inl e), some (.inl k), some (.inl key), none] [] (hM h M C) o := by
      intro o hgo
      iterate 1 (refine ev_st rfl rfl ?_)
      refine ev_ifF rfl (by simp only [ick, w32]; omega) ?_
      iterate 2 (refine ev_st rfl rfl ?_)
      refine ev_icF rfl (by simp only [ick, w32]; omega) ?_
      iterate 1 (refine ev_st rfl rfl ?_)
      refine ev_ifF rfl (by simp only [ick, w32]; omega) ?_
      iterate 2 (refine ev_st rfl rfl ?_)
      refine ev_icT rfl (by simp only [ick, w32]; omega) ?_
      iterate 2 (refine ev_st rfl rfl ?_)
      refine ev_cl rfl rfl c2 ?_
      iterate 3 (refine ev_st rfl rfl ?_)
      refine ev_callV rfl rfl hM_0 rfl c1 ?_
      exact hgo
    refine pre ?_
    by_cases hz : 0 ≤ e ∧ e < N
    · rw [if_pos hz, num_qp hk2]
      refine ev_zeqF rfl (decide_eq_true hz) ?_
      generalize m_qp k key = p at *
      iterate 1 (refine ev_st rfl rfl ?_)
      by_cases z : p < 0
      · rw [if_pos z]
        refine ev_ifT rfl (by simp only [ick, w32]; omega) ?_
        iterate 2 (refine ev_st rfl rfl ?_)
        exact ev_rt rfl rfl rfl
      · rw [if_neg z]
        have e12 := (q.2 e.toNat (by omega)).2.2.2.2.2.2.1 p.toNat (by omega)
        have r4 := (hE.2.2.2.2.2 e.toNat (by omega)).r400 (by omega) p.toNat
        refine ev_ifF rfl (by simp only [ick, w32]; omega) ?_
        iterate 1 (refine ev_st rfl rfl ?_)
        refine ev_getf rfl hM_0 (by rfl) ?_
        iterate 5 (refine ev_st rfl rfl ?_)
        refine ev_iald (23 * e.toNat + p.toNat) rfl hA12 (by simp only [w32]; omega) (by omega) ?_
        rw [e12]
        by_cases z2 : e_bf (E e.toNat) p.toNat < 0
        · rw [if_pos z2]
          refine ev_ifF rfl (by simp only [ick, w32]; omega) ?_
          iterate 2 (refine ev_st rfl rfl ?_)
          exact ev_rt rfl rfl rfl
        · rw [if_neg z2]
          refine ev_ifT rfl (by simp only [ick, w32]; omega) ?_
          iterate 1 (refine ev_st rfl rfl ?_)
          refine ev_getf rfl hM_0 (by rfl) ?_
          iterate 5 (refine ev_st rfl rfl ?_)
          refine ev_iald (23 * e.toNat + p.toNat) rfl hA12 (by simp only [w32]; omega) (by omega) ?_
          rw [e12]
          exact ev_rt rfl rfl rfl
    · rw [if_neg hz]
      refine ev_zeqT rfl (decide_eq_false hz) ?_
      iterate 2 (refine ev_st rfl rfl ?_)
      exact ev_rt rfl rfl rfl
theorem c_mlook {h : AH} {M N : Nat} {C : RM} {E : EL} (hE : EOK N E) (q : rE C N E) {e w : Int} (he : InR e) (hw : InR w) : Em mMd_look 0 [vR M, .inl e, .inl w] (hM h M C) (some (.inl (d_look N E e w))) (hM h M C) := by
  have c1 := c_misev (h := h) (M := M) hE.1 q.1 he
  have hN := hE.1
  show Ev tMd_look 0 [some (vR M), some (.inl e), some (.inl w)] [] _ _
  unfold d_look
  unfold InR at hw
  by_cases hz : 0 ≤ w ∧ w ≤ 7
  · rw [if_pos hz]
    iterate 1 (refine ev_st rfl rfl ?_)
    refine ev_ifF rfl (by simp only [ick, w32]; omega) ?_
    iterate 2 (refine ev_st rfl rfl ?_)
    refine ev_icT rfl (by simp only [ick, w32]; omega) ?_
    iterate 2 (refine ev_st rfl rfl ?_)
    refine ev_callV rfl rfl hM_0 rfl c1 ?_
    by_cases hn : 0 ≤ e ∧ e < N
    · rw [if_pos hn]
      refine ev_zneT rfl (decide_eq_true hn) ?_
      obtain ⟨n, rfl⟩ : ∃ n : Nat, e = n := ⟨e.toNat, by omega⟩
      rw [Int.toNat_natCast]
      obtain ⟨⟨f0, f1, f2, f3, f4⟩, ⟨p6, -⟩, ⟨A, a1, -, a3, -⟩, -, -, f11, -⟩ := q.2 n (by omega)
      iterate 1 (refine ev_st rfl rfl ?_)
      unfold d_lk
      rcases (show w = 0 ∨ w = 1 ∨ w = 2 ∨ w = 3 ∨ w = 4 ∨ w = 5 ∨ w = 6 ∨ w = 7 by omega) with rfl | rfl | rfl | rfl | rfl | rfl | rfl | rfl
      · refine ev_sw rfl (pc' := 68) (by decide) rfl ?_
        iterate 1 (refine ev_st rfl rfl ?_)
        refine ev_getf rfl hM_0 (by rfl) ?_
        iterate 1 (refine ev_st rfl rfl ?_)
        refine ev_iald n rfl hA0 (by simp only [w32]; omega) (by omega) ?_
        exact ev_ri rfl f0
      · refine ev_sw rfl (pc' := 75) (by decide) rfl ?_
        iterate 1 (refine ev_st rfl rfl ?_)
        refine ev_getf rfl hM_0 (by rfl) ?_
        iterate 1 (refine ev_st rfl rfl ?_)
        refine ev_iald n rfl hA1 (by simp only [w32]; omega) (by omega) ?_
        exact ev_ri rfl f1
      · refine ev_sw rfl (pc' := 82) (by decide) rfl ?_
        iterate 1 (refine ev_st rfl rfl ?_)
        refine ev_getf rfl hM_0 (by rfl) ?_
        iterate 1 (refine ev_st rfl rfl ?_)
        refine ev_iald n rfl hA2 (by simp only [w32]; omega) (by omega) ?_
        exact ev_ri rfl f2
      · refine ev_sw rfl (pc' := 89) (by decide) rfl ?_
        iterate 1 (refine ev_st rfl rfl ?_)
        refine ev_getf rfl hM_0 (by rfl) ?_
        iterate 1 (refine ev_st rfl rfl ?_)
        refine ev_iald n rfl hA3 (by simp only [w32]; omega) (by omega) ?_
        exact ev_ri rfl f3
      · refine ev_sw rfl (pc' := 96) (by decide) rfl ?_
        iterate 1 (refine ev_st rfl rfl ?_)
        refine ev_getf rfl hM_0 (by rfl) ?_
        iterate 1 (refine ev_st rfl rfl ?_)
        refine ev_iald n rfl hA6 (by simp only [w32]; omega) (by omega) ?_
        exact ev_ri rfl p6
      · refine ev_sw rfl (pc' := 103) (by decide) rfl ?_
        iterate 1 (refine ev_st rfl rfl ?_)
        refine ev_getf rfl hM_0 (by rfl) ?_
        iterate 1 (refine ev_st rfl rfl ?_)
        refine ev_iald n rfl hA8 (by simp only [w32]; omega) (by omega) ?_
        exact ev_ri rfl (a1.trans (by rw [a3]; rfl))
      · refine ev_sw rfl (pc' := 110) (by decide) rfl ?_
        iterate 1 (refine ev_st rfl rfl ?_)
        refine ev_getf rfl hM_0 (by rfl) ?_
        iterate 1 (refine ev_st rfl rfl ?_)
        refine ev_iald n rfl hA11 (by simp only [w32]; omega) (by omega) ?_
        rw [f11]
        cases hg : e_gd (E n) with
        | true =>
          refine ev_zeqF rfl rfl ?_
          iterate 2 (refine ev_st rfl rfl ?_)
          exact ev_ri rfl rfl
        | false =>
          refine ev_zeqT rfl rfl ?_
          iterate 1 (refine ev_st rfl rfl ?_)
          exact ev_ri rfl rfl
      · refine ev_sw rfl (pc' := 125) (by decide) rfl ?_
        iterate 1 (refine ev_st rfl rfl ?_)
        refine ev_cl rfl rfl (c_mid (show n < 400 by omega)) ?_
        exact ev_ri rfl rfl
    · rw [if_neg hn]
      refine ev_zneF rfl (decide_eq_false hn) ?_
      iterate 1 (refine ev_st rfl rfl ?_)
      exact ev_rt rfl rfl rfl
  · rw [if_neg hz]
    by_cases z1 : w < 0
    · repeat (first | refine ev_st rfl rfl ?_ | refine ev_getf rfl hM_0 (by rfl) ?_ | refine ev_ifT rfl (by simp only [ick, w32]; omega) ?_ | refine ev_ifF rfl (by simp only [ick, w32]; omega) ?_ | refine ev_icT rfl (by simp only [ick, w32]; omega) ?_ | refine ev_icF rfl (by simp only [ick, w32]; omega) ?_)
      exact ev_rt rfl rfl rfl
    · repeat (first | refine ev_st rfl rfl ?_ | refine ev_getf rfl hM_0 (by rfl) ?_ | refine ev_ifT rfl (by simp only [ick, w32]; omega) ?_ | refine ev_ifF rfl (by simp only [ick, w32]; omega) ?_ | refine ev_icT rfl (by simp only [ick, w32]; omega) ?_ | refine ev_icF rfl (by simp only [ick, w32]; omega) ?_)
      exact ev_rt rfl rfl rfl
theorem c_mlev {h : AH} {M N : Nat} {C : RM} {E : EL} {V : Nat → SV} (hE : EOK N E) (q : rE C N E) (rv : rV C N E V) {s u : Int} (hs : InR s) (hu : InR u) : Em mMd_level 0 [vR M, .inl s, .inl u] (hM h M C) (some (.inl (d_level N E V s u))) (hM h M C) := by
  have c1 := c_misrv (h := hM h M C) hs
  show Ev tMd_level 0 [some (vR M), some (.inl s), some (.inl u)] [] _ _
  unfold d_level
  unfold InR at hu
  cases hd : d_srv s with
  | false =>
    rw [hd] at c1
    rw [if_neg (by simp)]
    iterate 1 (refine ev_st rfl rfl ?_)
    refine ev_cl rfl rfl c1 ?_
    refine ev_zeqT rfl rfl ?_
    iterate 2 (refine ev_st rfl rfl ?_)
    exact ev_rt rfl rfl rfl
  | true =>
    rw [hd] at c1
    have hs4 := d_srv_lt hd
    have hs0 : 0 ≤ s ∧ s < 4 := of_decide_eq_true hd
    by_cases hz : 0 ≤ u ∧ u < 12
    · rw [decide_eq_true hz, if_pos (show (true && true) = true from rfl)]
      obtain ⟨un, rfl⟩ : ∃ n : Nat, u = n := ⟨u.toNat, by omega⟩
      have cl := c_mlevel (h := h) (M := M) (C := C) (sa := M + 18) (fr := 23 * s.toNat) (σ := m_state N E (V s.toNat).1) hE.1 q ⟨92, C.1 17, hA17, by omega, fun p hp => (rv _ hs4).2.2 p hp⟩ hE.2.1 (state_ok hE) (u := un) (by omega)
      iterate 1 (refine ev_st rfl rfl ?_)
      refine ev_cl rfl rfl c1 ?_
      refine ev_zeqF rfl rfl ?_
      iterate 1 (refine ev_st rfl rfl ?_)
      refine ev_ifF rfl (by simp only [ick, w32]; omega) ?_
      iterate 2 (refine ev_st rfl rfl ?_)
      refine ev_icT rfl (by simp only [ick, w32]; omega) ?_
      iterate 2 (refine ev_st rfl rfl ?_)
      refine ev_getf rfl hM_0 (by rfl) ?_
      iterate 4 (refine ev_st rfl rfl ?_)
      rw [show (23 : Int) * s = ((23 * s.toNat : Nat) : Int) by omega]
      refine ev_callV rfl rfl hM_0 rfl cl ?_
      exact ev_rt rfl rfl rfl
    · rw [decide_eq_false hz, if_neg (by simp)]
      iterate 1 (refine ev_st rfl rfl ?_)
      refine ev_cl rfl rfl c1 ?_
      refine ev_zeqF rfl rfl ?_
      by_cases z1 : u < 0
      · repeat (first | refine ev_st rfl rfl ?_ | refine ev_getf rfl hM_0 (by rfl) ?_ | refine ev_ifT rfl (by simp only [ick, w32]; omega) ?_ | refine ev_ifF rfl (by simp only [ick, w32]; omega) ?_ | refine ev_icT rfl (by simp only [ick, w32]; omega) ?_ | refine ev_icF rfl (by simp only [ick, w32]; omega) ?_)
        exact ev_rt rfl rfl rfl
      · repeat (first | refine ev_st rfl rfl ?_ | refine ev_getf rfl hM_0 (by rfl) ?_ | refine ev_ifT rfl (by simp only [ick, w32]; omega) ?_ | refine ev_ifF rfl (by simp only [ick, w32]; omega) ?_ | refine ev_icT rfl (by simp only [ick, w32]; omega) ?_ | refine ev_icF rfl (by simp only [ick, w32]; omega) ?_)
        exact ev_rt rfl rfl rfl
theorem c_mknows {h : AH} {M N : Nat} {C : RM} {E : EL} {V : Nat → SV} (hE : EOK N E) (hS : VOK N E V) (q : rE C N E) (rv : rV C N E V) {s e : Int} (hs : InR s) (he : InR e) : Em mMd_knows 0 [vR M, .inl s, .inl e] (hM h M C) (some (.inl (d_knows V s e))) (hM h M C) := by
  have c1 := c_misrv (h := hM h M C) hs
  have c2 := c_misev (h := h) (M := M) hE.1 q.1 he
  have hN := hE.1
  show Ev tMd_knows 0 [some (vR M), some (.inl s), some (.inl e)] [] _ _
  unfold d_knows
  cases hd : d_srv s with
  | false =>
    rw [hd] at c1
    rw [if_neg (by simp)]
    iterate 1 (refine ev_st rfl rfl ?_)
    refine ev_cl rfl rfl c1 ?_
    refine ev_zneF rfl rfl ?_
    iterate 1 (refine ev_st rfl rfl ?_)
    exact ev_rt rfl rfl rfl
  | true =>
    rw [hd] at c1
    rw [if_pos rfl]
    have hs4 := d_srv_lt hd
    have hs0 : 0 ≤ s ∧ s < 4 := of_decide_eq_true hd
    have hSs := hS _ hs4
    iterate 1 (refine ev_st rfl rfl ?_)
    refine ev_cl rfl rfl c1 ?_
    refine ev_zneT rfl rfl ?_
    iterate 2 (refine ev_st rfl rfl ?_)
    refine ev_callV rfl rfl hM_0 rfl c2 ?_
    by_cases hn : 0 ≤ e ∧ e < N
    · refine ev_zneT rfl (decide_eq_true hn) ?_
      obtain ⟨x1, x2⟩ := (rv _ hs4).1 e.toNat (by omega)
      rw [decide_eq_true (show 0 ≤ e ∧ e < 400 by omega), Bool.true_and, Bool.true_and]
      iterate 1 (refine ev_st rfl rfl ?_)
      refine ev_getf rfl hM_0 (by rfl) ?_
      iterate 5 (refine ev_st rfl rfl ?_)
      refine ev_iald (400 * s.toNat + e.toNat) rfl hA14 (by simp only [w32]; omega) (by omega) ?_
      rw [x1]
      cases hk : (V s.toNat).1 e.toNat with
      | true =>
        rw [if_pos rfl]
        refine ev_zeqF rfl rfl ?_
        iterate 2 (refine ev_st rfl rfl ?_)
        exact ev_rt rfl rfl rfl
      | false =>
        rw [if_neg (by simp)]
        refine ev_zeqT rfl rfl ?_
        iterate 1 (refine ev_st rfl rfl ?_)
        refine ev_getf rfl hM_0 (by rfl) ?_
        iterate 5 (refine ev_st rfl rfl ?_)
        refine ev_iald (400 * s.toNat + e.toNat) rfl hA15 (by simp only [w32]; omega) (by omega) ?_
        rw [x2]
        cases hk2 : (V s.toNat).2.1 e.toNat with
        | true =>
          rw [if_pos rfl]
          refine ev_zeqF rfl rfl ?_
          iterate 2 (refine ev_st rfl rfl ?_)
          exact ev_rt rfl rfl rfl
        | false =>
          rw [if_neg (by simp)]
          refine ev_zeqT rfl rfl ?_
          iterate 1 (refine ev_st rfl rfl ?_)
          exact ev_rt rfl rfl rfl
    · refine ev_zneF rfl (decide_eq_false hn) ?_
      have k1 : ¬ (decide (0 ≤ e ∧ e < 400) && (V s.toNat).1 e.toNat) = true := by
        rw [Bool.and_eq_true, decide_eq_true_eq]
        rintro ⟨a, b⟩
        have := hSs.1 _ b
        omega
      have k2 : ¬ (decide (0 ≤ e ∧ e < 400) && (V s.toNat).2.1 e.toNat) = true := by
        rw [Bool.and_eq_true, decide_eq_true_eq]
        rintro ⟨a, b⟩
        have := hSs.2.1 _ b
        omega
      rw [if_neg k1, if_neg k2]
      iterate 1 (refine ev_st rfl rfl ?_)
      exact ev_rt rfl rfl rfl
theorem c_mevents {h : AH} {M N : Nat} {C : RM} (q : C.2.1 = (N : Int)) : Em mMd_events 0 [vR M] (hM h M C) (some (.inl (N : Int))) (hM h M C) := by
  show Ev tMd_events 0 [some (vR M)] [] _ _
  iterate 1 (refine ev_st rfl rfl ?_)
  refine ev_getf rfl hM_0 (by rfl) ?_
  rw [q]
  exact ev_rt rfl rfl rfl
