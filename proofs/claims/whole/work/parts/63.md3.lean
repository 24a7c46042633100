-- the reference: byAuthorities, powerOfAuthorities
theorem rU_rU {C : RM} {i : Nat} {f g : Nat → Int} : rU (rU C i f) i g = rU C i g := by
  unfold rU
  refine Prod.ext ?_ rfl
  funext j
  show (bif Nat.beq j i then g else (bif Nat.beq j i then f else C.1 j)) = bif Nat.beq j i then g else C.1 j
  cases Nat.beq j i <;> rfl
theorem rU_cm {C : RM} {i k : Nat} {f g : Nat → Int} (h : i ≠ k) : rU (rU C i f) k g = rU (rU C k g) i f := by
  unfold rU
  refine Prod.ext ?_ rfl
  funext j
  show (bif Nat.beq j k then g else (bif Nat.beq j i then f else C.1 j)) = bif Nat.beq j i then f else (bif Nat.beq j k then g else C.1 j)
  cases h1 : Nat.beq j i <;> cases h2 : Nat.beq j k <;> try rfl
  exact absurd ((Nat.eq_of_beq_eq_true h1).symm.trans (Nat.eq_of_beq_eq_true h2)) h
theorem rU_self {C : RM} {i : Nat} : rU C i (C.1 i) = C := by
  unfold rU
  refine Prod.ext ?_ rfl
  funext j
  show (bif Nat.beq j i then C.1 i else C.1 j) = C.1 j
  cases h1 : Nat.beq j i
  · rfl
  · rw [Nat.eq_of_beq_eq_true h1]; rfl
theorem l_mown1 {h : AH} {M n : Nat} {C : RM} {j3 j4 : Option AV} : ∀ (k i : Nat) (f : Nat → Int), i + k = 23 → (∀ p, p < i → f p = -1) → ∃ f', (∀ p, p < 23 → f' p = -1) ∧ ∀ {o : Option AV × AH}, Ev tMd_byAuthorities 21 [some (vR M), some (.inl (n : Int)), some (.inl 23), j3, j4] [] (hM h M (rU C 27 f')) o → Ev tMd_byAuthorities 2 [some (vR M), some (.inl (n : Int)), some (.inl (i : Int)), j3, j4] [] (hM h M (rU C 27 f)) o := by
  intro k
  induction k with
  | zero =>
    intro i f hi hf
    obtain rfl : i = 23 := by omega
    refine ⟨f, hf, fun hgo => ?_⟩
    iterate 2 (refine ev_st rfl rfl ?_)
    refine ev_icT rfl (by simp only [ick, w32]; omega) ?_
    exact hgo
  | succ k ih =>
    intro i f hi hf
    obtain ⟨f', h1, h2⟩ := ih (i + 1) (va_up f i (-1)) (by omega) (fun p hp => by
      simp only [va_up]
      by_cases z : p = i
      · rw [if_pos z]
      · rw [if_neg z, hf p (by omega)])
    refine ⟨f', h1, fun {o} hgo => ?_⟩
    iterate 2 (refine ev_st rfl rfl ?_)
    refine ev_icF rfl (by simp only [ick, w32]; omega) ?_
    iterate 1 (refine ev_st rfl rfl ?_)
    refine ev_getf rfl hM_0 (by rfl) ?_
    iterate 2 (refine ev_st rfl rfl ?_)
    refine ev_iast i rfl hA27 (by simp only [w32]; omega) (by omega) ?_
    rw [hP27, rU_rU]
    iterate 2 (refine ev_st rfl rfl ?_)
    exact h2 hgo
theorem l_mown2 {h : AH} {M N n : Nat} {C : RM} {E : EL} {τ : SS} {A : List Nat} (hN : N ≤ 400) (q : rE C N E) (hW : WE N E) (hτ : sOK N E τ) (hn : n < 400) (a1 : C.1 8 n = (A.length : Int)) (a2 : A.length ≤ 6) (a3 : ∀ i, i < A.length → C.1 7 (6 * n + i) = (A.getD i 0 : Nat)) (a4 : ∀ v, v ∈ A ↔ ∃ p, p < 23 ∧ τ p = (v : Int)) : ∀ (k i : Nat) (f : Nat → Int) (j3 j4 : Option AV), i + k = A.length → (∀ p, p < 23 → f p = τ p ∨ f p = -1) → (∀ j, j < i → ∀ p, p < 23 → τ p = (A.getD j 0 : Nat) → f p = τ p) → ∃ f', (∀ p, p < 23 → f' p = τ p) ∧ Ev tMd_byAuthorities 23 [some (vR M), some (.inl (n : Int)), some (.inl (i : Int)), j3, j4] [] (hM h M (rU C 27 f)) (none, hM h M (rU C 27 f')) := by
  intro k
  induction k with
  | zero =>
    intro i f j3 j4 hi h1 h2
    refine ⟨f, fun p hp => ?_, ?_⟩
    · rcases hτ.at p with z | ⟨m, z1, z2, z3⟩
      · rcases h1 p hp with w | w
        · exact w
        · rw [w, z]
      · obtain ⟨j, j1, j2⟩ := List.getElem_of_mem ((a4 m).2 ⟨p, hp, z2⟩)
        exact h2 j (by omega) p hp (by rw [z2, List.getD_eq_getElem?_getD, List.getElem?_eq_getElem j1, j2]; rfl)
    · iterate 2 (refine ev_st rfl rfl ?_)
      refine ev_getf rfl hM_0 (by rfl) ?_
      iterate 1 (refine ev_st rfl rfl ?_)
      refine ev_iald n rfl hA8 (by simp only [w32]; omega) (by omega) ?_
      rw [show (rU C 27 f).1 8 n = (A.length : Int) from a1]
      refine ev_icT rfl (by simp only [ick, w32]; omega) ?_
      exact ev_rt rfl rfl rfl
  | succ k ih =>
    intro i f j3 j4 hi h1 h2
    have hm : A.getD i 0 ∈ A := getD_mem (by omega)
    obtain ⟨p, hp, hv⟩ := (a4 _).1 hm
    have hvN : A.getD i 0 < N ∧ e_pl (E (A.getD i 0)) = p := by
      rcases hτ.at p with z | ⟨m, z1, z2, z3⟩
      · omega
      · obtain rfl : m = A.getD i 0 := by omega
        exact ⟨z1, z3⟩
    generalize hvv : A.getD i 0 = v at *
    have qv := q.2 v hvN.1
    have cp := c_mplace (h := h) (M := M) (C := rU C 27 f) (n := v) (x := E v) (by omega) qv.1 (hW v hvN.1)
    rw [hvN.2] at cp
    have pre : ∀ {o : Option AV × AH}, Ev tMd_byAuthorities 60 [some (vR M), some (.inl (n : Int)), some (.inl (i : Int)), some (.inl (v : Int)), some (.inl (p : Int))] [.inl (f p), .inl (v : Int)] (hM h M (rU C 27 f)) o → Ev tMd_byAuthorities 23 [some (vR M), some (.inl (n : Int)), some (.inl (i : Int)), j3, j4] [] (hM h M (rU C 27 f)) o := by
      intro o hgo
      iterate 2 (refine ev_st rfl rfl ?_)
      refine ev_getf rfl hM_0 (by rfl) ?_
      iterate 1 (refine ev_st rfl rfl ?_)
      refine ev_iald n rfl hA8 (by simp only [w32]; omega) (by omega) ?_
      rw [show (rU C 27 f).1 8 n = (A.length : Int) from a1]
      refine ev_icF rfl (by simp only [ick, w32]; omega) ?_
      iterate 1 (refine ev_st rfl rfl ?_)
      refine ev_getf rfl hM_0 (by rfl) ?_
      iterate 5 (refine ev_st rfl rfl ?_)
      refine ev_iald (6 * n + i) rfl hA7 (by simp only [w32]; omega) (by omega) ?_
      rw [show (rU C 27 f).1 7 (6 * n + i) = (v : Int) from by rw [← hvv]; exact a3 i (by omega)]
      iterate 3 (refine ev_st rfl rfl ?_)
      refine ev_callV rfl rfl hM_0 rfl cp ?_
      iterate 3 (refine ev_st rfl rfl ?_)
      refine ev_getf rfl hM_0 (by rfl) ?_
      iterate 1 (refine ev_st rfl rfl ?_)
      refine ev_iald p rfl hA27 (by simp only [w32]; omega) (by omega) ?_
      exact hgo
    by_cases hz : f p = τ p
    · obtain ⟨f', g1, g2⟩ := ih (i + 1) f (some (.inl (v : Int))) (some (.inl (p : Int))) (by omega) h1 (fun j hj p' hp' he => by
        by_cases hji : j = i
        · have : p' = p := by
            rw [hji, hvv] at he
            rcases hτ.at p' with z | ⟨m, z1, z2, z3⟩
            · omega
            · obtain rfl : m = v := by omega
              rw [hvN.2] at z3
              omega
          rw [this]; exact hz
        · exact h2 j (by omega) p' hp' he)
      refine ⟨f', g1, pre ?_⟩
      rw [hz, hv]
      refine ev_icT rfl (by simp only [ick, w32]; omega) ?_
      iterate 2 (refine ev_st rfl rfl ?_)
      exact g2
    · have hz1 : f p = -1 := by
        rcases h1 p hp with w | w
        · exact absurd w hz
        · exact w
      obtain ⟨f', g1, g2⟩ := ih (i + 1) (va_up f p (v : Int)) (some (.inl (v : Int))) (some (.inl (p : Int))) (by omega) (fun p' hp' => by
        simp only [va_up]
        by_cases hpp : p' = p
        · rw [if_pos hpp, hpp, hv]; exact Or.inl rfl
        · rw [if_neg hpp]; exact h1 p' hp') (fun j hj p' hp' he => by
        simp only [va_up]
        by_cases hpp : p' = p
        · rw [if_pos hpp, hpp, hv]
        · rw [if_neg hpp]
          by_cases hji : j = i
          · exfalso
            rw [hji, hvv] at he
            rcases hτ.at p' with z | ⟨m, z1, z2, z3⟩
            · omega
            · obtain rfl : m = v := by omega
              rw [hvN.2] at z3
              omega
          · exact h2 j (by omega) p' hp' he)
      refine ⟨f', g1, pre ?_⟩
      rw [hz1]
      refine ev_icF rfl (by simp only [ick, w32]; omega) ?_
      iterate 1 (refine ev_st rfl rfl ?_)
      refine ev_getf rfl hM_0 (by rfl) ?_
      iterate 2 (refine ev_st rfl rfl ?_)
      refine ev_iast p rfl hA27 (by simp only [w32]; omega) (by omega) ?_
      rw [hP27, rU_rU]
      iterate 2 (refine ev_st rfl rfl ?_)
      exact g2
theorem c_mown {h : AH} {M N n : Nat} {C : RM} {E : EL} {τ : SS} (hN : N ≤ 400) (q : rE C N E) (hW : WE N E) (hτ : sOK N E τ) (hn : n < 400) (ha : rAu C n τ) : ∃ f', (∀ p, p < 23 → f' p = τ p) ∧ Em mMd_byAuthorities 3 [vR M, .inl (n : Int)] (hM h M C) none (hM h M (rU C 27 f')) := by
  obtain ⟨A, a1, a2, -, a3, a4⟩ := ha
  obtain ⟨f1, g1, g2⟩ := l_mown1 (h := h) (M := M) (n := n) (C := C) (j3 := none) (j4 := none) 23 0 (C.1 27) (by omega) (fun p hp => by omega)
  obtain ⟨f2, g3, g4⟩ := l_mown2 (h := h) (M := M) hN q hW hτ hn a1 a2 a3 a4 A.length 0 f1 none none (by omega) (fun p hp => Or.inr (g1 p hp)) (fun j hj => by omega)
  refine ⟨f2, g3, ?_⟩
  show Ev tMd_byAuthorities 0 [some (vR M), some (.inl (n : Int)), none, none, none] [] _ _
  iterate 2 (refine ev_st rfl rfl ?_)
  rw [rU_self] at g2
  refine g2 ?_
  iterate 2 (refine ev_st rfl rfl ?_)
  exact g4
theorem kd_13 {x : ED} (h : e_kd x = 2) : e_pl x = 13 := by
  unfold e_pl m_pl
  rw [h]
  rfl
theorem l_mpoa {h : AH} {M N n : Nat} {C : RM} {E : EL} {τ : SS} {A : List Nat} (hN : N ≤ 400) (q : rE C N E) (hW : WE N E) (hτ : sOK N E τ) (hn : n < 400) (a1 : C.1 8 n = (A.length : Int)) (a2 : A.length ≤ 6) (a3 : ∀ i, i < A.length → C.1 7 (6 * n + i) = (A.getD i 0 : Nat)) (a4 : ∀ v, v ∈ A ↔ ∃ p, p < 23 ∧ τ p = (v : Int)) : ∀ (k i : Nat) (w : Int) (j4 : Option AV), i + k = A.length → (w = -1 ∨ w = τ 13) → (∀ j, j < i → τ 13 = (A.getD j 0 : Nat) → w = τ 13) → Ev tMd_powerOfAuthorities 4 [some (vR M), some (.inl (n : Int)), some (.inl w), some (.inl (i : Int)), j4] [] (hM h M C) (some (.inl (τ 13)), hM h M C) := by
  have r13 := hτ.at 13
  intro k
  induction k with
  | zero =>
    intro i w j4 hi h1 h2
    have hw : w = τ 13 := by
      rcases r13 with z | ⟨m, z1, z2, z3⟩
      · omega
      · obtain ⟨j, j1, j2⟩ := List.getElem_of_mem ((a4 m).2 ⟨13, by omega, z2⟩)
        exact h2 j (by omega) (by rw [z2, List.getD_eq_getElem?_getD, List.getElem?_eq_getElem j1, j2]; rfl)
    rw [hw]
    iterate 2 (refine ev_st rfl rfl ?_)
    refine ev_getf rfl hM_0 (by rfl) ?_
    iterate 1 (refine ev_st rfl rfl ?_)
    refine ev_iald n rfl hA8 (by simp only [w32]; omega) (by omega) ?_
    rw [a1]
    refine ev_icT rfl (by simp only [ick, w32]; omega) ?_
    iterate 1 (refine ev_st rfl rfl ?_)
    exact ev_rt rfl rfl rfl
  | succ k ih =>
    intro i w j4 hi h1 h2
    have hm : A.getD i 0 ∈ A := getD_mem (by omega)
    obtain ⟨p, hp, hv⟩ := (a4 _).1 hm
    have hvN : A.getD i 0 < N ∧ e_pl (E (A.getD i 0)) = p := by
      rcases hτ.at p with z | ⟨m, z1, z2, z3⟩
      · omega
      · obtain rfl : m = A.getD i 0 := by omega
        exact ⟨z1, z3⟩
    have hvv : ∃ v, A.getD i 0 = v := ⟨_, rfl⟩
    obtain ⟨v, hvv⟩ := hvv
    rw [hvv] at hv hvN
    obtain ⟨⟨f0, f1, -⟩, -⟩ := q.2 v hvN.1
    have wk := (hW v hvN.1).2.1
    have wr : -1 ≤ w ∧ w < 400 := by
      rcases r13 with z | ⟨m, z1, z2, z3⟩ <;> omega
    iterate 2 (refine ev_st rfl rfl ?_)
    refine ev_getf rfl hM_0 (by rfl) ?_
    iterate 1 (refine ev_st rfl rfl ?_)
    refine ev_iald n rfl hA8 (by simp only [w32]; omega) (by omega) ?_
    rw [a1]
    refine ev_icF rfl (by simp only [ick, w32]; omega) ?_
    iterate 1 (refine ev_st rfl rfl ?_)
    refine ev_getf rfl hM_0 (by rfl) ?_
    iterate 5 (refine ev_st rfl rfl ?_)
    refine ev_iald (6 * n + i) rfl hA7 (by simp only [w32]; omega) (by omega) ?_
    rw [a3 i (by omega), hvv]
    iterate 2 (refine ev_st rfl rfl ?_)
    refine ev_getf rfl hM_0 (by rfl) ?_
    iterate 1 (refine ev_st rfl rfl ?_)
    refine ev_iald v rfl hA1 (by simp only [w32]; omega) (by omega) ?_
    rw [f1]
    iterate 1 (refine ev_st rfl rfl ?_)
    by_cases k2 : e_kd (E v) = 2
    · have p13 : p = 13 := by have := kd_13 k2; omega
      subst p13
      refine ev_icF rfl (by simp only [ick, w32]; omega) ?_
      iterate 2 (refine ev_st rfl rfl ?_)
      by_cases hz : w = τ 13
      · have hwv : w = (v : Int) := hz.trans hv
        refine ev_icT rfl (by simp only [ick, w32]; omega) ?_
        iterate 2 (refine ev_st rfl rfl ?_)
        exact ih (i + 1) w _ (by omega) h1 (fun _ _ _ => hz)
      · have hz1 : w = -1 := by omega
        rw [hz1]
        refine ev_icF rfl (by simp only [ick, w32]; omega) ?_
        iterate 4 (refine ev_st rfl rfl ?_)
        exact ih (i + 1) (v : Int) _ (by omega) (Or.inr hv.symm) (fun _ _ _ => hv.symm)
    · refine ev_icT rfl (by simp only [ick, w32]; omega) ?_
      iterate 2 (refine ev_st rfl rfl ?_)
      refine ih (i + 1) w _ (by omega) h1 (fun j hj he => ?_)
      by_cases hji : j = i
      · exfalso
        rw [hji, hvv] at he
        rcases r13 with z | ⟨m, z1, z2, z3⟩
        · omega
        · obtain rfl : m = v := by omega
          exact k2 (mpl_13 (hW m z1) z3)
      · exact h2 j (by omega) he
theorem c_mpoa {h : AH} {M N n : Nat} {C : RM} {E : EL} {τ : SS} (hN : N ≤ 400) (q : rE C N E) (hW : WE N E) (hτ : sOK N E τ) (hn : n < 400) (ha : rAu C n τ) : Em mMd_powerOfAuthorities 3 [vR M, .inl (n : Int)] (hM h M C) (some (.inl (τ 13))) (hM h M C) := by
  obtain ⟨A, a1, a2, -, a3, a4⟩ := ha
  show Ev tMd_powerOfAuthorities 0 [some (vR M), some (.inl (n : Int)), none, none, none] [] _ _
  iterate 4 (refine ev_st rfl rfl ?_)
  exact l_mpoa hN q hW hτ hn a1 a2 a3 a4 A.length 0 (-1) none (by omega) (Or.inl rfl) (fun j hj => by omega)
