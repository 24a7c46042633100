-- the reference: findNeeded, makeLevels, authorise, writeDown
theorem c_mfind {h : AH} {M N : Nat} {C : RM} {E : EL} {σ : SS} {sa fr : Nat} (hN : N ≤ 400) (hS : ∀ C', kN C C' → rS (hM h M C') sa fr σ) (hσ : sOK N E σ) {k who whom : Int} (hk : 0 ≤ k ∧ k ≤ 5) (hw : 0 ≤ who ∧ who ≤ 11) (hw2 : k = 1 → 0 ≤ whom ∧ whom ≤ 11) : ∃ C', Em mMd_findNeeded 0 [vR M, vR sa, .inl (fr : Int), .inl k, .inl who, .inl whom] (hM h M C) none (hM h M C') ∧ rN C' (ndl σ k who whom) ∧ kN C C' := by
  have hr : ∀ p, -1 ≤ σ p ∧ σ p < 400 := fun p => by
    rcases hσ.at p with z | ⟨m, z1, z2, -⟩ <;> omega
  have hmm : ∀ {A : List Nat} {p : Nat}, (∀ a ∈ A, a < 400) → ∀ a ∈ nd_add A (σ p), a < 400 := by
    intro A p hA a ha
    rcases (nd_mem (hr p).1).1 ha with z | z
    · exact hA a z
    · have := hr p; omega
  have k0 : kN C (rI C (C.2.1, C.2.2.1, C.2.2.2.1, 0)) := ⟨fun _ _ => rfl, rfl, rfl, rfl⟩
  have n0 : rN (rI C (C.2.1, C.2.2.1, C.2.2.2.1, 0)) [] := ⟨rfl, fun i hi => by simp at hi⟩
  unfold ndl
  by_cases z : k = 0
  · rw [if_pos z]
    refine ⟨_, ?_, n0, k0⟩
    show Ev tMd_findNeeded 0 [some (vR M), some (vR sa), some (.inl (fr : Int)), some (.inl k), some (.inl who), some (.inl whom)] [] _ _
    iterate 2 (refine ev_st rfl rfl ?_)
    refine evM32 rfl rfl ?_
    iterate 1 (refine ev_st rfl rfl ?_)
    refine ev_ifF rfl (by simp only [ick, w32]; omega) ?_
    exact ev_rt rfl rfl rfl
  · rw [if_neg z]
    have m0 : ∀ a ∈ ([] : List Nat), a < 400 := by intro a ha; cases ha
    obtain ⟨C1, c1, n1, k1⟩ := c_mneed (h := h) (M := M) n0 (by simp) m0 (hr 0)
    have m1 := hmm (p := 0) m0
    have l1 := nd_len (A := []) (v := σ 0)
    have l0 : ([] : List Nat).length = 0 := rfl
    obtain ⟨C2, c2, n2, k2⟩ := c_mneed (h := h) (M := M) n1 (by omega) m1 (hr 13)
    have m2 := hmm (p := 13) m1
    have l2 := nd_len (A := nd_add [] (σ 0)) (v := σ 13)
    obtain ⟨C3, c3, n3, k3⟩ := c_mneed (h := h) (M := M) n2 (by omega) m2 (hr (1 + who.toNat))
    have m3 := hmm (p := 1 + who.toNat) m2
    have l3 := nd_len (A := nd_add (nd_add [] (σ 0)) (σ 13)) (v := σ (1 + who.toNat))
    have K1 := k0.tr k1
    have K2 := K1.tr k2
    have K3 := K2.tr k3
    obtain ⟨ln0, f0, s0, ⟨a0, b0⟩, e0⟩ := hS _ k0
    obtain ⟨ln1, f1, s1, ⟨a1, b1⟩, e1⟩ := hS _ K1
    obtain ⟨ln2, f2, s2, ⟨a2, b2_⟩, e2⟩ := hS _ K2
    obtain ⟨ln3, f3, s3, ⟨a3, b3⟩, e3⟩ := hS _ K3
    have go : ∀ {o : Option AV × AH}, Ev tMd_findNeeded 39 [some (vR M), some (vR sa), some (.inl (fr : Int)), some (.inl k), some (.inl who), some (.inl whom)] [] (hM h M C3) o → Ev tMd_findNeeded 0 [some (vR M), some (vR sa), some (.inl (fr : Int)), some (.inl k), some (.inl who), some (.inl whom)] [] (hM h M C) o := by
      intro o hgo
      iterate 2 (refine ev_st rfl rfl ?_)
      refine evM32 rfl rfl ?_
      iterate 1 (refine ev_st rfl rfl ?_)
      refine ev_ifT rfl (by simp only [ick, w32]; omega) ?_
      iterate 3 (refine ev_st rfl rfl ?_)
      refine ev_iald (fr + 0) rfl s0 (by simp only [w32]; omega) (by omega) ?_
      rw [e0 0 (by omega)]
      refine ev_callV rfl rfl hM_0 rfl c1 ?_
      iterate 5 (refine ev_st rfl rfl ?_)
      refine ev_iald (fr + 13) rfl s1 (by simp only [w32]; omega) (by omega) ?_
      rw [e1 13 (by omega)]
      refine ev_callV rfl rfl hM_0 rfl c2 ?_
      iterate 7 (refine ev_st rfl rfl ?_)
      refine ev_iald (fr + (1 + who.toNat)) rfl s2 (by simp only [w32]; omega) (by omega) ?_
      rw [e2 (1 + who.toNat) (by omega)]
      refine ev_callV rfl rfl hM_0 rfl c3 ?_
      exact hgo
    by_cases z1 : k = 1
    · have w2 := hw2 z1
      rw [if_pos z1]
      obtain ⟨C4, c4, n4, k4⟩ := c_mneed (h := h) (M := M) n3 (by omega) m3 (hr (1 + whom.toNat))
      have m4 := hmm (p := 1 + whom.toNat) m3
      have l4 := nd_len (A := nd_add (nd_add (nd_add [] (σ 0)) (σ 13)) (σ (1 + who.toNat))) (v := σ (1 + whom.toNat))
      obtain ⟨C5, c5, n5, k5⟩ := c_mneed (h := h) (M := M) n4 (by omega) m4 (hr 14)
      have K4 := K3.tr k4
      obtain ⟨ln4, f4, s4, ⟨a4, b4⟩, e4⟩ := hS _ K4
      refine ⟨C5, ?_, n5, K4.tr k5⟩
      show Ev tMd_findNeeded 0 [some (vR M), some (vR sa), some (.inl (fr : Int)), some (.inl k), some (.inl who), some (.inl whom)] [] _ _
      refine go ?_
      iterate 2 (refine ev_st rfl rfl ?_)
      refine ev_icT rfl (by simp only [ick, w32]; omega) ?_
      iterate 7 (refine ev_st rfl rfl ?_)
      refine ev_iald (fr + (1 + whom.toNat)) rfl s3 (by simp only [w32]; omega) (by omega) ?_
      rw [e3 (1 + whom.toNat) (by omega)]
      refine ev_callV rfl rfl hM_0 rfl c4 ?_
      iterate 5 (refine ev_st rfl rfl ?_)
      refine ev_iald (fr + 14) rfl s4 (by simp only [w32]; omega) (by omega) ?_
      rw [e4 14 (by omega)]
      refine ev_callV rfl rfl hM_0 rfl c5 ?_
      exact ev_rt rfl rfl rfl
    · rw [if_neg z1]
      refine ⟨C3, ?_, n3, K3⟩
      show Ev tMd_findNeeded 0 [some (vR M), some (vR sa), some (.inl (fr : Int)), some (.inl k), some (.inl who), some (.inl whom)] [] _ _
      refine go ?_
      iterate 2 (refine ev_st rfl rfl ?_)
      refine ev_icF rfl (by simp only [ick, w32]; omega) ?_
      exact ev_rt rfl rfl rfl
-- levels of a new POWER
def lv_b (E : EL) (τ : SS) (u : Nat) : Int := if τ 13 < 0 then 0 else e_lv (E (τ 13).toNat) u
theorem l_ml1 {h : AH} {M N : Nat} {C : RM} {E : EL} {τ : SS} (hN : N < 400) (q : rE C N E) (hW : WE N E) (hτ : sOK N E τ) {j4 : Option AV} : ∀ (k i : Nat) (g : Nat → Int), i + k = 12 → (∀ u : Nat, u < i → g (12 * N + u) = lv_b E τ u) → (∀ j, j < 12 * N → g j = C.1 9 j) → ∃ g', ((∀ u : Nat, u < 12 → g' (12 * N + u) = lv_b E τ u) ∧ ∀ j, j < 12 * N → g' j = C.1 9 j) ∧ ∀ {o : Option AV × AH}, Ev tMd_makeLevels 50 [some (vR M), some (.inl (N : Int)), some (.inl (τ 13)), some (.inl 12), j4] [] (hM h M (rU C 9 g')) o → Ev tMd_makeLevels 8 [some (vR M), some (.inl (N : Int)), some (.inl (τ 13)), some (.inl (i : Int)), j4] [] (hM h M (rU C 9 g)) o := by
  intro k
  induction k with
  | zero =>
    intro i g hi h1 h2
    obtain rfl : i = 12 := by omega
    refine ⟨g, ⟨h1, h2⟩, fun {o} hgo => ?_⟩
    iterate 2 (refine ev_st rfl rfl ?_)
    refine ev_icT rfl (by simp only [ick, w32]; omega) ?_
    exact hgo
  | succ k ih =>
    intro i g hi h1 h2
    obtain ⟨g', hg, hgo'⟩ := ih (i + 1) (va_up g (12 * N + i) (lv_b E τ i)) (by omega) (fun u hu => by
      simp only [va_up]
      by_cases z : 12 * N + u = 12 * N + i
      · rw [if_pos z, show u = i by omega]
      · rw [if_neg z, h1 u (by omega)]) (fun j hj => by
      simp only [va_up]
      rw [if_neg (by omega), h2 j hj])
    refine ⟨g', hg, fun {o} hgo => ?_⟩
    have := hgo' hgo
    iterate 2 (refine ev_st rfl rfl ?_)
    refine ev_icF rfl (by simp only [ick, w32]; omega) ?_
    iterate 1 (refine ev_st rfl rfl ?_)
    refine ev_getf rfl hM_0 (by rfl) ?_
    iterate 6 (refine ev_st rfl rfl ?_)
    unfold lv_b at this
    rcases hτ.at 13 with z | ⟨m, z1, z2, z3⟩
    · rw [z, if_pos (by omega)] at this
      rw [z]
      refine ev_ifF rfl (by simp only [ick, w32]; omega) ?_
      iterate 2 (refine ev_st rfl rfl ?_)
      refine ev_iast (12 * N + i) rfl hA9 (by simp only [w32]; omega) (by omega) ?_
      rw [hP9, rU_rU]
      iterate 2 (refine ev_st rfl rfl ?_)
      exact this
    · rw [z2, if_neg (by omega), Int.toNat_natCast] at this
      rw [z2]
      obtain ⟨-, -, -, f9, -⟩ := q.2 m z1
      refine ev_ifT rfl (by simp only [ick, w32]; omega) ?_
      iterate 1 (refine ev_st rfl rfl ?_)
      refine ev_getf rfl hM_0 (by rfl) ?_
      iterate 5 (refine ev_st rfl rfl ?_)
      refine ev_iald (12 * m + i) rfl hA9 (by simp only [w32]; omega) (by omega) ?_
      rw [show (rU C 9 g).1 9 (12 * m + i) = e_lv (E m) i from (h2 _ (by omega)).trans (f9 (mpl_13 (hW m z1) z3) i (by omega))]
      refine ev_iast (12 * N + i) rfl hA9 (by simp only [w32]; omega) (by omega) ?_
      rw [hP9, rU_rU]
      iterate 2 (refine ev_st rfl rfl ?_)
      exact this
theorem kd_0 {x : ED} (h : e_kd x = 0) : e_pl x = 0 := by
  unfold e_pl m_pl
  rw [h]
  rfl
theorem pl_0k {x : ED} (wf : wfE x) (h : e_pl x = 0) : e_kd x = 0 := by
  obtain ⟨-, h1, h2, h3, -⟩ := wf
  unfold e_pl m_pl at h
  repeat (first | omega | split at h)
theorem lev_lo {E : EL} {τ : SS} (h : τ 13 < 0) (u : Nat) : m_lev E τ u = if 0 ≤ τ 0 ∧ e_sd (E (τ 0).toNat) = u then 100 else 0 := by
  unfold m_lev
  rw [if_neg (by omega)]
theorem l_ml2 {h : AH} {M N : Nat} {C : RM} {E : EL} {τ : SS} {A : List Nat} (hN : N < 400) (q : rE C N E) (hW : WE N E) (hτ : sOK N E τ) (a1 : C.1 8 N = (A.length : Int)) (a2 : A.length ≤ 6) (a3 : ∀ i, i < A.length → C.1 7 (6 * N + i) = (A.getD i 0 : Nat)) (a4 : ∀ v, v ∈ A ↔ ∃ p, p < 23 ∧ τ p = (v : Int)) : ∀ (k i : Nat) (g : Nat → Int) (j4 : Option AV), i + k = A.length → (∀ u : Nat, u < 12 → g (12 * N + u) = lv_b E τ u ∨ g (12 * N + u) = m_lev E τ u) → (∀ j, j < i → τ 0 = (A.getD j 0 : Nat) → ∀ u : Nat, u < 12 → g (12 * N + u) = m_lev E τ u) → (∀ j, j < 12 * N → g j = C.1 9 j) → ∃ g' j4', ((∀ u : Nat, u < 12 → g' (12 * N + u) = m_lev E τ u) ∧ ∀ j, j < 12 * N → g' j = C.1 9 j) ∧ ∀ {o : Option AV × AH}, Ev tMd_makeLevels 114 [some (vR M), some (.inl (N : Int)), some (.inl (τ 13)), some (.inl (A.length : Int)), j4'] [] (hM h M (rU C 9 g')) o → Ev tMd_makeLevels 52 [some (vR M), some (.inl (N : Int)), some (.inl (τ 13)), some (.inl (i : Int)), j4] [] (hM h M (rU C 9 g)) o := by
  intro k
  induction k with
  | zero =>
    intro i g j4 hi h1 h2 h3
    obtain rfl : i = A.length := by omega
    refine ⟨g, j4, ⟨fun u hu => ?_, h3⟩, fun {o} hgo => ?_⟩
    · rcases h1 u hu with w | w
      · rcases hτ.at 13 with z | ⟨m, z1, z2, z3⟩
        · rcases hτ.at 0 with y | ⟨m, y1, y2, y3⟩
          · rw [w, lev_lo (by omega), if_neg (by omega)]
            unfold lv_b
            rw [if_pos (by omega)]
          · obtain ⟨j, j1, j2⟩ := List.getElem_of_mem ((a4 m).2 ⟨0, by omega, y2⟩)
            exact h2 j (by omega) (by rw [y2, List.getD_eq_getElem?_getD, List.getElem?_eq_getElem j1, j2]; rfl) u hu
        · rw [w]
          unfold lv_b m_lev
          rw [if_neg (by omega), if_pos (by omega), Int.toNat_natCast]
      · exact w
    · iterate 2 (refine ev_st rfl rfl ?_)
      refine ev_getf rfl hM_0 (by rfl) ?_
      iterate 1 (refine ev_st rfl rfl ?_)
      refine ev_iald N rfl hA8 (by simp only [w32]; omega) (by omega) ?_
      rw [show (rU C 9 g).1 8 N = (A.length : Int) from a1]
      refine ev_icT rfl (by simp only [ick, w32]; omega) ?_
      exact hgo
  | succ k ih =>
    intro i g j4 hi h1 h2 h3
    have hm : A.getD i 0 ∈ A := getD_mem (by omega)
    obtain ⟨p, hp, hv⟩ := (a4 _).1 hm
    have hvN : A.getD i 0 < N ∧ e_pl (E (A.getD i 0)) = p := by
      rcases hτ.at p with z | ⟨m, z1, z2, z3⟩
      · omega
      · obtain rfl : m = A.getD i 0 := by omega
        exact ⟨z1, z3⟩
    have hvv : ∃ v, A.getD i 0 = v := ⟨_, rfl⟩
    obtain ⟨v, hvv⟩ := hvv
    rw [hvv] at hv hvN
    obtain ⟨⟨f0, f1, -⟩, -⟩ := q.2 v hvN.1
    have wk := (hW v hvN.1).2.1
    have ws := (hW v hvN.1).1
    have pre : ∀ {o : Option AV × AH}, Ev tMd_makeLevels 76 [some (vR M), some (.inl (N : Int)), some (.inl (τ 13)), some (.inl (i : Int)), some (.inl (v : Int))] [.inl (τ 13)] (hM h M (rU C 9 g)) o → Ev tMd_makeLevels 52 [some (vR M), some (.inl (N : Int)), some (.inl (τ 13)), some (.inl (i : Int)), j4] [] (hM h M (rU C 9 g)) o := by
      intro o hgo
      iterate 2 (refine ev_st rfl rfl ?_)
      refine ev_getf rfl hM_0 (by rfl) ?_
      iterate 1 (refine ev_st rfl rfl ?_)
      refine ev_iald N rfl hA8 (by simp only [w32]; omega) (by omega) ?_
      rw [show (rU C 9 g).1 8 N = (A.length : Int) from a1]
      refine ev_icF rfl (by simp only [ick, w32]; omega) ?_
      iterate 1 (refine ev_st rfl rfl ?_)
      refine ev_getf rfl hM_0 (by rfl) ?_
      iterate 5 (refine ev_st rfl rfl ?_)
      refine ev_iald (6 * N + i) rfl hA7 (by simp only [w32]; omega) (by omega) ?_
      rw [show (rU C 9 g).1 7 (6 * N + i) = (v : Int) from by rw [← hvv]; exact a3 i (by omega)]
      iterate 2 (refine ev_st rfl rfl ?_)
      exact hgo
    by_cases c13 : τ 13 < 0
    · have r13 : τ 13 = -1 := by rcases hτ.at 13 with z | ⟨m, z1, z2, z3⟩ <;> omega
      by_cases c0 : e_kd (E v) = 0
      · have p0 : p = 0 := by have := kd_0 c0; omega
        subst p0
        obtain ⟨us, hus, hus2⟩ : ∃ u : Nat, e_sd (E v) = u ∧ u < 12 := ⟨(e_sd (E v)).toNat, by omega, by omega⟩
        have key : ∀ u, u < 12 → va_up g (12 * N + us) 100 (12 * N + u) = m_lev E τ u := by
          intro u hu
          rw [lev_lo c13, hv, Int.toNat_natCast, hus]
          simp only [va_up]
          by_cases e : us = u
          · rw [if_pos (by omega), if_pos ⟨by omega, by omega⟩]
          · rw [if_neg (by omega), if_neg (by omega)]
            rcases h1 u hu with w | w
            · rw [w]
              unfold lv_b
              rw [if_pos c13]
            · rw [w, lev_lo c13, hv, Int.toNat_natCast, hus, if_neg (by omega)]
        obtain ⟨g', j4', hg, hgo'⟩ := ih (i + 1) (va_up g (12 * N + us) 100) (some (.inl (v : Int))) (by omega) (fun u hu => Or.inr (key u hu)) (fun _ _ _ u hu => key u hu) (fun j hj => by
          simp only [va_up]
          rw [if_neg (by omega), h3 j hj])
        refine ⟨g', j4', hg, fun {o} hgo => pre ?_⟩
        rw [r13]
        refine ev_ifF rfl (by simp only [ick, w32]; omega) ?_
        iterate 1 (refine ev_st rfl rfl ?_)
        refine ev_getf rfl hM_0 (by rfl) ?_
        iterate 1 (refine ev_st rfl rfl ?_)
        refine ev_iald v rfl hA1 (by simp only [w32]; omega) (by omega) ?_
        rw [show (rU C 9 g).1 1 v = e_kd (E v) from f1]
        refine ev_ifF rfl (by simp only [ick, w32]; omega) ?_
        iterate 1 (refine ev_st rfl rfl ?_)
        refine ev_getf rfl hM_0 (by rfl) ?_
        iterate 4 (refine ev_st rfl rfl ?_)
        refine ev_getf rfl hM_0 (by rfl) ?_
        iterate 1 (refine ev_st rfl rfl ?_)
        refine ev_iald v rfl hA0 (by simp only [w32]; omega) (by omega) ?_
        rw [show (rU C 9 g).1 0 v = (us : Int) from f0.trans hus]
        iterate 2 (refine ev_st rfl rfl ?_)
        refine ev_iast (12 * N + us) rfl hA9 (by simp only [w32]; omega) (by omega) ?_
        rw [hP9, rU_rU]
        iterate 2 (refine ev_st rfl rfl ?_)
        rw [← r13]
        exact hgo' hgo
      · obtain ⟨g', j4', hg, hgo'⟩ := ih (i + 1) g (some (.inl (v : Int))) (by omega) h1 (fun j hj he => by
          by_cases hji : j = i
          · exfalso
            rw [hji, hvv] at he
            rcases hτ.at 0 with z | ⟨m, z1, z2, z3⟩
            · omega
            · obtain rfl : m = v := by omega
              exact c0 (pl_0k (hW m z1) z3)
          · exact h2 j (by omega) he) h3
        refine ⟨g', j4', hg, fun {o} hgo => pre ?_⟩
        have := hgo' hgo
        rw [r13] at this ⊢
        refine ev_ifF rfl (by simp only [ick, w32]; omega) ?_
        iterate 1 (refine ev_st rfl rfl ?_)
        refine ev_getf rfl hM_0 (by rfl) ?_
        iterate 1 (refine ev_st rfl rfl ?_)
        refine ev_iald v rfl hA1 (by simp only [w32]; omega) (by omega) ?_
        rw [show (rU C 9 g).1 1 v = e_kd (E v) from f1]
        refine ev_ifT rfl (by simp only [ick, w32]; omega) ?_
        iterate 2 (refine ev_st rfl rfl ?_)
        exact this
    · have r13 : 0 ≤ τ 13 ∧ τ 13 < 400 := by rcases hτ.at 13 with z | ⟨m, z1, z2, z3⟩ <;> omega
      have key : ∀ u : Nat, u < 12 → g (12 * N + u) = m_lev E τ u := by
        intro u hu
        rcases h1 u hu with w | w
        · rw [w]
          unfold lv_b m_lev
          rw [if_neg c13, if_pos r13.1, Int.toNat_natCast]
        · exact w
      obtain ⟨g', j4', hg, hgo'⟩ := ih (i + 1) g (some (.inl (v : Int))) (by omega) h1 (fun _ _ _ => key) h3
      refine ⟨g', j4', hg, fun {o} hgo => pre ?_⟩
      refine ev_ifT rfl (by simp only [ick, w32]; omega) ?_
      iterate 2 (refine ev_st rfl rfl ?_)
      exact hgo' hgo
theorem c_mlevs {h : AH} {M N : Nat} {C : RM} {E : EL} {τ : SS} {x : ED} (hN : N < 400) (q : rE C N E) (hW : WE N E) (hτ : sOK N E τ) (ha : rAu C N τ) (hx : rF C N x) (wf : wfE x) (hk : e_kd x = 2) : ∃ g', ((∀ u : Nat, u < 12 → g' (12 * N + u) = m_lvs E τ (e_a x) (e_b x) u) ∧ ∀ j, j < 12 * N → g' j = C.1 9 j) ∧ Em mMd_makeLevels 3 [vR M, .inl (N : Int)] (hM h M C) none (hM h M (rU C 9 g')) := by
  have cp := c_mpoa (h := h) (M := M) (Nat.le_of_lt hN) q hW hτ hN ha
  obtain ⟨A, a1, a2, -, a3, a4⟩ := ha
  obtain ⟨g1, ⟨b1, b2_⟩, b3⟩ := l_ml1 (h := h) (M := M) (C := C) hN q hW hτ (j4 := none) 12 0 (C.1 9) (by omega) (fun u hu => by omega) (fun j hj => rfl)
  obtain ⟨g2, j4, ⟨d1, d2⟩, d3⟩ := l_ml2 (h := h) (M := M) hN q hW hτ a1 a2 a3 a4 A.length 0 g1 none (by omega) (fun u hu => Or.inl (b1 u hu)) (fun j hj => by omega) b2_
  have wa := wf.2.2.1 (Or.inr hk)
  obtain ⟨f0, f1, f2, f3, f4⟩ := hx
  refine ⟨va_up g2 (12 * N + (e_a x).toNat) (e_b x), ⟨fun u hu => ?_, fun j hj => ?_⟩, ?_⟩
  · unfold m_lvs
    simp only [va_up]
    by_cases e : (u : Int) = e_a x
    · rw [if_pos (by omega), if_pos e]
    · rw [if_neg (by omega), if_neg e, d1 u hu]
  · simp only [va_up]
    rw [if_neg (by omega), d2 j hj]
  · show Ev tMd_makeLevels 0 [some (vR M), some (.inl (N : Int)), none, none, none] [] _ _
    iterate 2 (refine ev_st rfl rfl ?_)
    refine ev_callV rfl rfl hM_0 rfl cp ?_
    iterate 3 (refine ev_st rfl rfl ?_)
    rw [rU_self] at b3
    refine b3 ?_
    iterate 2 (refine ev_st rfl rfl ?_)
    refine d3 ?_
    iterate 1 (refine ev_st rfl rfl ?_)
    refine ev_getf rfl hM_0 (by rfl) ?_
    iterate 4 (refine ev_st rfl rfl ?_)
    refine ev_getf rfl hM_0 (by rfl) ?_
    iterate 1 (refine ev_st rfl rfl ?_)
    refine ev_iald N rfl hA2 (by simp only [w32]; omega) (by omega) ?_
    rw [show (rU C 9 g2).1 2 N = e_a x from f2]
    iterate 2 (refine ev_st rfl rfl ?_)
    refine ev_getf rfl hM_0 (by rfl) ?_
    iterate 1 (refine ev_st rfl rfl ?_)
    refine ev_iald N rfl hA3 (by simp only [w32]; omega) (by omega) ?_
    rw [show (rU C 9 g2).1 3 N = e_b x from f3]
    refine ev_iast (12 * N + (e_a x).toNat) rfl hA9 (by simp only [w32]; omega) (by omega) ?_
    rw [hP9, rU_rU]
    exact ev_rt rfl rfl rfl
