-- the reference: authorise, writeDown
theorem kp.u {N i : Nat} {C : RM} {f : Nat → Int} (hi : i < 14) (hf : ∀ j, j < wd i * N → f j = C.1 i j) : kp N C (rU C i f) := by
  refine ⟨fun j hj m hm => ?_, fun j a b => rU_ne (by omega), rfl⟩
  by_cases e : j = i
  · subst e
    show (bif Nat.beq j j then f else C.1 j) m = _
    rw [show Nat.beq j j = true from Nat.beq_refl j]
    exact hf m hm
  · rw [rU_ne e]
theorem rU_eq {C : RM} {i : Nat} {f : Nat → Int} : (rU C i f).1 i = f := by
  show (bif Nat.beq i i then f else C.1 i) = f
  rw [show Nat.beq i i = true from Nat.beq_refl i]
  rfl
theorem kN.kp {N : Nat} {C C' : RM} (k : kN C C') : kp N C C' := ⟨fun i hi j _ => by rw [k.1 i (by omega)], fun i _ _ => k.1 i (by omega), k.2.1⟩
theorem l_mauth {h : AH} {M N sa fr : Nat} {C : RM} {A : List Nat} (hN : N < 400) (hA : rN C A) (h6 : A.length ≤ 5) : ∀ (k i : Nat) (g : Nat → Int), i + k = A.length → (∀ j, j < i → g (6 * N + j) = (A.getD j 0 : Nat)) → (∀ j, j < 6 * N → g j = C.1 7 j) → ∃ g' : Nat → Int, ((∀ j, j < A.length → g' (6 * N + j) = (A.getD j 0 : Nat)) ∧ ∀ j, j < 6 * N → g' j = C.1 7 j) ∧ ∀ {o : Option AV × AH}, Ev tMd_authorise 76 [some (vR M), some (vR sa), some (.inl (fr : Int)), some (.inl (N : Int)), some (.inl (A.length : Int))] [] (hM h M (rU C 7 g')) o → Ev tMd_authorise 42 [some (vR M), some (vR sa), some (.inl (fr : Int)), some (.inl (N : Int)), some (.inl (i : Int))] [] (hM h M (rU C 7 g)) o := by
  intro k
  induction k with
  | zero =>
    intro i g hi h1 h2
    obtain rfl : i = A.length := by omega
    refine ⟨g, ⟨h1, h2⟩, fun {o} hgo => ?_⟩
    iterate 2 (refine ev_st rfl rfl ?_)
    refine ev_getf rfl hM_0 (by rfl) ?_
    rw [show (rU C 7 g).2.2.2.2 = (A.length : Int) from hA.1]
    refine ev_icT rfl (by simp only [ick, w32]; omega) ?_
    exact hgo
  | succ k ih =>
    intro i g hi h1 h2
    obtain ⟨g', hg, hgo'⟩ := ih (i + 1) (va_up g (6 * N + i) (A.getD i 0 : Nat)) (by omega) (fun j hj => by
      simp only [va_up]
      by_cases z : j = i
      · rw [if_pos (by omega), z]
      · rw [if_neg (by omega), h1 j (by omega)]) (fun j hj => by
      simp only [va_up]
      rw [if_neg (by omega), h2 j hj])
    refine ⟨g', hg, fun {o} hgo => ?_⟩
    have := hgo' hgo
    iterate 2 (refine ev_st rfl rfl ?_)
    refine ev_getf rfl hM_0 (by rfl) ?_
    rw [show (rU C 7 g).2.2.2.2 = (A.length : Int) from hA.1]
    refine ev_icF rfl (by simp only [ick, w32]; omega) ?_
    iterate 1 (refine ev_st rfl rfl ?_)
    refine ev_getf rfl hM_0 (by rfl) ?_
    iterate 6 (refine ev_st rfl rfl ?_)
    refine ev_getf rfl hM_0 (by rfl) ?_
    iterate 1 (refine ev_st rfl rfl ?_)
    refine ev_iald i rfl hA28 (by simp only [w32]; omega) (by omega) ?_
    rw [show (rU C 7 g).1 28 i = (A.getD i 0 : Nat) from hA.2 i (by omega)]
    refine ev_iast (6 * N + i) rfl hA7 (by simp only [w32]; omega) (by omega) ?_
    rw [hP7, rU_rU]
    iterate 2 (refine ev_st rfl rfl ?_)
    exact this
set_option maxHeartbeats 2000000 in
theorem c_mauth {h : AH} {M N : Nat} {C : RM} {E : EL} {σ : SS} {sa fr : Nat} {x : ED} (hN : N < 400) (q : rE C N E) (hW : WE N E) (hP : PW N E) (hS : ∀ C', (∀ i, i ≠ 28 → i ≠ 7 → i ≠ 8 → i ≠ 9 → C'.1 i = C.1 i) → rS (hM h M C') sa fr σ) (hσ : sOK N E σ) (hx : rF C N x) (wf : wfE x) (how : e_ow x = m_need σ (e_kd x) (e_sd x) (e_a x)) (hlv : e_lv x = m_lvs E (e_ow x) (e_a x) (e_b x)) : ∃ C', Em mMd_authorise 2 [vR M, vR sa, .inl (fr : Int)] (hM h M C) none (hM h M C') ∧ kp N C C' ∧ (∀ i, i ≠ 28 → i ≠ 7 → i ≠ 8 → i ≠ 9 → C'.1 i = C.1 i) ∧ rAu C' N (e_ow x) ∧ rL C' N x ∧ C'.2.2.1 = C.2.2.1 := by
  obtain ⟨f0, f1, f2, f3, f4⟩ := id hx
  have hto : sOK N E (e_ow x) := by rw [how]; exact need_ok hσ _ _ _
  obtain ⟨n1, n2, n3⟩ := ndl_ok hσ (k := e_kd x) (who := e_sd x) (whom := e_a x) wf.1 (fun z => wf.2.2.1 (Or.inl z))
  obtain ⟨C1, c1, r1, k1⟩ := c_mfind (h := h) (M := M) (C := C) (sa := sa) (fr := fr) (Nat.le_of_lt hN) (fun C' k => hS C' (fun i a _ _ _ => k.1 i a)) hσ (k := e_kd x) (who := e_sd x) (whom := e_a x) wf.2.1 wf.1 (fun z => wf.2.2.1 (Or.inl z))
  rw [← how] at n2 n3
  generalize ndl σ (e_kd x) (e_sd x) (e_a x) = A at *
  have r2 : rN (rU C1 8 (va_up (C1.1 8) N (A.length : Int))) A := r1
  obtain ⟨g, ⟨g1, g2⟩, g3⟩ := l_mauth (h := h) (M := M) (sa := sa) (fr := fr) hN r2 n1 A.length 0 (C1.1 7) (by omega) (fun j hj => by omega) (fun j hj => rfl)
  have hkp : kp N C (rU (rU C1 8 (va_up (C1.1 8) N (A.length : Int))) 7 g) := (k1.kp.tr (kp.u (by omega) (fun j hj => va_up_ne _ _ (by change j < 1 * N at hj; omega)))).tr (kp.u (by omega) g2)
  have hau : rAu (rU (rU C1 8 (va_up (C1.1 8) N (A.length : Int))) 7 g) N (e_ow x) := ⟨A, va_up_self _ _ _, by omega, n2, g1, n3⟩
  have hfx : rF (rU (rU C1 8 (va_up (C1.1 8) N (A.length : Int))) 7 g) N x := ⟨by rw [← f0]; exact congrFun (k1.1 0 (by omega)) N, by rw [← f1]; exact congrFun (k1.1 1 (by omega)) N, by rw [← f2]; exact congrFun (k1.1 2 (by omega)) N, by rw [← f3]; exact congrFun (k1.1 3 (by omega)) N, by rw [← f4]; exact congrFun (k1.1 4 (by omega)) N⟩
  have hot : ∀ i, i ≠ 28 → i ≠ 7 → i ≠ 8 → i ≠ 9 → (rU (rU C1 8 (va_up (C1.1 8) N (A.length : Int))) 7 g).1 i = C.1 i := fun i a b c d => (rU_ne b).trans ((rU_ne c).trans (k1.1 i a))
  have e1 : C1.2.1 = (N : Int) := k1.2.1.trans q.1
  have go : ∀ {o : Option AV × AH}, Ev tMd_authorise 83 [some (vR M), some (vR sa), some (.inl (fr : Int)), some (.inl (N : Int)), some (.inl (A.length : Int))] [.inl 2, .inl (e_kd x)] (hM h M (rU (rU C1 8 (va_up (C1.1 8) N (A.length : Int))) 7 g)) o → Ev tMd_authorise 0 [some (vR M), some (vR sa), some (.inl (fr : Int)), none, none] [] (hM h M C) o := by
    intro o hgo
    iterate 1 (refine ev_st rfl rfl ?_)
    refine ev_getf rfl hM_0 (by rfl) ?_
    rw [q.1]
    iterate 5 (refine ev_st rfl rfl ?_)
    refine ev_getf rfl hM_0 (by rfl) ?_
    iterate 1 (refine ev_st rfl rfl ?_)
    refine ev_iald N rfl hA1 (by simp only [w32]; omega) (by omega) ?_
    rw [f1]
    iterate 1 (refine ev_st rfl rfl ?_)
    refine ev_getf rfl hM_0 (by rfl) ?_
    iterate 1 (refine ev_st rfl rfl ?_)
    refine ev_iald N rfl hA0 (by simp only [w32]; omega) (by omega) ?_
    rw [f0]
    iterate 1 (refine ev_st rfl rfl ?_)
    refine ev_getf rfl hM_0 (by rfl) ?_
    iterate 1 (refine ev_st rfl rfl ?_)
    refine ev_iald N rfl hA2 (by simp only [w32]; omega) (by omega) ?_
    rw [f2]
    refine ev_callV rfl rfl hM_0 rfl c1 ?_
    iterate 1 (refine ev_st rfl rfl ?_)
    refine ev_getf rfl hM_0 (by rfl) ?_
    iterate 2 (refine ev_st rfl rfl ?_)
    refine ev_getf rfl hM_0 (by rfl) ?_
    rw [r1.1]
    refine ev_iast N rfl hA8 (by simp only [w32]; omega) (by omega) ?_
    rw [hP8]
    iterate 2 (refine ev_st rfl rfl ?_)
    have g3' : ∀ {o : Option AV × AH}, Ev tMd_authorise 76 [some (vR M), some (vR sa), some (.inl (fr : Int)), some (.inl (N : Int)), some (.inl (A.length : Int))] [] (hM h M (rU (rU C1 8 (va_up (C1.1 8) N (A.length : Int))) 7 g)) o → Ev tMd_authorise 42 [some (vR M), some (vR sa), some (.inl (fr : Int)), some (.inl (N : Int)), some (.inl ((0 : Nat) : Int))] [] (hM h M (rU C1 8 (va_up (C1.1 8) N (A.length : Int)))) o := by
      intro o hh
      have := g3 hh
      rw [show rU (rU C1 8 (va_up (C1.1 8) N (A.length : Int))) 7 (C1.1 7) = rU C1 8 (va_up (C1.1 8) N (A.length : Int)) from rU_self (C := rU C1 8 (va_up (C1.1 8) N (A.length : Int))) (i := 7)] at this
      exact this
    refine g3' ?_
    iterate 1 (refine ev_st rfl rfl ?_)
    refine ev_getf rfl hM_0 (by rfl) ?_
    iterate 1 (refine ev_st rfl rfl ?_)
    refine ev_iald N rfl hA1 (by simp only [w32]; omega) (by omega) ?_
    rw [hfx.2.1]
    iterate 1 (refine ev_st rfl rfl ?_)
    exact hgo
  have wk := wf.2.1
  by_cases k2 : e_kd x = 2
  · obtain ⟨g', ⟨b1, b2_⟩, b3⟩ := c_mlevs (h := h) (M := M) hN (q.kp hP hkp) hW hto hau hfx wf k2
    refine ⟨rU (rU (rU C1 8 (va_up (C1.1 8) N (A.length : Int))) 7 g) 9 g', ?_, hkp.tr (kp.u (i := 9) (by omega) b2_), fun i a b c d => (rU_ne d).trans (hot i a b c d), hau.cg rfl (fun _ _ => rfl), fun _ u hu => ?_, k1.2.2.1⟩
    · show Ev tMd_authorise 0 [some (vR M), some (vR sa), some (.inl (fr : Int)), none, none] [] _ _
      refine go ?_
      refine ev_icF rfl (by simp only [ick, w32]; omega) ?_
      iterate 2 (refine ev_st rfl rfl ?_)
      refine ev_callV rfl rfl hM_0 rfl b3 ?_
      exact ev_rt rfl rfl rfl
    · rw [hlv]
      exact b1 u hu
  · refine ⟨_, ?_, hkp, hot, hau, fun z => absurd z k2, k1.2.2.1⟩
    show Ev tMd_authorise 0 [some (vR M), some (vR sa), some (.inl (fr : Int)), none, none] [] _ _
    refine go ?_
    refine ev_icT rfl (by simp only [ick, w32]; omega) ?_
    exact ev_rt rfl rfl rfl
theorem c_mwrite {h : AH} {M N : Nat} {C : RM} {u k a b t : Int} (hN : N < 400) (q : C.2.1 = (N : Int)) : ∃ C', Em mMd_writeDown 1 [vR M, .inl u, .inl k, .inl a, .inl b, .inl t] (hM h M C) none (hM h M C') ∧ kp N C C' ∧ (C'.1 0 N = u ∧ C'.1 1 N = k ∧ C'.1 2 N = a ∧ C'.1 3 N = b ∧ C'.1 4 N = t) ∧ C'.1 6 N = 0 ∧ (∀ i, 9 ≤ i → C'.1 i = C.1 i) ∧ C'.2 = C.2 := by
  have go : ∀ {i : Nat} {v : Int} {C : RM}, i < 14 → wd i = 1 → kp N C (rU C i (va_up (C.1 i) N v)) := fun {i v C} hi hw => kp.u hi (fun j hj => va_up_ne _ _ (by rw [hw] at hj; omega))
  refine ⟨rU (rU (rU (rU (rU (rU (rU C 0 (va_up (C.1 0) N u)) 1 (va_up (C.1 1) N k)) 2 (va_up (C.1 2) N a)) 3 (va_up (C.1 3) N b)) 4 (va_up (C.1 4) N t)) 6 (va_up (C.1 6) N 0)) 8 (va_up (C.1 8) N 0), ?_, ?_, ⟨va_up_self _ _ _, va_up_self _ _ _, va_up_self _ _ _, va_up_self _ _ _, va_up_self _ _ _⟩, va_up_self _ _ _, fun i hi => ?_, rfl⟩
  · show Ev tMd_writeDown 0 [some (vR M), some (.inl u), some (.inl k), some (.inl a), some (.inl b), some (.inl t), none] [] _ _
    iterate 1 (refine ev_st rfl rfl ?_)
    refine ev_getf rfl hM_0 (by rfl) ?_
    rw [q]
    iterate 2 (refine ev_st rfl rfl ?_)
    refine ev_getf rfl hM_0 (by rfl) ?_
    iterate 2 (refine ev_st rfl rfl ?_)
    refine ev_iast N rfl hA0 (by simp only [w32]; omega) (by omega) ?_
    rw [hP0]
    iterate 1 (refine ev_st rfl rfl ?_)
    refine ev_getf rfl hM_0 (by rfl) ?_
    iterate 2 (refine ev_st rfl rfl ?_)
    refine ev_iast N rfl hA1 (by simp only [w32]; omega) (by omega) ?_
    rw [hP1]
    iterate 1 (refine ev_st rfl rfl ?_)
    refine ev_getf rfl hM_0 (by rfl) ?_
    iterate 2 (refine ev_st rfl rfl ?_)
    refine ev_iast N rfl hA2 (by simp only [w32]; omega) (by omega) ?_
    rw [hP2]
    iterate 1 (refine ev_st rfl rfl ?_)
    refine ev_getf rfl hM_0 (by rfl) ?_
    iterate 2 (refine ev_st rfl rfl ?_)
    refine ev_iast N rfl hA3 (by simp only [w32]; omega) (by omega) ?_
    rw [hP3]
    iterate 1 (refine ev_st rfl rfl ?_)
    refine ev_getf rfl hM_0 (by rfl) ?_
    iterate 2 (refine ev_st rfl rfl ?_)
    refine ev_iast N rfl hA4 (by simp only [w32]; omega) (by omega) ?_
    rw [hP4]
    iterate 1 (refine ev_st rfl rfl ?_)
    refine ev_getf rfl hM_0 (by rfl) ?_
    iterate 2 (refine ev_st rfl rfl ?_)
    refine ev_iast N rfl hA6 (by simp only [w32]; omega) (by omega) ?_
    rw [hP6]
    iterate 1 (refine ev_st rfl rfl ?_)
    refine ev_getf rfl hM_0 (by rfl) ?_
    iterate 2 (refine ev_st rfl rfl ?_)
    refine ev_iast N rfl hA8 (by simp only [w32]; omega) (by omega) ?_
    rw [hP8]
    exact ev_rt rfl rfl rfl
  · exact ((((((go (by omega) rfl).tr (go (by omega) rfl)).tr (go (by omega) rfl)).tr (go (by omega) rfl)).tr (go (by omega) rfl)).tr (go (by omega) rfl)).tr (go (by omega) rfl)
  · rw [rU_ne (by omega), rU_ne (by omega), rU_ne (by omega), rU_ne (by omega), rU_ne (by omega), rU_ne (by omega), rU_ne (by omega)]
