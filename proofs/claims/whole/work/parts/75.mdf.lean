-- the reference: isGood, the chain of a new event
set_option maxRecDepth 20000
theorem gd_iff {N : Nat} {E : EL} {τ : SS} {A : List Nat} (a4 : ∀ v, v ∈ A ↔ ∃ p, p < 23 ∧ τ p = (v : Int)) (hτ : sOK N E τ) : b_all 23 (fun p => decide (τ p < 0) || e_gd (E (τ p).toNat)) = true ↔ ∀ j, j < A.length → e_gd (E (A.getD j 0)) = true := by
  rw [b_all_iff]
  constructor
  · intro h j hj
    obtain ⟨p, hp, hv⟩ := (a4 _).1 (getD_mem hj)
    have := h p hp
    rw [hv, decide_eq_false (by omega), Bool.false_or, Int.toNat_natCast] at this
    exact this
  · intro h p hp
    rcases hτ.at p with z | ⟨m, z1, z2, -⟩
    · rw [z]; rfl
    · obtain ⟨j, j1, j2⟩ := List.getElem_of_mem ((a4 m).2 ⟨p, hp, z2⟩)
      have := h j j1
      rw [List.getD_eq_getElem?_getD, List.getElem?_eq_getElem j1, j2] at this
      rw [z2, Int.toNat_natCast]
      rw [show e_gd (E m) = true from this, Bool.or_true]
theorem l_mgood {h : AH} {M N : Nat} {C : RM} {E : EL} {τ : SS} {A : List Nat} (hN : N < 400) (q : rE C N E) (hτ : sOK N E τ) (a1 : C.1 8 N = (A.length : Int)) (a2 : A.length ≤ 6) (a3 : ∀ i, i < A.length → C.1 7 (6 * N + i) = (A.getD i 0 : Nat)) (a4 : ∀ v, v ∈ A ↔ ∃ p, p < 23 ∧ τ p = (v : Int)) : ∀ (k i : Nat), i + k = A.length → (∀ j, j < i → e_gd (E (A.getD j 0)) = true) → ((∀ j, j < A.length → e_gd (E (A.getD j 0)) = true) → ∀ {o : Option AV × AH}, Ev tMd_isGood 59 [some (vR M), some (.inl (N : Int)), some (.inl (A.length : Int))] [] (hM h M C) o → Ev tMd_isGood 22 [some (vR M), some (.inl (N : Int)), some (.inl (i : Int))] [] (hM h M C) o) ∧ ((¬ ∀ j, j < A.length → e_gd (E (A.getD j 0)) = true) → Ev tMd_isGood 22 [some (vR M), some (.inl (N : Int)), some (.inl (i : Int))] [] (hM h M C) (some (vB false), hM h M C)) := by
  intro k
  induction k with
  | zero =>
    intro i hi hj
    obtain rfl : i = A.length := by omega
    refine ⟨fun _ {o} hgo => ?_, fun z => absurd hj z⟩
    iterate 2 (refine ev_st rfl rfl ?_)
    refine ev_getf rfl hM_0 (by rfl) ?_
    iterate 1 (refine ev_st rfl rfl ?_)
    refine ev_iald N rfl hA8 (by simp only [w32]; omega) (by omega) ?_
    rw [a1]
    refine ev_icT rfl (by simp only [ick, w32]; omega) ?_
    exact hgo
  | succ k ih =>
    intro i hi hj
    obtain ⟨p, hp, hv⟩ := (a4 _).1 (getD_mem (show i < A.length by omega))
    have hvN : A.getD i 0 < N := by
      rcases hτ.at p with z | ⟨m, z1, z2, z3⟩ <;> omega
    have e11 := (q.2 _ hvN).2.2.2.2.2.1
    have pre : ∀ {o : Option AV × AH}, Ev tMd_isGood 48 [some (vR M), some (.inl (N : Int)), some (.inl (i : Int))] [vB (e_gd (E (A.getD i 0)))] (hM h M C) o → Ev tMd_isGood 22 [some (vR M), some (.inl (N : Int)), some (.inl (i : Int))] [] (hM h M C) o := by
      intro o hgo
      iterate 2 (refine ev_st rfl rfl ?_)
      refine ev_getf rfl hM_0 (by rfl) ?_
      iterate 1 (refine ev_st rfl rfl ?_)
      refine ev_iald N rfl hA8 (by simp only [w32]; omega) (by omega) ?_
      rw [a1]
      refine ev_icF rfl (by simp only [ick, w32]; omega) ?_
      iterate 1 (refine ev_st rfl rfl ?_)
      refine ev_getf rfl hM_0 (by rfl) ?_
      iterate 1 (refine ev_st rfl rfl ?_)
      refine ev_getf rfl hM_0 (by rfl) ?_
      iterate 5 (refine ev_st rfl rfl ?_)
      refine ev_iald (6 * N + i) rfl hA7 (by simp only [w32]; omega) (by omega) ?_
      rw [a3 i (by omega)]
      refine ev_iald (A.getD i 0) rfl hA11 (by simp only [w32]; omega) (by omega) ?_
      rw [e11]
      exact hgo
    cases hg : e_gd (E (A.getD i 0)) with
    | true =>
      rw [hg] at pre
      obtain ⟨x, y⟩ := ih (i + 1) (by omega) (fun j hj' => by
        by_cases w : j = i
        · rw [w]; exact hg
        · exact hj j (by omega))
      refine ⟨fun z {o} hgo => pre ?_, fun z => pre ?_⟩
      · refine ev_zneT rfl rfl ?_
        iterate 2 (refine ev_st rfl rfl ?_)
        exact x z hgo
      · refine ev_zneT rfl rfl ?_
        iterate 2 (refine ev_st rfl rfl ?_)
        exact y z
    | false =>
      rw [hg] at pre
      refine ⟨fun z => (by rw [z i (by omega)] at hg; cases hg), fun z => pre ?_⟩
      refine ev_zneF rfl rfl ?_
      iterate 1 (refine ev_st rfl rfl ?_)
      exact ev_rt rfl rfl rfl
def nr (C : RM) (N : Nat) (x : ED) : Prop := rF C N x ∧ rPa C N (e_pa x) ∧ rAu C N (e_ow x) ∧ rL C N x
theorem nr.cg {C C' : RM} {N : Nat} {x : ED} (q : nr C N x) (h : ∀ i, i < 10 → C'.1 i = C.1 i) : nr C' N x := by
  obtain ⟨⟨a0, a1, a2, a3, a4⟩, b, c, d⟩ := q
  refine ⟨⟨by rw [h 0 (by omega)]; exact a0, by rw [h 1 (by omega)]; exact a1, by rw [h 2 (by omega)]; exact a2, by rw [h 3 (by omega)]; exact a3, by rw [h 4 (by omega)]; exact a4⟩, ⟨by rw [h 6 (by omega)]; exact b.1, fun i hi => by rw [h 5 (by omega)]; exact b.2 i hi⟩, c.cg (by rw [h 8 (by omega)]) (fun i _ => by rw [h 7 (by omega)]), fun z u hu => by rw [h 9 (by omega)]; exact d z u hu⟩
theorem c_mgood {h : AH} {M N : Nat} {C : RM} {E : EL} {x : ED} (hE : EOK N E) (hN : N < 400) (q : rE C N E) (hx : nr C N x) (xK : evK N E x) (h12 : ∀ p, p < 23 → C.1 12 (23 * N + p) = e_bf x p) : ∃ C', Em mMd_isGood 1 [vR M, .inl (N : Int)] (hM h M C) (some (vB (m_good E x (e_ow x) (e_bf x)))) (hM h M C') ∧ kx [27] C C' := by
  obtain ⟨hN4, hW, hP, hX, hO, hB⟩ := id hE
  obtain ⟨wf, w2, w3, w4, w5, w6⟩ := xK
  obtain ⟨r1, r2, r3, r4⟩ := id hx
  obtain ⟨A, a1, a2, a3, a4, a5⟩ := id r3
  obtain ⟨gT, gF⟩ := l_mgood (h := h) (M := M) hN q w4 a1 a2 a4 a5 A.length 0 (by omega) (fun j hj => by omega)
  have gi := gd_iff a5 w4
  have wk := wf.2.1
  have go1 : ¬ (e_kd x ≠ 0 ∧ (e_pa x).length = 0) → ∀ {o : Option AV × AH}, Ev tMd_isGood 22 [some (vR M), some (.inl (N : Int)), some (.inl ((0 : Nat) : Int))] [] (hM h M C) o → Ev tMd_isGood 0 [some (vR M), some (.inl (N : Int)), none] [] (hM h M C) o := by
    intro hne o hgo
    iterate 1 (refine ev_st rfl rfl ?_)
    refine ev_getf rfl hM_0 (by rfl) ?_
    iterate 1 (refine ev_st rfl rfl ?_)
    refine ev_iald N rfl hA1 (by simp only [w32]; omega) (by omega) ?_
    rw [r1.2.1]
    by_cases k0 : e_kd x = 0
    · refine ev_ifT rfl (by simp only [ick, w32]; omega) ?_
      iterate 2 (refine ev_st rfl rfl ?_)
      exact hgo
    · refine ev_ifF rfl (by simp only [ick, w32]; omega) ?_
      iterate 1 (refine ev_st rfl rfl ?_)
      refine ev_getf rfl hM_0 (by rfl) ?_
      iterate 1 (refine ev_st rfl rfl ?_)
      refine ev_iald N rfl hA6 (by simp only [w32]; omega) (by omega) ?_
      rw [r2.1]
      refine ev_ifT rfl (by simp only [ick, w32]; omega) ?_
      iterate 2 (refine ev_st rfl rfl ?_)
      exact hgo
  by_cases c1 : e_kd x ≠ 0 ∧ (e_pa x).length = 0
  · refine ⟨C, ?_, kx.rf⟩
    show Ev tMd_isGood 0 [some (vR M), some (.inl (N : Int)), none] [] _ _
    have : m_good E x (e_ow x) (e_bf x) = false := by
      unfold m_good
      rw [decide_eq_false c1.1, decide_eq_false (by omega)]
      rfl
    rw [this]
    iterate 1 (refine ev_st rfl rfl ?_)
    refine ev_getf rfl hM_0 (by rfl) ?_
    iterate 1 (refine ev_st rfl rfl ?_)
    refine ev_iald N rfl hA1 (by simp only [w32]; omega) (by omega) ?_
    rw [r1.2.1]
    refine ev_ifF rfl (by have := c1.1; simp only [ick, w32]; omega) ?_
    iterate 1 (refine ev_st rfl rfl ?_)
    refine ev_getf rfl hM_0 (by rfl) ?_
    iterate 1 (refine ev_st rfl rfl ?_)
    refine ev_iald N rfl hA6 (by simp only [w32]; omega) (by omega) ?_
    rw [r2.1]
    refine ev_ifF rfl (by simp only [ick, w32]; omega) ?_
    iterate 1 (refine ev_st rfl rfl ?_)
    exact ev_rt rfl rfl rfl
  · have e1 : (decide (e_kd x = 0) || decide (0 < (e_pa x).length)) = true := by
      rw [Bool.or_eq_true, decide_eq_true_eq, decide_eq_true_eq]
      omega
    by_cases c2 : ∀ j, j < A.length → e_gd (E (A.getD j 0)) = true
    · obtain ⟨f1, g1, co⟩ := c_mown (h := h) (M := M) hN4 q hW w4 hN r3
      have k1 : kx [27] C (rU C 27 f1) := kx.u (by decide)
      have q1 := q.kx hP k1 (by decide)
      have cA := c_mallow (h := h) (M := M) (sa := M + 28) (fr := 0) hN4 q1 ⟨23, f1, hA27, by omega, fun p hp => by rw [Nat.zero_add]; exact g1 p hp⟩ hW w4 hN r1 wf r4 r2.1 w2.1
      have cB := c_mallow (h := h) (M := M) (C := rU C 27 f1) (sa := M + 13) (fr := 23 * N) hN4 q1 ⟨9200, C.1 12, hA12, by omega, h12⟩ hW w5 hN r1 wf r4 r2.1 w2.1
      have e2 : m_good E x (e_ow x) (e_bf x) = (m_allow E x (e_ow x) && m_allow E x (e_bf x)) := by
        unfold m_good
        rw [e1, gi.2 c2]
        rfl
      rw [e2]
      refine ⟨rU C 27 f1, ?_, k1⟩
      show Ev tMd_isGood 0 [some (vR M), some (.inl (N : Int)), none] [] _ _
      refine go1 c1 (gT c2 ?_)
      iterate 2 (refine ev_st rfl rfl ?_)
      refine ev_callV rfl rfl hM_0 rfl co ?_
      iterate 3 (refine ev_st rfl rfl ?_)
      refine ev_getf rfl hM_0 (by rfl) ?_
      iterate 1 (refine ev_st rfl rfl ?_)
      refine ev_callV rfl rfl hM_0 rfl cA ?_
      cases hA_ : m_allow E x (e_ow x) with
      | false =>
        refine ev_zeqT rfl rfl ?_
        iterate 1 (refine ev_st rfl rfl ?_)
        exact ev_rt rfl rfl rfl
      | true =>
        refine ev_zeqF rfl rfl ?_
        iterate 3 (refine ev_st rfl rfl ?_)
        refine ev_getf rfl hM_0 (by rfl) ?_
        iterate 3 (refine ev_st rfl rfl ?_)
        rw [show (23 : Int) * (N : Int) = ((23 * N : Nat) : Int) by omega]
        refine ev_callV rfl rfl hM_0 rfl cB ?_
        cases hB_ : m_allow E x (e_bf x) with
        | false =>
          refine ev_zeqT rfl rfl ?_
          iterate 1 (refine ev_st rfl rfl ?_)
          exact ev_rt rfl rfl rfl
        | true =>
          refine ev_zeqF rfl rfl ?_
          iterate 2 (refine ev_st rfl rfl ?_)
          exact ev_rt rfl rfl rfl
    · have e2 : m_good E x (e_ow x) (e_bf x) = false := by
        unfold m_good
        have : b_all 23 (fun p => decide (e_ow x p < 0) || e_gd (E (e_ow x p).toNat)) = false := by
          cases hb : b_all 23 (fun p => decide (e_ow x p < 0) || e_gd (E (e_ow x p).toNat))
          · rfl
          · exact absurd (gi.1 hb) c2
        rw [this, Bool.false_and, Bool.and_false]
      rw [e2]
      refine ⟨C, ?_, kx.rf⟩
      show Ev tMd_isGood 0 [some (vR M), some (.inl (N : Int)), none] [] _ _
      exact go1 c1 (gF c2)
-- the chain
theorem l_ez {h : AH} {M N : Nat} {C : RM} {j3 j4 : Option AV} (hN : N < 400) : ∀ (k y : Nat) (g : Nat → Int), y + k = 400 → (∀ z, z < y → g (400 * N + z) = 0) → (∀ j, j < 400 * N → g j = C.1 10 j) → ∃ g' : Nat → Int, ((∀ z, z < 400 → g' (400 * N + z) = 0) ∧ ∀ j, j < 400 * N → g' j = C.1 10 j) ∧ ∀ {o : Option AV × AH}, Ev tMd_enter 33 [some (vR M), some (.inl (N : Int)), some (.inl 400), j3, j4] [] (hM h M (rU C 10 g')) o → Ev tMd_enter 7 [some (vR M), some (.inl (N : Int)), some (.inl (y : Int)), j3, j4] [] (hM h M (rU C 10 g)) o := by
  intro k
  induction k with
  | zero =>
    intro y g hy h1 h2
    obtain rfl : y = 400 := by omega
    refine ⟨g, ⟨h1, h2⟩, fun {o} hgo => ?_⟩
    iterate 2 (refine ev_st rfl rfl ?_)
    refine ev_icT rfl (by simp only [ick, w32]; omega) ?_
    exact hgo
  | succ k ih =>
    intro y g hy h1 h2
    obtain ⟨g', hg, go⟩ := ih (y + 1) (va_up g (400 * N + y) 0) (by omega) (fun z hz => by
      simp only [va_up]
      by_cases w : z = y
      · rw [if_pos (by omega)]
      · rw [if_neg (by omega), h1 z (by omega)]) (fun j hj => by
      simp only [va_up]
      rw [if_neg (by omega), h2 j hj])
    refine ⟨g', hg, fun {o} hgo => ?_⟩
    iterate 2 (refine ev_st rfl rfl ?_)
    refine ev_icF rfl (by simp only [ick, w32]; omega) ?_
    iterate 1 (refine ev_st rfl rfl ?_)
    refine ev_getf rfl hM_0 (by rfl) ?_
    iterate 6 (refine ev_st rfl rfl ?_)
    refine ev_bast (400 * N + y) rfl hA10 (by simp only [w32]; omega) (by omega) (Or.inl rfl) ?_
    rw [hP10, rU_rU]
    iterate 2 (refine ev_st rfl rfl ?_)
    exact go hgo
theorem l_ey {h : AH} {M N v : Nat} {C : RM} {E : EL} {s : Nat → Bool} {j2 : Option AV} (hN : N < 400) (q : rE C N E) (hv : v < N) : ∀ (k y : Nat) (g : Nat → Int), y + k = N → (∀ z, z < 400 → g (400 * N + z) = b2 (bif Nat.blt z y then s z || e_ch (E v) z else s z)) → (∀ j, j < 400 * N → g j = C.1 10 j) → ∃ g' : Nat → Int, ((∀ z, z < 400 → g' (400 * N + z) = b2 (bif Nat.blt z N then s z || e_ch (E v) z else s z)) ∧ ∀ j, j < 400 * N → g' j = C.1 10 j) ∧ ∀ {o : Option AV × AH}, Ev tMd_enter 135 [some (vR M), some (.inl (N : Int)), j2, some (.inl (v : Int)), some (.inl (N : Int))] [] (hM h M (rU C 10 g')) o → Ev tMd_enter 73 [some (vR M), some (.inl (N : Int)), j2, some (.inl (v : Int)), some (.inl (y : Int))] [] (hM h M (rU C 10 g)) o := by
  intro k
  induction k with
  | zero =>
    intro y g hy h1 h2
    obtain rfl : y = N := by omega
    refine ⟨g, ⟨h1, h2⟩, fun {o} hgo => ?_⟩
    iterate 2 (refine ev_st rfl rfl ?_)
    refine ev_icT rfl (by simp only [ick, w32]; omega) ?_
    exact hgo
  | succ k ih =>
    intro y g hy h1 h2
    have s1 := h1 y (by omega)
    rw [blt_f (by omega), cond_false] at s1
    have s2 : g (400 * v + y) = b2 (e_ch (E v) y) := (h2 _ (by omega)).trans ((q.2 v hv).2.2.2.2.1 y (by omega))
    obtain ⟨g', hg, go⟩ := ih (y + 1) (va_up g (400 * N + y) (b2 (s y || e_ch (E v) y))) (by omega) (fun z hz => by
      simp only [va_up]
      by_cases w : z = y
      · rw [if_pos (by omega), w, blt_t (by omega), cond_true]
      · rw [if_neg (by omega), h1 z hz]
        by_cases q2 : z < y
        · rw [blt_t q2, blt_t (show z < y + 1 by omega)]
        · rw [blt_f q2, blt_f (show ¬ z < y + 1 by omega)]) (fun j hj => by
      simp only [va_up]
      rw [if_neg (by omega), h2 j hj])
    refine ⟨g', hg, fun {o} hgo => ?_⟩
    have nx := go hgo
    have fin : ∀ {o : Option AV × AH}, Ev tMd_enter 128 [some (vR M), some (.inl (N : Int)), j2, some (.inl (v : Int)), some (.inl (y : Int))] [vB (s y || e_ch (E v) y), .inl (400 * (N : Int) + (y : Int)), vR (M + 11)] (hM h M (rU C 10 g)) o → Ev tMd_enter 73 [some (vR M), some (.inl (N : Int)), j2, some (.inl (v : Int)), some (.inl (y : Int))] [] (hM h M (rU C 10 g)) o := by
      intro o hgo
      iterate 2 (refine ev_st rfl rfl ?_)
      refine ev_icF rfl (by simp only [ick, w32]; omega) ?_
      iterate 1 (refine ev_st rfl rfl ?_)
      refine ev_getf rfl hM_0 (by rfl) ?_
      iterate 6 (refine ev_st rfl rfl ?_)
      refine ev_getf rfl hM_0 (by rfl) ?_
      iterate 5 (refine ev_st rfl rfl ?_)
      refine ev_iald (400 * N + y) rfl hA10 (by simp only [w32]; omega) (by omega) ?_
      rw [show (rU C 10 g).1 10 (400 * N + y) = b2 (s y) from s1]
      cases hs : s y with
      | true =>
        rw [hs, Bool.true_or] at hgo
        refine ev_zneT rfl rfl ?_
        iterate 2 (refine ev_st rfl rfl ?_)
        exact hgo
      | false =>
        rw [hs, Bool.false_or] at hgo
        refine ev_zneF rfl rfl ?_
        iterate 1 (refine ev_st rfl rfl ?_)
        refine ev_getf rfl hM_0 (by rfl) ?_
        iterate 5 (refine ev_st rfl rfl ?_)
        refine ev_iald (400 * v + y) rfl hA10 (by simp only [w32]; omega) (by omega) ?_
        rw [show (rU C 10 g).1 10 (400 * v + y) = b2 (e_ch (E v) y) from s2]
        cases hc : e_ch (E v) y with
        | true =>
          rw [hc] at hgo
          refine ev_zeqF rfl rfl ?_
          iterate 2 (refine ev_st rfl rfl ?_)
          exact hgo
        | false =>
          rw [hc] at hgo
          refine ev_zeqT rfl rfl ?_
          iterate 1 (refine ev_st rfl rfl ?_)
          exact hgo
    refine fin ?_
    refine ev_bast (400 * N + y) rfl hA10 (by simp only [w32]; omega) (by omega) (b2_01 _) ?_
    rw [hP10, rU_rU]
    iterate 2 (refine ev_st rfl rfl ?_)
    exact nx
theorem l_ek {h : AH} {M N : Nat} {C : RM} {E : EL} {τ : SS} {A : List Nat} (hN : N < 400) (hC : CX N E) (q : rE C N E) (hτ : sOK N E τ) (a1 : C.1 8 N = (A.length : Int)) (a2 : A.length ≤ 6) (a3 : ∀ i, i < A.length → C.1 7 (6 * N + i) = (A.getD i 0 : Nat)) (a4 : ∀ v, v ∈ A ↔ ∃ p, p < 23 ∧ τ p = (v : Int)) : ∀ (k i : Nat) (g : Nat → Int) (s : Nat → Bool) (j3 j4 : Option AV), i + k = A.length → (∀ z, z < 400 → g (400 * N + z) = b2 (s z)) → (∀ j, j < 400 * N → g j = C.1 10 j) → ∃ (g' : Nat → Int) (s' : Nat → Bool) (j3' j4' : Option AV), ((∀ z, z < 400 → g' (400 * N + z) = b2 (s' z)) ∧ (∀ j, j < 400 * N → g' j = C.1 10 j) ∧ ∀ z, z < 400 → (s' z = true ↔ s z = true ∨ ∃ j, i ≤ j ∧ j < A.length ∧ (A.getD j 0 = z ∨ e_ch (E (A.getD j 0)) z = true))) ∧ ∀ {o : Option AV × AH}, Ev tMd_enter 141 [some (vR M), some (.inl (N : Int)), some (.inl (A.length : Int)), j3', j4'] [] (hM h M (rU C 10 g')) o → Ev tMd_enter 35 [some (vR M), some (.inl (N : Int)), some (.inl (i : Int)), j3, j4] [] (hM h M (rU C 10 g)) o := by
  intro k
  induction k with
  | zero =>
    intro i g s j3 j4 hi h1 h2
    obtain rfl : i = A.length := by omega
    refine ⟨g, s, j3, j4, ⟨h1, h2, fun z hz => ⟨Or.inl, ?_⟩⟩, fun {o} hgo => ?_⟩
    · rintro (w | ⟨j, w1, w2, -⟩)
      · exact w
      · omega
    · iterate 2 (refine ev_st rfl rfl ?_)
      refine ev_getf rfl hM_0 (by rfl) ?_
      iterate 1 (refine ev_st rfl rfl ?_)
      refine ev_iald N rfl hA8 (by simp only [w32]; omega) (by omega) ?_
      rw [show (rU C 10 g).1 8 N = (A.length : Int) from a1]
      refine ev_icT rfl (by simp only [ick, w32]; omega) ?_
      exact hgo
  | succ k ih =>
    intro i g s j3 j4 hi h1 h2
    obtain ⟨p, hp, hv⟩ := (a4 _).1 (getD_mem (show i < A.length by omega))
    have hvN : A.getD i 0 < N := by
      rcases hτ.at p with z | ⟨m, z1, z2, z3⟩ <;> omega
    have hvv : ∃ v, A.getD i 0 = v := ⟨_, rfl⟩
    obtain ⟨v, hvv⟩ := hvv
    rw [hvv] at hvN
    obtain ⟨g1, ⟨b1, b2_⟩, go1⟩ := l_ey (h := h) (M := M) (v := v) (s := f_on s v) (j2 := some (.inl (i : Int))) hN q hvN N 0 (va_up g (400 * N + v) 1) (by omega) (fun z hz => by
      show va_up g (400 * N + v) 1 (400 * N + z) = b2 (f_on s v z)
      simp only [va_up]
      unfold f_on
      by_cases w : z = v
      · rw [if_pos (by omega), w, show Nat.beq v v = true from Nat.beq_refl v]; rfl
      · rw [if_neg (by omega), h1 z hz, beq_ne w]; rfl) (fun j hj => by
      simp only [va_up]
      rw [if_neg (by omega), h2 j hj])
    obtain ⟨g', s', j3', j4', ⟨d1, d2, d3⟩, go2⟩ := ih (i + 1) g1 (fun z => bif Nat.blt z N then f_on s v z || e_ch (E v) z else f_on s v z) (some (.inl (v : Int))) (some (.inl (N : Int))) (by omega) b1 b2_
    refine ⟨g', s', j3', j4', ⟨d1, d2, fun z hz => ?_⟩, fun {o} hgo => ?_⟩
    · rw [d3 z hz]
      have hch : e_ch (E v) z = true → z < N := fun w => by have := (hC v hvN z w).1; omega
      have key : (bif Nat.blt z N then f_on s v z || e_ch (E v) z else f_on s v z) = true ↔ s z = true ∨ v = z ∨ e_ch (E v) z = true := by
        by_cases w : z < N
        · rw [blt_t w, cond_true, Bool.or_eq_true, f_on_i]
          constructor
          · rintro ((a | a) | a)
            · exact Or.inr (Or.inl a.symm)
            · exact Or.inl a
            · exact Or.inr (Or.inr a)
          · rintro (a | a | a)
            · exact Or.inl (Or.inr a)
            · exact Or.inl (Or.inl a.symm)
            · exact Or.inr a
        · rw [blt_f w, cond_false, f_on_i]
          constructor
          · rintro (a | a)
            · exact Or.inr (Or.inl a.symm)
            · exact Or.inl a
          · rintro (a | a | a)
            · exact Or.inr a
            · exact Or.inl a.symm
            · exact absurd (hch a) w
      rw [key]
      constructor
      · rintro ((a | a) | ⟨j, w1, w2, w3⟩)
        · exact Or.inl a
        · exact Or.inr ⟨i, by omega, by omega, by rw [hvv]; exact a⟩
        · exact Or.inr ⟨j, by omega, w2, w3⟩
      · rintro (a | ⟨j, w1, w2, w3⟩)
        · exact Or.inl (Or.inl a)
        · by_cases e : j = i
          · subst e
            rw [hvv] at w3
            exact Or.inl (Or.inr w3)
          · exact Or.inr ⟨j, by omega, w2, w3⟩
    · iterate 2 (refine ev_st rfl rfl ?_)
      refine ev_getf rfl hM_0 (by rfl) ?_
      iterate 1 (refine ev_st rfl rfl ?_)
      refine ev_iald N rfl hA8 (by simp only [w32]; omega) (by omega) ?_
      rw [show (rU C 10 g).1 8 N = (A.length : Int) from a1]
      refine ev_icF rfl (by simp only [ick, w32]; omega) ?_
      iterate 1 (refine ev_st rfl rfl ?_)
      refine ev_getf rfl hM_0 (by rfl) ?_
      iterate 5 (refine ev_st rfl rfl ?_)
      refine ev_iald (6 * N + i) rfl hA7 (by simp only [w32]; omega) (by omega) ?_
      rw [show (rU C 10 g).1 7 (6 * N + i) = (v : Int) from by rw [← hvv]; exact a3 i (by omega)]
      iterate 2 (refine ev_st rfl rfl ?_)
      refine ev_getf rfl hM_0 (by rfl) ?_
      iterate 6 (refine ev_st rfl rfl ?_)
      refine ev_bast (400 * N + v) rfl hA10 (by simp only [w32]; omega) (by omega) (Or.inr rfl) ?_
      rw [hP10, rU_rU]
      iterate 2 (refine ev_st rfl rfl ?_)
      refine go1 ?_
      iterate 2 (refine ev_st rfl rfl ?_)
      exact go2 hgo
