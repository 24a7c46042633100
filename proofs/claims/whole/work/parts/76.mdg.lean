-- the reference: enter
set_option maxRecDepth 20000
theorem l_eo {h : AH} {M N : Nat} {C : RM} {l : List Nat} {j3 j4 : Option AV} (hN : N < 400) (hl : l.length ≤ 4) (h5 : ∀ i, i < l.length → C.1 5 (4 * N + i) = (l.getD i 0 : Nat)) (h20 : C.2.2.1 = (l.length : Int)) : ∀ (k i : Nat) (f : Nat → Int), i + k = l.length → (∀ j, j < i → f j = (l.getD j 0 : Nat)) → ∃ f' : Nat → Int, (∀ j, j < l.length → f' j = (l.getD j 0 : Nat)) ∧ ∀ {o : Option AV × AH}, Ev tMd_enter 183 [some (vR M), some (.inl (N : Int)), some (.inl (l.length : Int)), j3, j4] [] (hM h M (rU C 18 f')) o → Ev tMd_enter 153 [some (vR M), some (.inl (N : Int)), some (.inl (i : Int)), j3, j4] [] (hM h M (rU C 18 f)) o := by
  intro k
  induction k with
  | zero =>
    intro i f hi h1
    obtain rfl : i = l.length := by omega
    refine ⟨f, h1, fun {o} hgo => ?_⟩
    iterate 2 (refine ev_st rfl rfl ?_)
    refine ev_getf rfl hM_0 (by rfl) ?_
    rw [show (rU C 18 f).2.2.1 = (l.length : Int) from h20]
    refine ev_icT rfl (by simp only [ick, w32]; omega) ?_
    exact hgo
  | succ k ih =>
    intro i f hi h1
    obtain ⟨f', hf, go⟩ := ih (i + 1) (va_up f i (l.getD i 0 : Nat)) (by omega) (fun j hj => by
      simp only [va_up]
      by_cases w : j = i
      · rw [if_pos w, w]
      · rw [if_neg w, h1 j (by omega)])
    refine ⟨f', hf, fun {o} hgo => ?_⟩
    iterate 2 (refine ev_st rfl rfl ?_)
    refine ev_getf rfl hM_0 (by rfl) ?_
    rw [show (rU C 18 f).2.2.1 = (l.length : Int) from h20]
    refine ev_icF rfl (by simp only [ick, w32]; omega) ?_
    iterate 1 (refine ev_st rfl rfl ?_)
    refine ev_getf rfl hM_0 (by rfl) ?_
    iterate 2 (refine ev_st rfl rfl ?_)
    refine ev_getf rfl hM_0 (by rfl) ?_
    iterate 5 (refine ev_st rfl rfl ?_)
    refine ev_iald (4 * N + i) rfl hA5 (by simp only [w32]; omega) (by omega) ?_
    rw [show (rU C 18 f).1 5 (4 * N + i) = (l.getD i 0 : Nat) from h5 i (by omega)]
    refine ev_iast i rfl hA18 (by simp only [w32]; omega) (by omega) ?_
    rw [hP18, rU_rU]
    iterate 2 (refine ev_st rfl rfl ?_)
    exact go hgo
theorem l_eb {h : AH} {M N : Nat} {C : RM} {s : SS} {j3 j4 : Option AV} (hN : N < 400) (h19 : ∀ p, p < 23 → C.1 19 p = s p) : ∀ (k p : Nat) (f g : Nat → Int), p + k = 23 → (∀ p', p' < p → f (23 * N + p') = s p' ∧ g (23 * N + p') = s p') → (∀ j, j < 23 * N → f j = C.1 12 j ∧ g j = C.1 13 j) → ∃ f' g' : Nat → Int, ((∀ p', p' < 23 → f' (23 * N + p') = s p' ∧ g' (23 * N + p') = s p') ∧ ∀ j, j < 23 * N → f' j = C.1 12 j ∧ g' j = C.1 13 j) ∧ ∀ {o : Option AV × AH}, Ev tMd_enter 235 [some (vR M), some (.inl (N : Int)), some (.inl 23), j3, j4] [] (hM h M (rU (rU C 12 f') 13 g')) o → Ev tMd_enter 189 [some (vR M), some (.inl (N : Int)), some (.inl (p : Int)), j3, j4] [] (hM h M (rU (rU C 12 f) 13 g)) o := by
  intro k
  induction k with
  | zero =>
    intro p f g hp h1 h2
    obtain rfl : p = 23 := by omega
    refine ⟨f, g, ⟨h1, h2⟩, fun {o} hgo => ?_⟩
    iterate 2 (refine ev_st rfl rfl ?_)
    refine ev_icT rfl (by simp only [ick, w32]; omega) ?_
    exact hgo
  | succ k ih =>
    intro p f g hp h1 h2
    obtain ⟨f', g', hfg, go⟩ := ih (p + 1) (va_up f (23 * N + p) (s p)) (va_up g (23 * N + p) (s p)) (by omega) (fun p' hp' => by
      simp only [va_up]
      by_cases w : p' = p
      · rw [if_pos (by omega), if_pos (by omega), w]; exact ⟨rfl, rfl⟩
      · rw [if_neg (by omega), if_neg (by omega)]; exact h1 p' (by omega)) (fun j hj => by
      simp only [va_up]
      rw [if_neg (by omega), if_neg (by omega)]; exact h2 j hj)
    refine ⟨f', g', hfg, fun {o} hgo => ?_⟩
    iterate 2 (refine ev_st rfl rfl ?_)
    refine ev_icF rfl (by simp only [ick, w32]; omega) ?_
    iterate 1 (refine ev_st rfl rfl ?_)
    refine ev_getf rfl hM_0 (by rfl) ?_
    iterate 6 (refine ev_st rfl rfl ?_)
    refine ev_getf rfl hM_0 (by rfl) ?_
    iterate 1 (refine ev_st rfl rfl ?_)
    refine ev_iald p rfl hA19 (by simp only [w32]; omega) (by omega) ?_
    rw [show (rU (rU C 12 f) 13 g).1 19 p = s p from h19 p (by omega)]
    refine ev_iast (23 * N + p) rfl hA12 (by simp only [w32]; omega) (by omega) ?_
    rw [hP12, rU_cm (show (13 : Nat) ≠ 12 by omega), rU_rU, show (rU (rU C 12 f) 13 g).1 12 = f from rfl]
    iterate 1 (refine ev_st rfl rfl ?_)
    refine ev_getf rfl hM_0 (by rfl) ?_
    iterate 6 (refine ev_st rfl rfl ?_)
    refine ev_getf rfl hM_0 (by rfl) ?_
    iterate 1 (refine ev_st rfl rfl ?_)
    refine ev_iald p rfl hA19 (by simp only [w32]; omega) (by omega) ?_
    rw [show (rU (rU C 12 (va_up f (23 * N + p) (s p))) 13 g).1 19 p = s p from h19 p (by omega)]
    refine ev_iast (23 * N + p) rfl hA13 (by simp only [w32]; omega) (by omega) ?_
    rw [hP13, rU_rU]
    iterate 2 (refine ev_st rfl rfl ?_)
    exact go hgo
theorem ch_iff {N : Nat} {E : EL} {τ : SS} {A : List Nat} (a4 : ∀ v, v ∈ A ↔ ∃ p, p < 23 ∧ τ p = (v : Int)) (z : Nat) : m_ch E τ z = true ↔ ∃ j, 0 ≤ j ∧ j < A.length ∧ (A.getD j 0 = z ∨ e_ch (E (A.getD j 0)) z = true) := by
  unfold m_ch
  rw [b_any_iff]
  constructor
  · rintro ⟨p, hp, h⟩
    rw [Bool.and_eq_true, decide_eq_true_eq, Bool.or_eq_true, decide_eq_true_eq] at h
    obtain ⟨h1, h2⟩ := h
    obtain ⟨v, hv⟩ : ∃ v : Nat, τ p = v := ⟨(τ p).toNat, by omega⟩
    obtain ⟨j, j1, j2⟩ := List.getElem_of_mem ((a4 v).2 ⟨p, hp, hv⟩)
    have e : A.getD j 0 = v := by rw [List.getD_eq_getElem?_getD, List.getElem?_eq_getElem j1, j2]; rfl
    rw [hv, Int.toNat_natCast] at h2
    refine ⟨j, by omega, j1, ?_⟩
    rw [e]
    rcases h2 with w | w
    · exact Or.inl (by omega)
    · exact Or.inr w
  · rintro ⟨j, -, j1, j2⟩
    obtain ⟨p, hp, hv⟩ := (a4 _).1 (getD_mem j1)
    refine ⟨p, hp, ?_⟩
    rw [Bool.and_eq_true, decide_eq_true_eq, Bool.or_eq_true, decide_eq_true_eq, hv, Int.toNat_natCast]
    rcases j2 with w | w
    · exact ⟨by omega, Or.inl (by omega)⟩
    · exact ⟨by omega, Or.inr w⟩
set_option maxHeartbeats 8000000 in
theorem c_menter {h : AH} {M N : Nat} {C : RM} {E : EL} {x : ED} (hE : EOK N E) (hN : N < 400) (q : rE C N E) (hx : nr C N x) (xK : evK N E x) (hch : e_ch x = m_ch E (e_ow x)) (hbf : e_bf x = r_res N E (e_pa x)) : ∃ C', Em mMd_enter 4 [vR M] (hM h M C) none (hM h M C') ∧ rE C' (N + 1) (e_up E N x) ∧ ∀ i, 14 ≤ i → i ≤ 17 → C'.1 i = C.1 i := by
  obtain ⟨hN4, hW, hP, hX, hO, hB⟩ := id hE
  obtain ⟨wf, w2, w3, w4, w5, w6⟩ := id xK
  obtain ⟨r1, r2, r3, r4⟩ := id hx
  obtain ⟨A, a1, a2, a3, a4, a5⟩ := id r3
  -- the chain
  obtain ⟨g1, ⟨b1, b1'⟩, go1⟩ := l_ez (h := h) (M := M) (C := C) (j3 := none) (j4 := none) hN 400 0 (C.1 10) (by omega) (fun z hz => by omega) (fun j hj => rfl)
  rw [rU_self] at go1
  obtain ⟨g2, s2, j3, j4, ⟨b2_, b2', i2⟩, go2⟩ := l_ek (h := h) (M := M) hN hX q w4 a1 a2 a4 a5 A.length 0 g1 (fun _ => false) none none (by omega) b1 b1'
  have hs2 : ∀ z, z < 400 → g2 (400 * N + z) = b2 (e_ch x z) := fun z hz => by
    rw [b2_ z hz, hch]
    congr 1
    apply Bool.eq_iff_iff.2
    rw [i2 z hz, ch_iff (N := N) a5 z]
    constructor
    · rintro (w | w)
      · cases w
      · exact w
    · exact Or.inr
  generalize hC1 : rU C 10 g2 = C1 at *
  have e1 : ∀ i, i ≠ 10 → C1.1 i = C.1 i := fun i hi => by rw [← hC1]; exact rU_ne hi
  have e1' : C1.2 = C.2 := by rw [← hC1]; rfl
  have e10 : C1.1 10 = g2 := by rw [← hC1]; exact rU_eq
  have kp1 : kp N C C1 := by rw [← hC1]; exact kp.u (i := 10) (by omega) b2'
  -- the parents
  have c6 : C1.1 6 N = ((e_pa x).length : Int) := by rw [e1 6 (by omega)]; exact r2.1
  generalize hC2 : rI C1 (C1.2.1, ((e_pa x).length : Int), C1.2.2.2) = C2 at *
  have e2 : C2.1 = C1.1 := by rw [← hC2]; rfl
  have e2' : C2.2.1 = C1.2.1 := by rw [← hC2]; rfl
  have e2'' : C2.2.2.1 = ((e_pa x).length : Int) := by rw [← hC2]; rfl
  obtain ⟨f3, d3, go3⟩ := l_eo (h := h) (M := M) (C := C2) (l := e_pa x) (j3 := j3) (j4 := j4) hN w2.1 (fun i hi => by rw [e2, e1 5 (by omega)]; exact r2.2 i hi) e2'' (e_pa x).length 0 (C2.1 18) (by omega) (fun j hj => by omega)
  rw [rU_self] at go3
  generalize hC3 : rU C2 18 f3 = C3 at *
  have e3 : ∀ i, i ≠ 18 → C3.1 i = C1.1 i := fun i hi => by rw [← hC3, rU_ne hi, e2]
  have e3' : C3.2.1 = C.2.1 := by rw [← hC3]; show C2.2.1 = _; rw [e2', e1']
  have kp3 : kp N C C3 := kp1.tr ⟨fun i hi j _ => by rw [e3 i (by omega)], fun i _ hi => e3 i (by omega), by rw [e3', e1']⟩
  have q3 := q.kp hP kp3
  have ro3 : rO C3 (e_pa x) := by rw [← hC3]; exact ⟨e2'', fun i hi => by rw [rU_eq]; exact d3 i hi⟩
  -- the state before
  obtain ⟨C4, c4, k4, r19⟩ := c_mres (h := h) (M := M) hE q3 ro3 w2.2 (by omega)
  rw [← hbf] at r19
  have e4 : ∀ i, i ≤ 17 → C4.1 i = C3.1 i := fun i hi => k4.1 i (by simp; omega)
  obtain ⟨f5, g5, ⟨d5, d5'⟩, go5⟩ := l_eb (h := h) (M := M) (C := C4) (s := e_bf x) (j3 := j3) (j4 := j4) hN r19 23 0 (C4.1 12) (C4.1 13) (by omega) (fun p hp => by omega) (fun j hj => ⟨rfl, rfl⟩)
  rw [rU_self, rU_self] at go5
  have kp5 : kp N C4 (rU (rU C4 12 f5) 13 g5) := (kp.u (i := 12) (by omega) (fun j hj => (d5' j hj).1)).tr (kp.u (i := 13) (by omega) (fun j hj => (d5' j hj).2))
  generalize hC5 : rU (rU C4 12 f5) 13 g5 = C5 at *
  have e5 : ∀ i, i ≠ 12 → i ≠ 13 → C5.1 i = C4.1 i := fun i h1 h2 => by rw [← hC5, rU_ne h2, rU_ne h1]
  have e5' : C5.2 = C4.2 := by rw [← hC5]; rfl
  have e512 : C5.1 12 = f5 := by rw [← hC5, rU_ne (by omega), rU_eq]
  have e513 : C5.1 13 = g5 := by rw [← hC5, rU_eq]
  have kp05 : kp N C C5 := (kp3.tr ((k4.kq (by decide)).kp)).tr kp5
  have q5 := q.kp hP kp05
  have c05 : ∀ i, i ≤ 17 → i ≠ 10 → i ≠ 12 → i ≠ 13 → C5.1 i = C.1 i := fun i h0 h1 h2 h3 => by rw [e5 i h2 h3, e4 i h0, e3 i (by omega), e1 i h1]
  have nr5 : nr C5 N x := hx.cg (fun i hi => c05 i (by omega) (by omega) (by omega) (by omega))
  -- good
  obtain ⟨C6, c6', k6⟩ := c_mgood (h := h) (M := M) hE hN q5 nr5 xK (fun p hp => by rw [e512]; exact (d5 p hp).1)
  rw [← w6] at c6'
  have e6 : ∀ i, i ≠ 27 → C6.1 i = C5.1 i := fun i hi => k6.1 i (by simp [hi])
  have kp7 : kp N C6 (rU C6 11 (va_up (C6.1 11) N (b2 (e_gd x)))) := kp.u (i := 11) (by omega) (fun j hj => va_up_ne _ _ (by change j < 1 * N at hj; omega))
  generalize hC7 : rU C6 11 (va_up (C6.1 11) N (b2 (e_gd x))) = C7 at *
  have e7 : ∀ i, i ≠ 11 → C7.1 i = C6.1 i := fun i hi => by rw [← hC7]; exact rU_ne hi
  have e711 : C7.1 11 N = b2 (e_gd x) := by rw [← hC7, rU_eq]; exact va_up_self _ _ _
  have e72 : C7.2 = C6.2 := by rw [← hC7]; rfl
  have kp07 : kp N C C7 := (kp05.tr ((k6.kq (by decide)).kp)).tr kp7
  have ev72 : C7.2.1 = (N : Int) := by rw [kp07.2.2]; exact q.1
  have wk := wf.2.1
  have pl := pl_rng wf
  -- behind it
  have last : ∃ C8, (C8.2 = C7.2 ∧ (∀ i, i ≠ 13 → C8.1 i = C7.1 i) ∧ (∀ j, j < 23 * N → C8.1 13 j = C7.1 13 j) ∧ ∀ p : Nat, p < 23 → C8.1 13 (23 * N + p) = if e_gd x = true ∧ (p : Int) = e_pl x then (N : Int) else e_bf x p) ∧ ∀ {o : Option AV × AH}, Ev tMd_enter 281 [some (vR M), some (.inl (N : Int)), some (.inl 23), j3, j4] [] (hM h M C8) o → Ev tMd_enter 246 [some (vR M), some (.inl (N : Int)), some (.inl 23), j3, j4] [] (hM h M C7) o := by
    have v13 : ∀ p, p < 23 → C7.1 13 (23 * N + p) = e_bf x p := fun p hp => by rw [e7 13 (by omega), e6 13 (by omega), e513]; exact (d5 p hp).2
    have f7 : C7.1 1 N = e_kd x := by rw [e7 1 (by omega), e6 1 (by omega)]; exact nr5.1.2.1
    cases hg : e_gd x with
    | false =>
      rw [hg] at e711
      refine ⟨C7, ⟨rfl, fun _ _ => rfl, fun _ _ => rfl, fun p hp => by rw [if_neg (fun z => by cases z.1)]; exact v13 p hp⟩, fun {o} hgo => ?_⟩
      iterate 1 (refine ev_st rfl rfl ?_)
      refine ev_getf rfl hM_0 (by rfl) ?_
      iterate 1 (refine ev_st rfl rfl ?_)
      refine ev_iald N rfl hA11 (by simp only [w32]; omega) (by omega) ?_
      rw [e711]
      refine ev_zeqT rfl rfl ?_
      exact hgo
    | true =>
      rw [hg] at e711
      by_cases k5 : e_kd x = 5
      · have pl5 : e_pl x = -1 := by unfold e_pl m_pl; rw [k5]; rfl
        refine ⟨C7, ⟨rfl, fun _ _ => rfl, fun _ _ => rfl, fun p hp => by rw [if_neg (fun z => by have := z.2; omega)]; exact v13 p hp⟩, fun {o} hgo => ?_⟩
        iterate 1 (refine ev_st rfl rfl ?_)
        refine ev_getf rfl hM_0 (by rfl) ?_
        iterate 1 (refine ev_st rfl rfl ?_)
        refine ev_iald N rfl hA11 (by simp only [w32]; omega) (by omega) ?_
        rw [e711]
        refine ev_zeqF rfl rfl ?_
        iterate 1 (refine ev_st rfl rfl ?_)
        refine ev_getf rfl hM_0 (by rfl) ?_
        iterate 1 (refine ev_st rfl rfl ?_)
        refine ev_iald N rfl hA1 (by simp only [w32]; omega) (by omega) ?_
        rw [f7]
        iterate 1 (refine ev_st rfl rfl ?_)
        refine ev_icT rfl (by simp only [ick, w32]; omega) ?_
        exact hgo
      · have pl0 : 0 ≤ e_pl x := by
          rcases (show e_pl x = -1 ∨ 0 ≤ e_pl x by omega) with z | z
          · exfalso
            obtain ⟨-, w1, w2, w3, -⟩ := wf
            unfold e_pl m_pl at z
            repeat (first | omega | split at z)
          · exact z
        have fx : rF C7 N x := by
          obtain ⟨x0, x1, x2, x3, x4⟩ := nr5.1
          exact ⟨by rw [e7 0 (by omega), e6 0 (by omega)]; exact x0, f7, by rw [e7 2 (by omega), e6 2 (by omega)]; exact x2, by rw [e7 3 (by omega), e6 3 (by omega)]; exact x3, by rw [e7 4 (by omega), e6 4 (by omega)]; exact x4⟩
        refine ⟨rU C7 13 (va_up (C7.1 13) (23 * N + (e_pl x).toNat) (N : Int)), ⟨rfl, fun i hi => rU_ne hi, fun j hj => ?_, fun p hp => ?_⟩, fun {o} hgo => ?_⟩
        · show va_up (C7.1 13) _ _ j = _
          rw [va_up_ne _ _ (by omega)]
        · show va_up (C7.1 13) _ _ (23 * N + p) = _
          simp only [va_up]
          by_cases w : (p : Int) = e_pl x
          · rw [if_pos (by omega), if_pos ⟨by simp, w⟩]
          · rw [if_neg (by omega), if_neg (fun z => w z.2)]; exact v13 p hp
        · iterate 1 (refine ev_st rfl rfl ?_)
          refine ev_getf rfl hM_0 (by rfl) ?_
          iterate 1 (refine ev_st rfl rfl ?_)
          refine ev_iald N rfl hA11 (by simp only [w32]; omega) (by omega) ?_
          rw [e711]
          refine ev_zeqF rfl rfl ?_
          iterate 1 (refine ev_st rfl rfl ?_)
          refine ev_getf rfl hM_0 (by rfl) ?_
          iterate 1 (refine ev_st rfl rfl ?_)
          refine ev_iald N rfl hA1 (by simp only [w32]; omega) (by omega) ?_
          rw [f7]
          iterate 1 (refine ev_st rfl rfl ?_)
          refine ev_icF rfl (by simp only [ick, w32]; omega) ?_
          iterate 1 (refine ev_st rfl rfl ?_)
          refine ev_getf rfl hM_0 (by rfl) ?_
          iterate 5 (refine ev_st rfl rfl ?_)
          refine ev_callV rfl rfl hM_0 rfl (c_mplace hN fx wf) ?_
          iterate 2 (refine ev_st rfl rfl ?_)
          refine ev_iast (23 * N + (e_pl x).toNat) rfl hA13 (by simp only [w32]; omega) (by omega) ?_
          rw [hP13]
          exact hgo
  obtain ⟨C8, ⟨e8', e8, e813, b8⟩, go8⟩ := last
  refine ⟨rI C8 ((N : Int) + 1, C8.2.2), ?_, ?_, fun i h1 h2 => ?_⟩
  · show Ev tMd_enter 0 [some (vR M), none, none, none, none] [] _ _
    iterate 1 (refine ev_st rfl rfl ?_)
    refine ev_getf rfl hM_0 (by rfl) ?_
    rw [q.1]
    iterate 3 (refine ev_st rfl rfl ?_)
    refine go1 ?_
    iterate 2 (refine ev_st rfl rfl ?_)
    refine go2 ?_
    iterate 2 (refine ev_st rfl rfl ?_)
    refine ev_getf rfl hM_0 (by rfl) ?_
    iterate 1 (refine ev_st rfl rfl ?_)
    refine ev_iald N rfl hA6 (by simp only [w32]; omega) (by omega) ?_
    rw [c6]
    refine evM20 rfl rfl ?_
    rw [hC2]
    iterate 2 (refine ev_st rfl rfl ?_)
    refine go3 ?_
    iterate 1 (refine ev_st rfl rfl ?_)
    refine ev_callV rfl rfl hM_0 rfl c4 ?_
    iterate 2 (refine ev_st rfl rfl ?_)
    refine go5 ?_
    iterate 1 (refine ev_st rfl rfl ?_)
    refine ev_getf rfl hM_0 (by rfl) ?_
    iterate 3 (refine ev_st rfl rfl ?_)
    refine ev_callV rfl rfl hM_0 rfl c6' ?_
    refine ev_bast N rfl hA11 (by simp only [w32]; omega) (by omega) (b2_01 _) ?_
    rw [hP11, hC7]
    refine go8 ?_
    iterate 2 (refine ev_st rfl rfl ?_)
    refine ev_getf rfl hM_0 (by rfl) ?_
    iterate 2 (refine ev_st rfl rfl ?_)
    refine evM14 rfl rfl ?_
    rw [show C8.2.1 = (N : Int) by rw [e8']; exact ev72]
    exact ev_rt rfl rfl rfl
  · have q7 := q.kp hP kp07
    refine ⟨rfl, fun n hn => ?_⟩
    by_cases hnN : n = N
    · subst hnN
      rw [e_up_N]
      have t : ∀ i, i < 10 → C8.1 i = C5.1 i := fun i hi => by rw [e8 i (by omega), e7 i (by omega), e6 i (by omega)]
      obtain ⟨n1, n2, n3, n4⟩ := nr5.cg (C' := C8) t
      refine ⟨n1, n2, n3, n4, fun y hy => ?_, ?_, fun p hp => ?_, fun p hp => ?_⟩
      · show C8.1 10 _ = _
        rw [e8 10 (by omega), e7 10 (by omega), e6 10 (by omega), e5 10 (by omega) (by omega), e4 10 (by omega), e3 10 (by omega), e10]
        exact hs2 y hy
      · show C8.1 11 _ = _
        rw [e8 11 (by omega)]; exact e711
      · show C8.1 12 _ = _
        rw [e8 12 (by omega), e7 12 (by omega), e6 12 (by omega), e512]
        exact (d5 p hp).1
      · show C8.1 13 _ = _
        rw [b8 p hp]
        unfold e_bh
        rw [e_up_N]
    · obtain ⟨⟨x0, x1, x2, x3, x4⟩, y1, y2, y3, y4, y5, y6, y7⟩ := q7.2 n (by omega)
      rw [e_up_ag n (by omega)]
      refine ⟨⟨?_, ?_, ?_, ?_, ?_⟩, ⟨?_, fun i hi => ?_⟩, y2.cg ?_ (fun i _ => ?_), fun z u hu => ?_, fun y hy => ?_, ?_, fun p hp => ?_, fun p hp => ?_⟩
      · show C8.1 0 n = _; rw [e8 0 (by omega)]; exact x0
      · show C8.1 1 n = _; rw [e8 1 (by omega)]; exact x1
      · show C8.1 2 n = _; rw [e8 2 (by omega)]; exact x2
      · show C8.1 3 n = _; rw [e8 3 (by omega)]; exact x3
      · show C8.1 4 n = _; rw [e8 4 (by omega)]; exact x4
      · show C8.1 6 n = _; rw [e8 6 (by omega)]; exact y1.1
      · show C8.1 5 _ = _; rw [e8 5 (by omega)]; exact y1.2 i hi
      · show C8.1 8 n = _; rw [e8 8 (by omega)]
      · show C8.1 7 _ = _; rw [e8 7 (by omega)]
      · show C8.1 9 _ = _; rw [e8 9 (by omega)]; exact y3 z u hu
      · show C8.1 10 _ = _; rw [e8 10 (by omega)]; exact y4 y hy
      · show C8.1 11 _ = _; rw [e8 11 (by omega)]; exact y5
      · show C8.1 12 _ = _; rw [e8 12 (by omega)]; exact y6 p hp
      · show C8.1 13 _ = _
        rw [e813 _ (by omega), x_bh e_up_ag (show n < N by omega)]
        exact y7 p hp
  · show C8.1 i = C.1 i
    rw [e8 i (by omega)]
    exact kp07.2.1 i h1 h2
