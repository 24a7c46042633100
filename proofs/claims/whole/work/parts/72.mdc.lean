-- the reference: mainPlace
def rM (C : RM) (ml : List Nat) : Prop := C.2.2.2.1 = (ml.length : Int) ∧ ml.length ≤ 400 ∧ (∀ v ∈ ml, v < 400) ∧ ∀ i, i < ml.length → C.1 25 i = (ml.getD i 0 : Nat)
theorem idx_first {x : Nat} : ∀ (l : List Nat) (i : Nat), i < l.length → l.getD i 0 = x → (∀ j, j < i → l.getD j 0 ≠ x) → l.idxOf x = i := by
  intro l
  induction l with
  | nil => intro i hi; simp at hi
  | cons y l ih =>
    intro i hi he hj
    rw [List.idxOf_cons]
    cases i with
    | zero =>
      have : y = x := by simpa using he
      simp [this]
    | succ i =>
      have h0 : ¬ y = x := by simpa using hj 0 (by omega)
      have := ih i (by simpa using hi) (by simpa using he) (fun j hji => by simpa using hj (j + 1) (by omega))
      rw [this]
      have hb : (y == x) = false := by simp [h0]
      rw [hb]; rfl
theorem l_mpk {h : AH} {M : Nat} {C : RM} {ml : List Nat} {e x : Nat} (hm : rM C ml) (hx : x < 400) : ∀ (k i : Nat), i + k = ml.length → (∀ j, j < i → ml.getD j 0 ≠ x) → (ml.contains x = true → Ev tMd_mainPlace 26 [some (vR M), some (.inl (e : Int)), some (.inl (x : Int)), some (.inl (i : Int))] [] (hM h M C) (some (.inl (ml.idxOf x : Int)), hM h M C)) ∧ (ml.contains x = false → ∀ {o : Option AV × AH}, Ev tMd_mainPlace 52 [some (vR M), some (.inl (e : Int)), some (.inl (x : Int)), some (.inl (ml.length : Int))] [] (hM h M C) o → Ev tMd_mainPlace 26 [some (vR M), some (.inl (e : Int)), some (.inl (x : Int)), some (.inl (i : Int))] [] (hM h M C) o) := by
  obtain ⟨m1, m2, m3, m4⟩ := hm
  intro k
  induction k with
  | zero =>
    intro i hi hj
    obtain rfl : i = ml.length := by omega
    constructor
    · intro hc
      rw [List.contains_iff_mem] at hc
      obtain ⟨j, j1, j2⟩ := List.getElem_of_mem hc
      exact absurd (by rw [List.getD_eq_getElem?_getD, List.getElem?_eq_getElem j1, j2]; rfl) (hj j j1)
    · intro _ o hgo
      iterate 2 (refine ev_st rfl rfl ?_)
      refine ev_getf rfl hM_0 (by rfl) ?_
      rw [m1]
      refine ev_icT rfl (by simp only [ick, w32]; omega) ?_
      exact hgo
  | succ k ih =>
    intro i hi hj
    have m4i := m4 i (by omega)
    have m3i := m3 _ (getD_mem (show i < ml.length by omega))
    by_cases he : ml.getD i 0 = x
    · constructor
      · intro _
        rw [idx_first ml i (by omega) he hj]
        iterate 2 (refine ev_st rfl rfl ?_)
        refine ev_getf rfl hM_0 (by rfl) ?_
        rw [m1]
        refine ev_icF rfl (by simp only [ick, w32]; omega) ?_
        iterate 1 (refine ev_st rfl rfl ?_)
        refine ev_getf rfl hM_0 (by rfl) ?_
        iterate 1 (refine ev_st rfl rfl ?_)
        refine ev_iald i rfl hA25 (by simp only [w32]; omega) (by omega) ?_
        rw [m4i]
        iterate 1 (refine ev_st rfl rfl ?_)
        refine ev_icF rfl (by simp only [ick, w32]; omega) ?_
        iterate 1 (refine ev_st rfl rfl ?_)
        exact ev_rt rfl rfl rfl
      · intro hc
        have := getD_mem (show i < ml.length by omega)
        rw [he] at this
        rw [← List.contains_iff_mem, hc] at this
        cases this
    · obtain ⟨a, b⟩ := ih (i + 1) (by omega) (fun j hj' => by
        by_cases w : j = i
        · rw [w]; exact he
        · exact hj j (by omega))
      constructor
      · intro hc
        iterate 2 (refine ev_st rfl rfl ?_)
        refine ev_getf rfl hM_0 (by rfl) ?_
        rw [m1]
        refine ev_icF rfl (by simp only [ick, w32]; omega) ?_
        iterate 1 (refine ev_st rfl rfl ?_)
        refine ev_getf rfl hM_0 (by rfl) ?_
        iterate 1 (refine ev_st rfl rfl ?_)
        refine ev_iald i rfl hA25 (by simp only [w32]; omega) (by omega) ?_
        rw [m4i]
        iterate 1 (refine ev_st rfl rfl ?_)
        refine ev_icT rfl (by simp only [ick, w32]; omega) ?_
        iterate 2 (refine ev_st rfl rfl ?_)
        exact a hc
      · intro hc o hgo
        iterate 2 (refine ev_st rfl rfl ?_)
        refine ev_getf rfl hM_0 (by rfl) ?_
        rw [m1]
        refine ev_icF rfl (by simp only [ick, w32]; omega) ?_
        iterate 1 (refine ev_st rfl rfl ?_)
        refine ev_getf rfl hM_0 (by rfl) ?_
        iterate 1 (refine ev_st rfl rfl ?_)
        refine ev_iald i rfl hA25 (by simp only [w32]; omega) (by omega) ?_
        rw [m4i]
        iterate 1 (refine ev_st rfl rfl ?_)
        refine ev_icT rfl (by simp only [ick, w32]; omega) ?_
        iterate 2 (refine ev_st rfl rfl ?_)
        exact b hc hgo
theorem l_mplc {h : AH} {M N : Nat} {C : RM} {E : EL} {ml : List Nat} {e : Nat} (hE : EOK N E) (q : rE C N E) (hm : rM C ml) : ∀ (n : Nat) (x : Int) (j3 : Option AV), (x = -1 ∨ ∃ m : Nat, x = m ∧ m < n ∧ m < N) → Ev tMd_mainPlace 20 [some (vR M), some (.inl (e : Int)), some (.inl x), j3] [] (hM h M C) (some (.inl (r_plc E ml n x : Int)), hM h M C) := by
  obtain ⟨hN, hW, hP, hX, hO, hB⟩ := id hE
  intro n
  induction n with
  | zero =>
    intro x j3 hx
    obtain rfl : x = -1 := by
      rcases hx with z | ⟨m, -, z, -⟩
      · exact z
      · omega
    iterate 1 (refine ev_st rfl rfl ?_)
    refine ev_ifT rfl (by simp only [ick, w32]; omega) ?_
    iterate 1 (refine ev_st rfl rfl ?_)
    exact ev_rt rfl rfl rfl
  | succ n ih =>
    intro x j3 hx
    rcases hx with rfl | ⟨m, rfl, z1, z2⟩
    · simp only [r_plc]
      rw [if_pos (by omega)]
      iterate 1 (refine ev_st rfl rfl ?_)
      refine ev_ifT rfl (by simp only [ick, w32]; omega) ?_
      iterate 1 (refine ev_st rfl rfl ?_)
      exact ev_rt rfl rfl rfl
    · have e0 : r_plc E ml (n + 1) (m : Int) = bif ml.contains m then ml.idxOf m else r_plc E ml n (e_ow (E m) 13) := by
        simp only [r_plc]
        rw [if_neg (by omega), Int.toNat_natCast]
      rw [e0]
      obtain ⟨a, b⟩ := l_mpk (h := h) (M := M) (e := e) (x := m) hm (by omega) ml.length 0 (by omega) (fun j hj => by omega)
      iterate 1 (refine ev_st rfl rfl ?_)
      refine ev_ifF rfl (by simp only [ick, w32]; omega) ?_
      iterate 2 (refine ev_st rfl rfl ?_)
      cases hc : ml.contains m with
      | true => exact a hc
      | false =>
        refine b hc ?_
        have cp := c_mpoa (h := h) (M := M) hN q hW (hO.ow m z2) (by omega) (q.2 m z2).2.2.1
        iterate 2 (refine ev_st rfl rfl ?_)
        refine ev_callV rfl rfl hM_0 rfl cp ?_
        iterate 2 (refine ev_st rfl rfl ?_)
        refine ih _ _ ?_
        rcases (hO m z2).at 13 with w | ⟨m', w1, w2, -⟩
        · exact Or.inl w
        · exact Or.inr ⟨m', w2, by omega, by omega⟩
theorem c_mmp {h : AH} {M N : Nat} {C : RM} {E : EL} {ml : List Nat} {e : Nat} (hE : EOK N E) (q : rE C N E) (hm : rM C ml) (he : e < N) : Em mMd_mainPlace 2 [vR M, .inl (e : Int)] (hM h M C) (some (.inl (r_mp E ml e : Int))) (hM h M C) := by
  obtain ⟨hN, hW, hP, hX, hO, hB⟩ := id hE
  have qe := q.2 e he
  have wk := (hW e he).2.1
  show Ev tMd_mainPlace 0 [some (vR M), some (.inl (e : Int)), none, none] [] _ _
  unfold r_mp
  iterate 1 (refine ev_st rfl rfl ?_)
  refine ev_getf rfl hM_0 (by rfl) ?_
  iterate 1 (refine ev_st rfl rfl ?_)
  refine ev_iald e rfl hA1 (by simp only [w32]; omega) (by omega) ?_
  rw [qe.1.2.1]
  iterate 1 (refine ev_st rfl rfl ?_)
  by_cases k2 : e_kd (E e) = 2
  · rw [if_pos k2]
    refine ev_icF rfl (by simp only [ick, w32]; omega) ?_
    iterate 3 (refine ev_st rfl rfl ?_)
    exact l_mplc hE q hm 401 (e : Int) none (Or.inr ⟨e, rfl, by omega, he⟩)
  · rw [if_neg k2]
    have cp := c_mpoa (h := h) (M := M) hN q hW (hO.ow e he) (by omega) qe.2.2.1
    refine ev_icT rfl (by simp only [ick, w32]; omega) ?_
    iterate 2 (refine ev_st rfl rfl ?_)
    refine ev_callV rfl rfl hM_0 rfl cp ?_
    iterate 1 (refine ev_st rfl rfl ?_)
    refine l_mplc hE q hm 401 _ none ?_
    rcases (hO e he).at 13 with w | ⟨m', w1, w2, -⟩
    · exact Or.inl w
    · exact Or.inr ⟨m', w2, by omega, by omega⟩
theorem c_mplc_r {E : EL} {ml : List Nat} (hl : ml.length ≤ 400) : ∀ (n : Nat) (x : Int), r_plc E ml n x ≤ 400 := by
  intro n
  induction n with
  | zero => intro x; exact Nat.le_refl _
  | succ n ih =>
    intro x
    simp only [r_plc]
    split
    · exact Nat.le_refl _
    · cases ml.contains x.toNat
      · exact ih _
      · exact Nat.le_trans List.idxOf_le_length hl
