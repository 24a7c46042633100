-- the reference's constructor
set_option maxRecDepth 20000
def mdA (C : RM) : List AE := (List.range 29).map fun i => .inl (aT i, aLn i, .inl (C.1 i))
theorem hX_hM {X : AH} {C : RM} {n : Nat} : hX X (cMd X.1 C.2 :: mdA C) n = hM (hX X (cMd X.1 C.2 :: mdA C) n) X.1 C := by
  have hl : (mdA C).length = 29 := by simp [mdA]
  refine Prod.ext rfl (Prod.ext rfl ?_)
  funext a
  by_cases hb : X.1 ≤ a ∧ a < X.1 + 30
  · by_cases hc : a = X.1
    · subst hc
      exact (hX_at (i := 0)).trans hM_0.symm
    · obtain ⟨j, rfl⟩ : ∃ j, a = X.1 + (j + 1) := ⟨a - X.1 - 1, by omega⟩
      rw [hM_a j (by omega)]
      refine hX_at.trans ?_
      rw [List.getElem?_cons_succ]
      unfold mdA
      rw [List.getElem?_map, List.getElem?_range (by omega)]
      rfl
  · exact (hM_lo hb).symm
def C_0 : RM := (fun _ _ => 0, (0, 0, 0, 0))
theorem l_mini {h : AH} {M : Nat} {C : RM} : ∀ (k i : Nat) (f : Nat → Int), i + k = 92 → (∀ j, j < i → f j = -1) → ∃ f' : Nat → Int, (∀ j, j < 92 → f' j = -1) ∧ Ev tMd_init 258 [some (vR M), some (.inl (i : Int))] [] (hM h M (rU C 17 f)) (none, hM h M (rU C 17 f')) := by
  intro k
  induction k with
  | zero =>
    intro i f hi hf
    obtain rfl : i = 92 := by omega
    refine ⟨f, hf, ?_⟩
    iterate 2 (refine ev_st rfl rfl ?_)
    refine ev_getf rfl hM_0 (by rfl) ?_
    refine ev_alen rfl hA17 ?_
    refine ev_icT rfl (by simp only [ick, w32]; omega) ?_
    exact ev_rt rfl rfl rfl
  | succ k ih =>
    intro i f hi hf
    obtain ⟨f', h1, go⟩ := ih (i + 1) (va_up f i (-1)) (by omega) (fun j hj => by
      simp only [va_up]
      by_cases w : j = i
      · rw [if_pos w]
      · rw [if_neg w, hf j (by omega)])
    refine ⟨f', h1, ?_⟩
    iterate 2 (refine ev_st rfl rfl ?_)
    refine ev_getf rfl hM_0 (by rfl) ?_
    refine ev_alen rfl hA17 ?_
    refine ev_icF rfl (by simp only [ick, w32]; omega) ?_
    iterate 1 (refine ev_st rfl rfl ?_)
    refine ev_getf rfl hM_0 (by rfl) ?_
    iterate 2 (refine ev_st rfl rfl ?_)
    refine ev_iast i rfl hA17 (by simp only [w32]; omega) (by omega) ?_
    rw [hP17, rU_rU]
    iterate 2 (refine ev_st rfl rfl ?_)
    exact go
set_option maxHeartbeats 40000000 in
theorem c_mdinit {X : AH} {n : Nat} : ∃ f' : Nat → Int, (∀ j, j < 92 → f' j = -1) ∧ Em mMd_init 1 [vR X.1] (hX X [.inr (7, [.inr (.inr none), .inr (.inr none), .inr (.inr none), .inr (.inr none), .inr (.inr none), .inr (.inr none), .inr (.inr none), .inr (.inr none), .inr (.inr none), .inr (.inr none), .inr (.inr none), .inr (.inr none), .inr (.inr none), .inr (.inr none), .inl 0, .inr (.inr none), .inr (.inr none), .inr (.inr none), .inr (.inr none), .inr (.inr none), .inl 0, .inr (.inr none), .inr (.inr none), .inr (.inr none), .inr (.inr none), .inr (.inr none), .inr (.inr none), .inr (.inr none), .inl 0, .inr (.inr none), .inr (.inr none), .inr (.inr none), .inl 0])] n) none (hM (hX X (cMd X.1 C_0.2 :: mdA C_0) (n + 196194)) X.1 (rU C_0 17 f')) := by
  obtain ⟨f', h1, go⟩ := l_mini (h := hX X (cMd X.1 C_0.2 :: mdA C_0) (n + 196194)) (M := X.1) (C := C_0) 92 0 (C_0.1 17) (by omega) (fun j hj => by omega)
  rw [rU_self, ← hX_hM] at go
  refine ⟨f', h1, ?_⟩
  show Ev tMd_init 0 [some (vR (X.1 + 0)), none] [] _ _
  iterate 2 (refine ev_st rfl rfl ?_)
  iterate 2 (refine ev_st rfl rfl ?_)
  refine evX_newa 400 rfl (by decide) (by decide) ?_
  refine evX_putf 0 rfl rfl (Nat.le_of_ble_eq_true rfl) rfl ?_
  simp only [List.set, List.cons_append, List.nil_append, List.length_cons, List.length_nil, Nat.reduceAdd, List.map, hX_fst]
  iterate 2 (refine ev_st rfl rfl ?_)
  refine evX_newa 400 rfl (by decide) (by decide) ?_
  refine evX_putf 0 rfl rfl (Nat.le_of_ble_eq_true rfl) rfl ?_
  simp only [List.set, List.cons_append, List.nil_append, List.length_cons, List.length_nil, Nat.reduceAdd, List.map, hX_fst]
  iterate 2 (refine ev_st rfl rfl ?_)
  refine evX_newa 400 rfl (by decide) (by decide) ?_
  refine evX_putf 0 rfl rfl (Nat.le_of_ble_eq_true rfl) rfl ?_
  simp only [List.set, List.cons_append, List.nil_append, List.length_cons, List.length_nil, Nat.reduceAdd, List.map, hX_fst]
  iterate 2 (refine ev_st rfl rfl ?_)
  refine evX_newa 400 rfl (by decide) (by decide) ?_
  refine evX_putf 0 rfl rfl (Nat.le_of_ble_eq_true rfl) rfl ?_
  simp only [List.set, List.cons_append, List.nil_append, List.length_cons, List.length_nil, Nat.reduceAdd, List.map, hX_fst]
  iterate 2 (refine ev_st rfl rfl ?_)
  refine evX_newa 400 rfl (by decide) (by decide) ?_
  refine evX_putf 0 rfl rfl (Nat.le_of_ble_eq_true rfl) rfl ?_
  simp only [List.set, List.cons_append, List.nil_append, List.length_cons, List.length_nil, Nat.reduceAdd, List.map, hX_fst]
  iterate 2 (refine ev_st rfl rfl ?_)
  refine evX_newa 1600 rfl (by decide) (by decide) ?_
  refine evX_putf 0 rfl rfl (Nat.le_of_ble_eq_true rfl) rfl ?_
  simp only [List.set, List.cons_append, List.nil_append, List.length_cons, List.length_nil, Nat.reduceAdd, List.map, hX_fst]
  iterate 2 (refine ev_st rfl rfl ?_)
  refine evX_newa 400 rfl (by decide) (by decide) ?_
  refine evX_putf 0 rfl rfl (Nat.le_of_ble_eq_true rfl) rfl ?_
  simp only [List.set, List.cons_append, List.nil_append, List.length_cons, List.length_nil, Nat.reduceAdd, List.map, hX_fst]
  iterate 2 (refine ev_st rfl rfl ?_)
  refine evX_newa 2400 rfl (by decide) (by decide) ?_
  refine evX_putf 0 rfl rfl (Nat.le_of_ble_eq_true rfl) rfl ?_
  simp only [List.set, List.cons_append, List.nil_append, List.length_cons, List.length_nil, Nat.reduceAdd, List.map, hX_fst]
  iterate 2 (refine ev_st rfl rfl ?_)
  refine evX_newa 400 rfl (by decide) (by decide) ?_
  refine evX_putf 0 rfl rfl (Nat.le_of_ble_eq_true rfl) rfl ?_
  simp only [List.set, List.cons_append, List.nil_append, List.length_cons, List.length_nil, Nat.reduceAdd, List.map, hX_fst]
  iterate 2 (refine ev_st rfl rfl ?_)
  refine evX_newa 4800 rfl (by decide) (by decide) ?_
  refine evX_putf 0 rfl rfl (Nat.le_of_ble_eq_true rfl) rfl ?_
  simp only [List.set, List.cons_append, List.nil_append, List.length_cons, List.length_nil, Nat.reduceAdd, List.map, hX_fst]
  iterate 2 (refine ev_st rfl rfl ?_)
  refine evX_newa 160000 rfl (by decide) (by decide) ?_
  refine evX_putf 0 rfl rfl (Nat.le_of_ble_eq_true rfl) rfl ?_
  simp only [List.set, List.cons_append, List.nil_append, List.length_cons, List.length_nil, Nat.reduceAdd, List.map, hX_fst]
  iterate 2 (refine ev_st rfl rfl ?_)
  refine evX_newa 400 rfl (by decide) (by decide) ?_
  refine evX_putf 0 rfl rfl (Nat.le_of_ble_eq_true rfl) rfl ?_
  simp only [List.set, List.cons_append, List.nil_append, List.length_cons, List.length_nil, Nat.reduceAdd, List.map, hX_fst]
  iterate 2 (refine ev_st rfl rfl ?_)
  refine evX_newa 9200 rfl (by decide) (by decide) ?_
  refine evX_putf 0 rfl rfl (Nat.le_of_ble_eq_true rfl) rfl ?_
  simp only [List.set, List.cons_append, List.nil_append, List.length_cons, List.length_nil, Nat.reduceAdd, List.map, hX_fst]
  iterate 2 (refine ev_st rfl rfl ?_)
  refine evX_newa 9200 rfl (by decide) (by decide) ?_
  refine evX_putf 0 rfl rfl (Nat.le_of_ble_eq_true rfl) rfl ?_
  simp only [List.set, List.cons_append, List.nil_append, List.length_cons, List.length_nil, Nat.reduceAdd, List.map, hX_fst]
  iterate 2 (refine ev_st rfl rfl ?_)
  refine evX_newa 1600 rfl (by decide) (by decide) ?_
  refine evX_putf 0 rfl rfl (Nat.le_of_ble_eq_true rfl) rfl ?_
  simp only [List.set, List.cons_append, List.nil_append, List.length_cons, List.length_nil, Nat.reduceAdd, List.map, hX_fst]
  iterate 2 (refine ev_st rfl rfl ?_)
  refine evX_newa 1600 rfl (by decide) (by decide) ?_
  refine evX_putf 0 rfl rfl (Nat.le_of_ble_eq_true rfl) rfl ?_
  simp only [List.set, List.cons_append, List.nil_append, List.length_cons, List.length_nil, Nat.reduceAdd, List.map, hX_fst]
  iterate 2 (refine ev_st rfl rfl ?_)
  refine evX_newa 4 rfl (by decide) (by decide) ?_
  refine evX_putf 0 rfl rfl (Nat.le_of_ble_eq_true rfl) rfl ?_
  simp only [List.set, List.cons_append, List.nil_append, List.length_cons, List.length_nil, Nat.reduceAdd, List.map, hX_fst]
  iterate 2 (refine ev_st rfl rfl ?_)
  refine evX_newa 92 rfl (by decide) (by decide) ?_
  refine evX_putf 0 rfl rfl (Nat.le_of_ble_eq_true rfl) rfl ?_
  simp only [List.set, List.cons_append, List.nil_append, List.length_cons, List.length_nil, Nat.reduceAdd, List.map, hX_fst]
  iterate 2 (refine ev_st rfl rfl ?_)
  refine evX_newa 400 rfl (by decide) (by decide) ?_
  refine evX_putf 0 rfl rfl (Nat.le_of_ble_eq_true rfl) rfl ?_
  simp only [List.set, List.cons_append, List.nil_append, List.length_cons, List.length_nil, Nat.reduceAdd, List.map, hX_fst]
  iterate 2 (refine ev_st rfl rfl ?_)
  refine evX_newa 23 rfl (by decide) (by decide) ?_
  refine evX_putf 0 rfl rfl (Nat.le_of_ble_eq_true rfl) rfl ?_
  simp only [List.set, List.cons_append, List.nil_append, List.length_cons, List.length_nil, Nat.reduceAdd, List.map, hX_fst]
  iterate 2 (refine ev_st rfl rfl ?_)
  refine evX_newa 23 rfl (by decide) (by decide) ?_
  refine evX_putf 0 rfl rfl (Nat.le_of_ble_eq_true rfl) rfl ?_
  simp only [List.set, List.cons_append, List.nil_append, List.length_cons, List.length_nil, Nat.reduceAdd, List.map, hX_fst]
  iterate 2 (refine ev_st rfl rfl ?_)
  refine evX_newa 400 rfl (by decide) (by decide) ?_
  refine evX_putf 0 rfl rfl (Nat.le_of_ble_eq_true rfl) rfl ?_
  simp only [List.set, List.cons_append, List.nil_append, List.length_cons, List.length_nil, Nat.reduceAdd, List.map, hX_fst]
  iterate 2 (refine ev_st rfl rfl ?_)
  refine evX_newa 400 rfl (by decide) (by decide) ?_
  refine evX_putf 0 rfl rfl (Nat.le_of_ble_eq_true rfl) rfl ?_
  simp only [List.set, List.cons_append, List.nil_append, List.length_cons, List.length_nil, Nat.reduceAdd, List.map, hX_fst]
  iterate 2 (refine ev_st rfl rfl ?_)
  refine evX_newa 400 rfl (by decide) (by decide) ?_
  refine evX_putf 0 rfl rfl (Nat.le_of_ble_eq_true rfl) rfl ?_
  simp only [List.set, List.cons_append, List.nil_append, List.length_cons, List.length_nil, Nat.reduceAdd, List.map, hX_fst]
  iterate 2 (refine ev_st rfl rfl ?_)
  refine evX_newa 400 rfl (by decide) (by decide) ?_
  refine evX_putf 0 rfl rfl (Nat.le_of_ble_eq_true rfl) rfl ?_
  simp only [List.set, List.cons_append, List.nil_append, List.length_cons, List.length_nil, Nat.reduceAdd, List.map, hX_fst]
  iterate 2 (refine ev_st rfl rfl ?_)
  refine evX_newa 400 rfl (by decide) (by decide) ?_
  refine evX_putf 0 rfl rfl (Nat.le_of_ble_eq_true rfl) rfl ?_
  simp only [List.set, List.cons_append, List.nil_append, List.length_cons, List.length_nil, Nat.reduceAdd, List.map, hX_fst]
  iterate 2 (refine ev_st rfl rfl ?_)
  refine evX_newa 23 rfl (by decide) (by decide) ?_
  refine evX_putf 0 rfl rfl (Nat.le_of_ble_eq_true rfl) rfl ?_
  simp only [List.set, List.cons_append, List.nil_append, List.length_cons, List.length_nil, Nat.reduceAdd, List.map, hX_fst]
  iterate 2 (refine ev_st rfl rfl ?_)
  refine evX_newa 23 rfl (by decide) (by decide) ?_
  refine evX_putf 0 rfl rfl (Nat.le_of_ble_eq_true rfl) rfl ?_
  simp only [List.set, List.cons_append, List.nil_append, List.length_cons, List.length_nil, Nat.reduceAdd, List.map, hX_fst]
  iterate 2 (refine ev_st rfl rfl ?_)
  refine evX_newa 6 rfl (by decide) (by decide) ?_
  refine evX_putf 0 rfl rfl (Nat.le_of_ble_eq_true rfl) rfl ?_
  simp only [List.set, List.cons_append, List.nil_append, List.length_cons, List.length_nil, Nat.reduceAdd, List.map, hX_fst]
  iterate 2 (refine ev_st rfl rfl ?_)
  have e1 : ∀ {a b : Nat} {L L' : List AE} {o : Option AV × AH} {lv : AL}, a = b → L = L' → Ev tMd_init 258 lv [] (hX X L' b) o → Ev tMd_init 258 lv [] (hX X L a) o := by
    intro a b L L' o lv ha hL hh
    rw [ha, hL]
    exact hh
  exact e1 (by omega) rfl go
