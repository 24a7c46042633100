-- EventSet
abbrev cSet (w : Nat) : AE := .inr (2, [.inr (.inr (some w))])
abbrev cLng (g : Nat → BitVec 64) : AE := .inl (2, 7, .inr (.inl g))
abbrev vR (r : Nat) : AV := .inr (.inr (some r))
abbrev vB (b : Bool) : AV := .inl (bif b then 1 else 0)
def InR (n : Int) : Prop := -2147483648 ≤ n ∧ n < 2147483648
theorem t_div64 {n : Nat} (h : n < 400) : Int.tdiv (w32 (n : Int)) (w32 64) = ((n / 64 : Nat) : Int) := by
  rw [w32_id (by omega) (by omega), w32_id (by omega) (by omega)]; exact (Int.ofNat_tdiv n 64).symm
theorem t_rem64 {n : Nat} (h : n < 400) : Int.tmod (w32 (n : Int)) (w32 64) = ((n % 64 : Nat) : Int) := by
  rw [w32_id (by omega) (by omega), w32_id (by omega) (by omega)]; exact (Int.ofNat_tmod n 64).symm

set_option maxRecDepth 20000 in
set_option maxHeartbeats 1000000 in
theorem c_has {h : AH} {o w : Nat} {g : Nat → BitVec 64} {n : Int} (ho : h.2.2 o = some (cSet w)) (hw : h.2.2 w = some (cLng g)) (hn : InR n) : Em mEventSet_has 0 [vR o, .inl n] h (some (vB (decide (0 ≤ n ∧ n < 400) && bS g n.toNat))) h := by
  show Ev tEventSet_has 0 [some (vR o), some (.inl n)] [] h _
  unfold InR at hn
  by_cases hc : 0 ≤ n ∧ n < 400
  · obtain ⟨k, rfl⟩ : ∃ k : Nat, n = k := ⟨n.toNat, by omega⟩
    rw [decide_eq_true hc, Bool.true_and, Int.toNat_natCast]
    have hk : k < 400 := by omega
    repeat (first | refine ev_st rfl rfl ?_ | refine ev_getf rfl (by first | assumption | exact ah_eq | (refine ah_ne (by omega) ?_; first | assumption | exact ah_eq | (refine ah_ne (by omega) ?_; first | assumption | exact ah_eq | (refine ah_ne (by omega) ?_; first | assumption | exact ah_eq)))) (by rfl) ?_ | refine ev_ifT rfl (by simp only [ick, w32]; omega) ?_ | refine ev_ifF rfl (by simp only [ick, w32]; omega) ?_ | refine ev_icT rfl (by simp only [ick, w32]; omega) ?_ | refine ev_icF rfl (by simp only [ick, w32]; omega) ?_)
    refine ev_div _ rfl (by decide) (t_div64 hk) ?_
    refine ev_lald (k / 64) rfl (by first | assumption | exact ah_eq | (refine ah_ne (by omega) ?_; first | assumption | exact ah_eq | (refine ah_ne (by omega) ?_; first | assumption | exact ah_eq | (refine ah_ne (by omega) ?_; first | assumption | exact ah_eq)))) (by simp only [ick, w32]; omega) (by omega) ?_
    repeat (first | refine ev_st rfl rfl ?_ | refine ev_getf rfl (by first | assumption | exact ah_eq | (refine ah_ne (by omega) ?_; first | assumption | exact ah_eq | (refine ah_ne (by omega) ?_; first | assumption | exact ah_eq | (refine ah_ne (by omega) ?_; first | assumption | exact ah_eq)))) (by rfl) ?_ | refine ev_ifT rfl (by simp only [ick, w32]; omega) ?_ | refine ev_ifF rfl (by simp only [ick, w32]; omega) ?_ | refine ev_icT rfl (by simp only [ick, w32]; omega) ?_ | refine ev_icF rfl (by simp only [ick, w32]; omega) ?_)
    refine ev_rem _ rfl (by decide) (t_rem64 hk) ?_
    repeat (refine ev_st rfl rfl ?_)
    cases hb : bS g k with
    | false =>
      refine ev_ifT rfl ((a_lcmp_0 _ _).2 ((bS_has g hk).2 hb)) ?_
      repeat (refine ev_st rfl rfl ?_)
      exact ev_rt rfl rfl rfl
    | true =>
      refine ev_ifF rfl (fun q => by have := (bS_has g hk).1 ((a_lcmp_0 _ _).1 q); rw [hb] at this; cases this) ?_
      repeat (refine ev_st rfl rfl ?_)
      exact ev_rt rfl rfl rfl
  · rw [decide_eq_false hc, Bool.false_and]
    repeat (refine ev_st rfl rfl ?_)
    refine ev_if rfl (fun c => ?_) (fun c => ?_)
    · repeat (refine ev_st rfl rfl ?_)
      exact ev_rt rfl rfl rfl
    · simp only [ick, w32] at c
      repeat (first | refine ev_st rfl rfl ?_ | refine ev_getf rfl (by first | assumption | exact ah_eq | (refine ah_ne (by omega) ?_; first | assumption | exact ah_eq | (refine ah_ne (by omega) ?_; first | assumption | exact ah_eq | (refine ah_ne (by omega) ?_; first | assumption | exact ah_eq)))) (by rfl) ?_ | refine ev_ifT rfl (by simp only [ick, w32]; omega) ?_ | refine ev_ifF rfl (by simp only [ick, w32]; omega) ?_ | refine ev_icT rfl (by simp only [ick, w32]; omega) ?_ | refine ev_icF rfl (by simp only [ick, w32]; omega) ?_)
      exact ev_rt rfl rfl rfl
set_option maxHeartbeats 1000000 in
theorem c_add {h : AH} {o w : Nat} {g : Nat → BitVec 64} {n : Nat} (ho : h.2.2 o = some (cSet w)) (hw : h.2.2 w = some (cLng g)) (hn : n < 400) : ∃ g', Em mEventSet_add 0 [vR o, .inl n] h none (ah_put h w (cLng g')) ∧ bS g' = f_on (bS g) n := by
  refine ⟨_, ?_, bS_add g hn⟩
  show Ev tEventSet_add 0 [some (vR o), some (.inl n)] [] h _
  repeat (first | refine ev_st rfl rfl ?_ | refine ev_getf rfl (by first | assumption | exact ah_eq | (refine ah_ne (by omega) ?_; first | assumption | exact ah_eq | (refine ah_ne (by omega) ?_; first | assumption | exact ah_eq | (refine ah_ne (by omega) ?_; first | assumption | exact ah_eq)))) (by rfl) ?_ | refine ev_ifT rfl (by simp only [ick, w32]; omega) ?_ | refine ev_ifF rfl (by simp only [ick, w32]; omega) ?_ | refine ev_icT rfl (by simp only [ick, w32]; omega) ?_ | refine ev_icF rfl (by simp only [ick, w32]; omega) ?_)
  refine ev_div _ rfl (by decide) (t_div64 hn) ?_
  repeat (refine ev_st rfl rfl ?_)
  refine ev_laldN rfl (by first | assumption | exact ah_eq | (refine ah_ne (by omega) ?_; first | assumption | exact ah_eq | (refine ah_ne (by omega) ?_; first | assumption | exact ah_eq | (refine ah_ne (by omega) ?_; first | assumption | exact ah_eq)))) (by omega) (by omega) ?_
  repeat (refine ev_st rfl rfl ?_)
  refine ev_rem _ rfl (by decide) (t_rem64 hn) ?_
  repeat (refine ev_st rfl rfl ?_)
  refine ev_lastN rfl (by first | assumption | exact ah_eq | (refine ah_ne (by omega) ?_; first | assumption | exact ah_eq | (refine ah_ne (by omega) ?_; first | assumption | exact ah_eq | (refine ah_ne (by omega) ?_; first | assumption | exact ah_eq)))) (by omega) (by omega) ?_
  exact ev_rt rfl rfl rfl
set_option maxHeartbeats 1000000 in
theorem c_remove {h : AH} {o w : Nat} {g : Nat → BitVec 64} {n : Nat} (ho : h.2.2 o = some (cSet w)) (hw : h.2.2 w = some (cLng g)) (hn : n < 400) : ∃ g', Em mEventSet_remove 0 [vR o, .inl n] h none (ah_put h w (cLng g')) ∧ bS g' = f_off (bS g) n := by
  refine ⟨_, ?_, bS_rem g hn⟩
  show Ev tEventSet_remove 0 [some (vR o), some (.inl n)] [] h _
  repeat (first | refine ev_st rfl rfl ?_ | refine ev_getf rfl (by first | assumption | exact ah_eq | (refine ah_ne (by omega) ?_; first | assumption | exact ah_eq | (refine ah_ne (by omega) ?_; first | assumption | exact ah_eq | (refine ah_ne (by omega) ?_; first | assumption | exact ah_eq)))) (by rfl) ?_ | refine ev_ifT rfl (by simp only [ick, w32]; omega) ?_ | refine ev_ifF rfl (by simp only [ick, w32]; omega) ?_ | refine ev_icT rfl (by simp only [ick, w32]; omega) ?_ | refine ev_icF rfl (by simp only [ick, w32]; omega) ?_)
  refine ev_div _ rfl (by decide) (t_div64 hn) ?_
  repeat (refine ev_st rfl rfl ?_)
  refine ev_laldN rfl (by first | assumption | exact ah_eq | (refine ah_ne (by omega) ?_; first | assumption | exact ah_eq | (refine ah_ne (by omega) ?_; first | assumption | exact ah_eq | (refine ah_ne (by omega) ?_; first | assumption | exact ah_eq)))) (by omega) (by omega) ?_
  repeat (refine ev_st rfl rfl ?_)
  refine ev_rem _ rfl (by decide) (t_rem64 hn) ?_
  repeat (refine ev_st rfl rfl ?_)
  refine ev_lastN rfl (by first | assumption | exact ah_eq | (refine ah_ne (by omega) ?_; first | assumption | exact ah_eq | (refine ah_ne (by omega) ?_; first | assumption | exact ah_eq | (refine ah_ne (by omega) ?_; first | assumption | exact ah_eq)))) (by omega) (by omega) ?_
  exact ev_rt rfl rfl rfl
set_option maxHeartbeats 1000000 in
theorem l_addAll {h : AH} {o w : Nat} {g : Nat → BitVec 64} (ho : h.2.2 o = some (cSet w)) (h1 : o ≠ w) {o2 w2 : Nat} {g2 : Nat → BitVec 64} (h2 : o2 ≠ w) (ho2 : h.2.2 o2 = some (cSet w2)) (hw2 : h.2.2 w2 = some (cLng g2)) (hne : w2 ≠ w) : ∀ (k i : Nat), i + k = 7 → Ev tEventSet_addAll 2 [some (vR o), some (vR o2), some (.inl (i : Int))] [] (ah_put h w (cLng (fill i (fun j => g j ||| g2 j) g))) (none, ah_put h w (cLng (fill 7 (fun j => g j ||| g2 j) g))) := by
  intro k
  induction k with
  | zero =>
    intro i hi
    obtain rfl : i = 7 := by omega
    repeat (first | refine ev_st rfl rfl ?_ | refine ev_getf rfl (by first | assumption | exact ah_eq | (refine ah_ne (by omega) ?_; first | assumption | exact ah_eq | (refine ah_ne (by omega) ?_; first | assumption | exact ah_eq | (refine ah_ne (by omega) ?_; first | assumption | exact ah_eq)))) (by rfl) ?_ | refine ev_ifT rfl (by simp only [ick, w32]; omega) ?_ | refine ev_ifF rfl (by simp only [ick, w32]; omega) ?_ | refine ev_icT rfl (by simp only [ick, w32]; omega) ?_ | refine ev_icF rfl (by simp only [ick, w32]; omega) ?_)
    exact ev_rt rfl rfl rfl
  | succ k ih =>
    intro i hi
    repeat (first | refine ev_st rfl rfl ?_ | refine ev_getf rfl (by first | assumption | exact ah_eq | (refine ah_ne (by omega) ?_; first | assumption | exact ah_eq | (refine ah_ne (by omega) ?_; first | assumption | exact ah_eq | (refine ah_ne (by omega) ?_; first | assumption | exact ah_eq)))) (by rfl) ?_ | refine ev_laldN rfl (by first | assumption | exact ah_eq | (refine ah_ne (by omega) ?_; first | assumption | exact ah_eq | (refine ah_ne (by omega) ?_; first | assumption | exact ah_eq | (refine ah_ne (by omega) ?_; first | assumption | exact ah_eq)))) (by omega) (by omega) ?_ | refine ev_ialdN rfl (by first | assumption | exact ah_eq | (refine ah_ne (by omega) ?_; first | assumption | exact ah_eq | (refine ah_ne (by omega) ?_; first | assumption | exact ah_eq | (refine ah_ne (by omega) ?_; first | assumption | exact ah_eq)))) (by omega) (by omega) ?_ | refine ev_aaldN rfl (by first | assumption | exact ah_eq | (refine ah_ne (by omega) ?_; first | assumption | exact ah_eq | (refine ah_ne (by omega) ?_; first | assumption | exact ah_eq | (refine ah_ne (by omega) ?_; first | assumption | exact ah_eq)))) (by omega) (by omega) ?_ | refine ev_ifT rfl (by simp only [ick, w32]; omega) ?_ | refine ev_ifF rfl (by simp only [ick, w32]; omega) ?_ | refine ev_icT rfl (by simp only [ick, w32]; omega) ?_ | refine ev_icF rfl (by simp only [ick, w32]; omega) ?_)
    (try rw [fill_at])
    repeat (refine ev_st rfl rfl ?_)
    refine ev_lastN rfl (by first | assumption | exact ah_eq | (refine ah_ne (by omega) ?_; first | assumption | exact ah_eq | (refine ah_ne (by omega) ?_; first | assumption | exact ah_eq | (refine ah_ne (by omega) ?_; first | assumption | exact ah_eq)))) (by omega) (by omega) ?_
    rw [ah_putput, fill_up i (fun j => g j ||| g2 j) g]
    iterate 2 (refine ev_st rfl rfl ?_)
    rw [nat_1]
    exact ih (i + 1) (by omega)

theorem c_addAll {h : AH} {o w : Nat} {g : Nat → BitVec 64} (ho : h.2.2 o = some (cSet w)) (hw : h.2.2 w = some (cLng g)) {o2 w2 : Nat} {g2 : Nat → BitVec 64} (ho2 : h.2.2 o2 = some (cSet w2)) (hw2 : h.2.2 w2 = some (cLng g2)) (hne : w2 ≠ w) : ∃ g', Em mEventSet_addAll 1 [vR o, vR o2] h none (ah_put h w (cLng g')) ∧ ∀ n, bS g' n = (bS g n || bS g2 n) := by
  have h1 : o ≠ w := by rintro rfl; rw [ho] at hw; cases hw
  have h2 : o2 ≠ w := by rintro rfl; rw [ho2] at hw; cases hw
  refine ⟨fill 7 (fun j => g j ||| g2 j) g, ?_, ?_⟩
  rotate_left
  · intro n
    refine bS_map2 g g2 _ (fun x y => x || y) rfl (fun w' hw' i hi => ?_) n
    simp [fill, hw', hi]
  · show Ev tEventSet_addAll 0 [some (vR o), some (vR o2), none] [] h _
    iterate 2 (refine ev_st rfl rfl ?_)
    have := l_addAll (g := g) ho h1 h2 ho2 hw2 hne 7 0 rfl
    rw [fill_0, ah_same hw] at this
    exact this

set_option maxHeartbeats 1000000 in
theorem l_keepAll {h : AH} {o w : Nat} {g : Nat → BitVec 64} (ho : h.2.2 o = some (cSet w)) (h1 : o ≠ w) {o2 w2 : Nat} {g2 : Nat → BitVec 64} (h2 : o2 ≠ w) (ho2 : h.2.2 o2 = some (cSet w2)) (hw2 : h.2.2 w2 = some (cLng g2)) (hne : w2 ≠ w) : ∀ (k i : Nat), i + k = 7 → Ev tEventSet_keepAll 2 [some (vR o), some (vR o2), some (.inl (i : Int))] [] (ah_put h w (cLng (fill i (fun j => g j &&& g2 j) g))) (none, ah_put h w (cLng (fill 7 (fun j => g j &&& g2 j) g))) := by
  intro k
  induction k with
  | zero =>
    intro i hi
    obtain rfl : i = 7 := by omega
    repeat (first | refine ev_st rfl rfl ?_ | refine ev_getf rfl (by first | assumption | exact ah_eq | (refine ah_ne (by omega) ?_; first | assumption | exact ah_eq | (refine ah_ne (by omega) ?_; first | assumption | exact ah_eq | (refine ah_ne (by omega) ?_; first | assumption | exact ah_eq)))) (by rfl) ?_ | refine ev_ifT rfl (by simp only [ick, w32]; omega) ?_ | refine ev_ifF rfl (by simp only [ick, w32]; omega) ?_ | refine ev_icT rfl (by simp only [ick, w32]; omega) ?_ | refine ev_icF rfl (by simp only [ick, w32]; omega) ?_)
    exact ev_rt rfl rfl rfl
  | succ k ih =>
    intro i hi
    repeat (first | refine ev_st rfl rfl ?_ | refine ev_getf rfl (by first | assumption | exact ah_eq | (refine ah_ne (by omega) ?_; first | assumption | exact ah_eq | (refine ah_ne (by omega) ?_; first | assumption | exact ah_eq | (refine ah_ne (by omega) ?_; first | assumption | exact ah_eq)))) (by rfl) ?_ | refine ev_laldN rfl (by first | assumption | exact ah_eq | (refine ah_ne (by omega) ?_; first | assumption | exact ah_eq | (refine ah_ne (by omega) ?_; first | assumption | exact ah_eq | (refine ah_ne (by omega) ?_; first | assumption | exact ah_eq)))) (by omega) (by omega) ?_ | refine ev_ialdN rfl (by first | assumption | exact ah_eq | (refine ah_ne (by omega) ?_; first | assumption | exact ah_eq | (refine ah_ne (by omega) ?_; first | assumption | exact ah_eq | (refine ah_ne (by omega) ?_; first | assumption | exact ah_eq)))) (by omega) (by omega) ?_ | refine ev_aaldN rfl (by first | assumption | exact ah_eq | (refine ah_ne (by omega) ?_; first | assumption | exact ah_eq | (refine ah_ne (by omega) ?_; first | assumption | exact ah_eq | (refine ah_ne (by omega) ?_; first | assumption | exact ah_eq)))) (by omega) (by omega) ?_ | refine ev_ifT rfl (by simp only [ick, w32]; omega) ?_ | refine ev_ifF rfl (by simp only [ick, w32]; omega) ?_ | refine ev_icT rfl (by simp only [ick, w32]; omega) ?_ | refine ev_icF rfl (by simp only [ick, w32]; omega) ?_)
    (try rw [fill_at])
    repeat (refine ev_st rfl rfl ?_)
    refine ev_lastN rfl (by first | assumption | exact ah_eq | (refine ah_ne (by omega) ?_; first | assumption | exact ah_eq | (refine ah_ne (by omega) ?_; first | assumption | exact ah_eq | (refine ah_ne (by omega) ?_; first | assumption | exact ah_eq)))) (by omega) (by omega) ?_
    rw [ah_putput, fill_up i (fun j => g j &&& g2 j) g]
    iterate 2 (refine ev_st rfl rfl ?_)
    rw [nat_1]
    exact ih (i + 1) (by omega)

theorem c_keepAll {h : AH} {o w : Nat} {g : Nat → BitVec 64} (ho : h.2.2 o = some (cSet w)) (hw : h.2.2 w = some (cLng g)) {o2 w2 : Nat} {g2 : Nat → BitVec 64} (ho2 : h.2.2 o2 = some (cSet w2)) (hw2 : h.2.2 w2 = some (cLng g2)) (hne : w2 ≠ w) : ∃ g', Em mEventSet_keepAll 1 [vR o, vR o2] h none (ah_put h w (cLng g')) ∧ ∀ n, bS g' n = (bS g n && bS g2 n) := by
  have h1 : o ≠ w := by rintro rfl; rw [ho] at hw; cases hw
  have h2 : o2 ≠ w := by rintro rfl; rw [ho2] at hw; cases hw
  refine ⟨fill 7 (fun j => g j &&& g2 j) g, ?_, ?_⟩
  rotate_left
  · intro n
    refine bS_map2 g g2 _ (fun x y => x && y) rfl (fun w' hw' i hi => ?_) n
    simp [fill, hw', hi]
  · show Ev tEventSet_keepAll 0 [some (vR o), some (vR o2), none] [] h _
    iterate 2 (refine ev_st rfl rfl ?_)
    have := l_keepAll (g := g) ho h1 h2 ho2 hw2 hne 7 0 rfl
    rw [fill_0, ah_same hw] at this
    exact this

set_option maxHeartbeats 1000000 in
theorem l_removeAll {h : AH} {o w : Nat} {g : Nat → BitVec 64} (ho : h.2.2 o = some (cSet w)) (h1 : o ≠ w) {o2 w2 : Nat} {g2 : Nat → BitVec 64} (h2 : o2 ≠ w) (ho2 : h.2.2 o2 = some (cSet w2)) (hw2 : h.2.2 w2 = some (cLng g2)) (hne : w2 ≠ w) : ∀ (k i : Nat), i + k = 7 → Ev tEventSet_removeAll 2 [some (vR o), some (vR o2), some (.inl (i : Int))] [] (ah_put h w (cLng (fill i (fun j => g j &&& (g2 j ^^^ BitVec.ofInt 64 (-1))) g))) (none, ah_put h w (cLng (fill 7 (fun j => g j &&& (g2 j ^^^ BitVec.ofInt 64 (-1))) g))) := by
  intro k
  induction k with
  | zero =>
    intro i hi
    obtain rfl : i = 7 := by omega
    repeat (first | refine ev_st rfl rfl ?_ | refine ev_getf rfl (by first | assumption | exact ah_eq | (refine ah_ne (by omega) ?_; first | assumption | exact ah_eq | (refine ah_ne (by omega) ?_; first | assumption | exact ah_eq | (refine ah_ne (by omega) ?_; first | assumption | exact ah_eq)))) (by rfl) ?_ | refine ev_ifT rfl (by simp only [ick, w32]; omega) ?_ | refine ev_ifF rfl (by simp only [ick, w32]; omega) ?_ | refine ev_icT rfl (by simp only [ick, w32]; omega) ?_ | refine ev_icF rfl (by simp only [ick, w32]; omega) ?_)
    exact ev_rt rfl rfl rfl
  | succ k ih =>
    intro i hi
    repeat (first | refine ev_st rfl rfl ?_ | refine ev_getf rfl (by first | assumption | exact ah_eq | (refine ah_ne (by omega) ?_; first | assumption | exact ah_eq | (refine ah_ne (by omega) ?_; first | assumption | exact ah_eq | (refine ah_ne (by omega) ?_; first | assumption | exact ah_eq)))) (by rfl) ?_ | refine ev_laldN rfl (by first | assumption | exact ah_eq | (refine ah_ne (by omega) ?_; first | assumption | exact ah_eq | (refine ah_ne (by omega) ?_; first | assumption | exact ah_eq | (refine ah_ne (by omega) ?_; first | assumption | exact ah_eq)))) (by omega) (by omega) ?_ | refine ev_ialdN rfl (by first | assumption | exact ah_eq | (refine ah_ne (by omega) ?_; first | assumption | exact ah_eq | (refine ah_ne (by omega) ?_; first | assumption | exact ah_eq | (refine ah_ne (by omega) ?_; first | assumption | exact ah_eq)))) (by omega) (by omega) ?_ | refine ev_aaldN rfl (by first | assumption | exact ah_eq | (refine ah_ne (by omega) ?_; first | assumption | exact ah_eq | (refine ah_ne (by omega) ?_; first | assumption | exact ah_eq | (refine ah_ne (by omega) ?_; first | assumption | exact ah_eq)))) (by omega) (by omega) ?_ | refine ev_ifT rfl (by simp only [ick, w32]; omega) ?_ | refine ev_ifF rfl (by simp only [ick, w32]; omega) ?_ | refine ev_icT rfl (by simp only [ick, w32]; omega) ?_ | refine ev_icF rfl (by simp only [ick, w32]; omega) ?_)
    (try rw [fill_at])
    repeat (refine ev_st rfl rfl ?_)
    refine ev_lastN rfl (by first | assumption | exact ah_eq | (refine ah_ne (by omega) ?_; first | assumption | exact ah_eq | (refine ah_ne (by omega) ?_; first | assumption | exact ah_eq | (refine ah_ne (by omega) ?_; first | assumption | exact ah_eq)))) (by omega) (by omega) ?_
    rw [ah_putput, fill_up i (fun j => g j &&& (g2 j ^^^ BitVec.ofInt 64 (-1))) g]
    iterate 2 (refine ev_st rfl rfl ?_)
    rw [nat_1]
    exact ih (i + 1) (by omega)

theorem c_removeAll {h : AH} {o w : Nat} {g : Nat → BitVec 64} (ho : h.2.2 o = some (cSet w)) (hw : h.2.2 w = some (cLng g)) {o2 w2 : Nat} {g2 : Nat → BitVec 64} (ho2 : h.2.2 o2 = some (cSet w2)) (hw2 : h.2.2 w2 = some (cLng g2)) (hne : w2 ≠ w) : ∃ g', Em mEventSet_removeAll 1 [vR o, vR o2] h none (ah_put h w (cLng g')) ∧ ∀ n, bS g' n = (bS g n && !bS g2 n) := by
  have h1 : o ≠ w := by rintro rfl; rw [ho] at hw; cases hw
  have h2 : o2 ≠ w := by rintro rfl; rw [ho2] at hw; cases hw
  refine ⟨fill 7 (fun j => g j &&& (g2 j ^^^ BitVec.ofInt 64 (-1))) g, ?_, ?_⟩
  rotate_left
  · intro n
    refine bS_map2 g g2 _ (fun x y => x && !y) rfl (fun w' hw' i hi => ?_) n
    rw [show BitVec.ofInt 64 (-1) = BitVec.allOnes 64 by decide]
    simp only [fill, if_pos hw', BitVec.getLsbD_and, BitVec.getLsbD_xor, BitVec.getLsbD_allOnes, decide_eq_true hi, Bool.xor_true]
  · show Ev tEventSet_removeAll 0 [some (vR o), some (vR o2), none] [] h _
    iterate 2 (refine ev_st rfl rfl ?_)
    have := l_removeAll (g := g) ho h1 h2 ho2 hw2 hne 7 0 rfl
    rw [fill_0, ah_same hw] at this
    exact this

set_option maxHeartbeats 1000000 in
theorem l_copy {h : AH} {o w : Nat} {g : Nat → BitVec 64} (ho : h.2.2 o = some (cSet w)) (h1 : o ≠ w) {o2 w2 : Nat} {g2 : Nat → BitVec 64} (h2 : o2 ≠ w) (ho2 : h.2.2 o2 = some (cSet w2)) (hw2 : h.2.2 w2 = some (cLng g2)) (hne : w2 ≠ w) : ∀ (k i : Nat), i + k = 7 → Ev tEventSet_copy 2 [some (vR o), some (vR o2), some (.inl (i : Int))] [] (ah_put h w (cLng (fill i (fun j => g2 j) g))) (none, ah_put h w (cLng (fill 7 (fun j => g2 j) g))) := by
  intro k
  induction k with
  | zero =>
    intro i hi
    obtain rfl : i = 7 := by omega
    repeat (first | refine ev_st rfl rfl ?_ | refine ev_getf rfl (by first | assumption | exact ah_eq | (refine ah_ne (by omega) ?_; first | assumption | exact ah_eq | (refine ah_ne (by omega) ?_; first | assumption | exact ah_eq | (refine ah_ne (by omega) ?_; first | assumption | exact ah_eq)))) (by rfl) ?_ | refine ev_ifT rfl (by simp only [ick, w32]; omega) ?_ | refine ev_ifF rfl (by simp only [ick, w32]; omega) ?_ | refine ev_icT rfl (by simp only [ick, w32]; omega) ?_ | refine ev_icF rfl (by simp only [ick, w32]; omega) ?_)
    exact ev_rt rfl rfl rfl
  | succ k ih =>
    intro i hi
    repeat (first | refine ev_st rfl rfl ?_ | refine ev_getf rfl (by first | assumption | exact ah_eq | (refine ah_ne (by omega) ?_; first | assumption | exact ah_eq | (refine ah_ne (by omega) ?_; first | assumption | exact ah_eq | (refine ah_ne (by omega) ?_; first | assumption | exact ah_eq)))) (by rfl) ?_ | refine ev_laldN rfl (by first | assumption | exact ah_eq | (refine ah_ne (by omega) ?_; first | assumption | exact ah_eq | (refine ah_ne (by omega) ?_; first | assumption | exact ah_eq | (refine ah_ne (by omega) ?_; first | assumption | exact ah_eq)))) (by omega) (by omega) ?_ | refine ev_ialdN rfl (by first | assumption | exact ah_eq | (refine ah_ne (by omega) ?_; first | assumption | exact ah_eq | (refine ah_ne (by omega) ?_; first | assumption | exact ah_eq | (refine ah_ne (by omega) ?_; first | assumption | exact ah_eq)))) (by omega) (by omega) ?_ | refine ev_aaldN rfl (by first | assumption | exact ah_eq | (refine ah_ne (by omega) ?_; first | assumption | exact ah_eq | (refine ah_ne (by omega) ?_; first | assumption | exact ah_eq | (refine ah_ne (by omega) ?_; first | assumption | exact ah_eq)))) (by omega) (by omega) ?_ | refine ev_ifT rfl (by simp only [ick, w32]; omega) ?_ | refine ev_ifF rfl (by simp only [ick, w32]; omega) ?_ | refine ev_icT rfl (by simp only [ick, w32]; omega) ?_ | refine ev_icF rfl (by simp only [ick, w32]; omega) ?_)
    (try rw [fill_at])
    repeat (refine ev_st rfl rfl ?_)
    refine ev_lastN rfl (by first | assumption | exact ah_eq | (refine ah_ne (by omega) ?_; first | assumption | exact ah_eq | (refine ah_ne (by omega) ?_; first | assumption | exact ah_eq | (refine ah_ne (by omega) ?_; first | assumption | exact ah_eq)))) (by omega) (by omega) ?_
    rw [ah_putput, fill_up i (fun j => g2 j) g]
    iterate 2 (refine ev_st rfl rfl ?_)
    rw [nat_1]
    exact ih (i + 1) (by omega)

theorem c_copy {h : AH} {o w : Nat} {g : Nat → BitVec 64} (ho : h.2.2 o = some (cSet w)) (hw : h.2.2 w = some (cLng g)) {o2 w2 : Nat} {g2 : Nat → BitVec 64} (ho2 : h.2.2 o2 = some (cSet w2)) (hw2 : h.2.2 w2 = some (cLng g2)) (hne : w2 ≠ w) : ∃ g', Em mEventSet_copy 1 [vR o, vR o2] h none (ah_put h w (cLng g')) ∧ ∀ n, bS g' n = bS g2 n := by
  have h1 : o ≠ w := by rintro rfl; rw [ho] at hw; cases hw
  have h2 : o2 ≠ w := by rintro rfl; rw [ho2] at hw; cases hw
  refine ⟨fill 7 (fun j => g2 j) g, ?_, ?_⟩
  rotate_left
  · intro n
    refine bS_map2 g g2 _ (fun x y => y) rfl (fun w' hw' i hi => ?_) n
    simp [fill, hw', hi]
  · show Ev tEventSet_copy 0 [some (vR o), some (vR o2), none] [] h _
    iterate 2 (refine ev_st rfl rfl ?_)
    have := l_copy (g := g) ho h1 h2 ho2 hw2 hne 7 0 rfl
    rw [fill_0, ah_same hw] at this
    exact this

set_option maxHeartbeats 1000000 in
theorem l_clear {h : AH} {o w : Nat} {g : Nat → BitVec 64} (ho : h.2.2 o = some (cSet w)) (h1 : o ≠ w)  : ∀ (k i : Nat), i + k = 7 → Ev tEventSet_clear 2 [some (vR o), some (.inl (i : Int))] [] (ah_put h w (cLng (fill i (fun j => BitVec.ofInt 64 0) g))) (none, ah_put h w (cLng (fill 7 (fun j => BitVec.ofInt 64 0) g))) := by
  intro k
  induction k with
  | zero =>
    intro i hi
    obtain rfl : i = 7 := by omega
    repeat (first | refine ev_st rfl rfl ?_ | refine ev_getf rfl (by first | assumption | exact ah_eq | (refine ah_ne (by omega) ?_; first | assumption | exact ah_eq | (refine ah_ne (by omega) ?_; first | assumption | exact ah_eq | (refine ah_ne (by omega) ?_; first | assumption | exact ah_eq)))) (by rfl) ?_ | refine ev_ifT rfl (by simp only [ick, w32]; omega) ?_ | refine ev_ifF rfl (by simp only [ick, w32]; omega) ?_ | refine ev_icT rfl (by simp only [ick, w32]; omega) ?_ | refine ev_icF rfl (by simp only [ick, w32]; omega) ?_)
    exact ev_rt rfl rfl rfl
  | succ k ih =>
    intro i hi
    repeat (first | refine ev_st rfl rfl ?_ | refine ev_getf rfl (by first | assumption | exact ah_eq | (refine ah_ne (by omega) ?_; first | assumption | exact ah_eq | (refine ah_ne (by omega) ?_; first | assumption | exact ah_eq | (refine ah_ne (by omega) ?_; first | assumption | exact ah_eq)))) (by rfl) ?_ | refine ev_laldN rfl (by first | assumption | exact ah_eq | (refine ah_ne (by omega) ?_; first | assumption | exact ah_eq | (refine ah_ne (by omega) ?_; first | assumption | exact ah_eq | (refine ah_ne (by omega) ?_; first | assumption | exact ah_eq)))) (by omega) (by omega) ?_ | refine ev_ialdN rfl (by first | assumption | exact ah_eq | (refine ah_ne (by omega) ?_; first | assumption | exact ah_eq | (refine ah_ne (by omega) ?_; first | assumption | exact ah_eq | (refine ah_ne (by omega) ?_; first | assumption | exact ah_eq)))) (by omega) (by omega) ?_ | refine ev_aaldN rfl (by first | assumption | exact ah_eq | (refine ah_ne (by omega) ?_; first | assumption | exact ah_eq | (refine ah_ne (by omega) ?_; first | assumption | exact ah_eq | (refine ah_ne (by omega) ?_; first | assumption | exact ah_eq)))) (by omega) (by omega) ?_ | refine ev_ifT rfl (by simp only [ick, w32]; omega) ?_ | refine ev_ifF rfl (by simp only [ick, w32]; omega) ?_ | refine ev_icT rfl (by simp only [ick, w32]; omega) ?_ | refine ev_icF rfl (by simp only [ick, w32]; omega) ?_)
    (try rw [fill_at])
    repeat (refine ev_st rfl rfl ?_)
    refine ev_lastN rfl (by first | assumption | exact ah_eq | (refine ah_ne (by omega) ?_; first | assumption | exact ah_eq | (refine ah_ne (by omega) ?_; first | assumption | exact ah_eq | (refine ah_ne (by omega) ?_; first | assumption | exact ah_eq)))) (by omega) (by omega) ?_
    rw [ah_putput, fill_up i (fun j => BitVec.ofInt 64 0) g]
    iterate 2 (refine ev_st rfl rfl ?_)
    rw [nat_1]
    exact ih (i + 1) (by omega)

theorem c_clear {h : AH} {o w : Nat} {g : Nat → BitVec 64} (ho : h.2.2 o = some (cSet w)) (hw : h.2.2 w = some (cLng g))  : ∃ g', Em mEventSet_clear 1 [vR o] h none (ah_put h w (cLng g')) ∧ ∀ n, bS g' n = false := by
  have h1 : o ≠ w := by rintro rfl; rw [ho] at hw; cases hw
  refine ⟨fill 7 (fun j => BitVec.ofInt 64 0) g, ?_, ?_⟩
  rotate_left
  · intro n
    refine bS_map2 g g _ (fun _ _ => false) rfl (fun w' hw' i hi => ?_) n
    simp [fill, hw']
  · show Ev tEventSet_clear 0 [some (vR o), none] [] h _
    iterate 2 (refine ev_st rfl rfl ?_)
    have := l_clear (g := g) ho h1 7 0 rfl
    rw [fill_0, ah_same hw] at this
    exact this


theorem wd_and0 (x y : BitVec 64) : x &&& y = BitVec.ofInt 64 0 ↔ ∀ j, j < 64 → (x.getLsbD j && y.getLsbD j) = false := by
  rw [show BitVec.ofInt 64 0 = 0#64 by decide]
  constructor
  · intro q j _
    have := congrArg (fun v : BitVec 64 => v.getLsbD j) q
    simpa using this
  · intro q
    apply BitVec.eq_of_getLsbD_eq
    intro j hj
    have := q j hj
    simpa using this
theorem bS_word (g : Nat → BitVec 64) {w j : Nat} (hw : w < 7) (hj : j < 64) : bS g (64 * w + j) = (g w).getLsbD j := by
  unfold bS
  rw [decide_eq_true (show 64 * w + j < 448 by omega), show (64 * w + j) / 64 = w by omega, show (64 * w + j) % 64 = j by omega]
  rfl
set_option maxHeartbeats 1000000 in
theorem l_meets {h : AH} {o w : Nat} {g : Nat → BitVec 64} (ho : h.2.2 o = some (cSet w)) (hw : h.2.2 w = some (cLng g)) {o2 w2 : Nat} {g2 : Nat → BitVec 64} (ho2 : h.2.2 o2 = some (cSet w2)) (hw2 : h.2.2 w2 = some (cLng g2)) : ∀ (k i : Nat), i + k = 7 → b_any (64 * i) (fun n => bS g n && bS g2 n) = false → Ev tEventSet_meets 2 [some (vR o), some (vR o2), some (.inl (i : Int))] [] h (some (vB (b_any 448 (fun n => bS g n && bS g2 n))), h) := by
  intro k
  induction k with
  | zero =>
    intro i hi hb
    obtain rfl : i = 7 := by omega
    rw [show 64 * 7 = 448 by rfl] at hb
    rw [hb]
    clear hb
    repeat (first | refine ev_st rfl rfl ?_ | refine ev_getf rfl (by first | assumption | exact ah_eq | (refine ah_ne (by omega) ?_; first | assumption | exact ah_eq | (refine ah_ne (by omega) ?_; first | assumption | exact ah_eq | (refine ah_ne (by omega) ?_; first | assumption | exact ah_eq)))) (by rfl) ?_ | refine ev_ifT rfl (by simp only [ick, w32]; omega) ?_ | refine ev_ifF rfl (by simp only [ick, w32]; omega) ?_ | refine ev_icT rfl (by simp only [ick, w32]; omega) ?_ | refine ev_icF rfl (by simp only [ick, w32]; omega) ?_)
    exact ev_rt rfl rfl rfl
  | succ k ih =>
    intro i hi hb
    repeat (first | refine ev_st rfl rfl ?_ | refine ev_getf rfl (by first | assumption | exact ah_eq | (refine ah_ne (by omega) ?_; first | assumption | exact ah_eq | (refine ah_ne (by omega) ?_; first | assumption | exact ah_eq | (refine ah_ne (by omega) ?_; first | assumption | exact ah_eq)))) (by rfl) ?_ | refine ev_laldN rfl (by first | assumption | exact ah_eq | (refine ah_ne (by omega) ?_; first | assumption | exact ah_eq | (refine ah_ne (by omega) ?_; first | assumption | exact ah_eq | (refine ah_ne (by omega) ?_; first | assumption | exact ah_eq)))) (by omega) (by omega) ?_ | refine ev_ialdN rfl (by first | assumption | exact ah_eq | (refine ah_ne (by omega) ?_; first | assumption | exact ah_eq | (refine ah_ne (by omega) ?_; first | assumption | exact ah_eq | (refine ah_ne (by omega) ?_; first | assumption | exact ah_eq)))) (by omega) (by omega) ?_ | refine ev_aaldN rfl (by first | assumption | exact ah_eq | (refine ah_ne (by omega) ?_; first | assumption | exact ah_eq | (refine ah_ne (by omega) ?_; first | assumption | exact ah_eq | (refine ah_ne (by omega) ?_; first | assumption | exact ah_eq)))) (by omega) (by omega) ?_ | refine ev_ifT rfl (by simp only [ick, w32]; omega) ?_ | refine ev_ifF rfl (by simp only [ick, w32]; omega) ?_ | refine ev_icT rfl (by simp only [ick, w32]; omega) ?_ | refine ev_icF rfl (by simp only [ick, w32]; omega) ?_)
    by_cases hz : g i &&& g2 i = BitVec.ofInt 64 0
    · refine ev_ifT rfl ((a_lcmp_0 _ _).2 hz) ?_
      iterate 2 (refine ev_st rfl rfl ?_)
      rw [nat_1]
      refine ih (i + 1) (by omega) ?_
      rw [← Bool.not_eq_true, b_any_iff]
      rintro ⟨n, hn, hnn⟩
      by_cases hlt : n < 64 * i
      · have : b_any (64 * i) (fun n => bS g n && bS g2 n) = true := b_any_iff.2 ⟨n, hlt, hnn⟩
        rw [hb] at this
        cases this
      · have := (wd_and0 _ _).1 hz (n - 64 * i) (by omega)
        rw [← bS_word g (by omega) (by omega), ← bS_word g2 (by omega) (by omega), show 64 * i + (n - 64 * i) = n by omega] at this
        rw [this] at hnn
        cases hnn
    · have ht : b_any 448 (fun n => bS g n && bS g2 n) = true := by
        apply Decidable.byContradiction
        intro hc
        apply hz
        rw [wd_and0]
        intro j hj
        rw [← bS_word g (by omega) hj, ← bS_word g2 (by omega) hj]
        apply Decidable.byContradiction
        intro hc2
        exact hc (b_any_iff.2 ⟨64 * i + j, by omega, by simpa using hc2⟩)
      rw [ht]
      refine ev_ifF rfl (fun q => hz ((a_lcmp_0 _ _).1 q)) ?_
      repeat (refine ev_st rfl rfl ?_)
      exact ev_rt rfl rfl rfl
theorem c_meets {h : AH} {o w : Nat} {g : Nat → BitVec 64} (ho : h.2.2 o = some (cSet w)) (hw : h.2.2 w = some (cLng g)) {o2 w2 : Nat} {g2 : Nat → BitVec 64} (ho2 : h.2.2 o2 = some (cSet w2)) (hw2 : h.2.2 w2 = some (cLng g2)) : Em mEventSet_meets 1 [vR o, vR o2] h (some (vB (b_any 448 (fun n => bS g n && bS g2 n)))) h := by
  show Ev tEventSet_meets 0 [some (vR o), some (vR o2), none] [] h _
  iterate 2 (refine ev_st rfl rfl ?_)
  exact l_meets ho hw ho2 hw2 7 0 rfl rfl
set_option maxHeartbeats 1000000 in
theorem l_ssize {h : AH} {o w : Nat} {g : Nat → BitVec 64} (ho : h.2.2 o = some (cSet w)) (hw : h.2.2 w = some (cLng g)) : ∀ (k i : Nat), i + k = 7 → Ev tEventSet_size 4 [some (vR o), some (.inl ((b_cnt (64 * i) (bS g) : Nat) : Int)), some (.inl (i : Int))] [] h (some (.inl ((b_cnt 448 (bS g) : Nat) : Int)), h) := by
  intro k
  induction k with
  | zero =>
    intro i hi
    obtain rfl : i = 7 := by omega
    repeat (first | refine ev_st rfl rfl ?_ | refine ev_getf rfl (by first | assumption | exact ah_eq | (refine ah_ne (by omega) ?_; first | assumption | exact ah_eq | (refine ah_ne (by omega) ?_; first | assumption | exact ah_eq | (refine ah_ne (by omega) ?_; first | assumption | exact ah_eq)))) (by rfl) ?_ | refine ev_ifT rfl (by simp only [ick, w32]; omega) ?_ | refine ev_ifF rfl (by simp only [ick, w32]; omega) ?_ | refine ev_icT rfl (by simp only [ick, w32]; omega) ?_ | refine ev_icF rfl (by simp only [ick, w32]; omega) ?_)
    exact ev_rt rfl rfl rfl
  | succ k ih =>
    intro i hi
    repeat (first | refine ev_st rfl rfl ?_ | refine ev_getf rfl (by first | assumption | exact ah_eq | (refine ah_ne (by omega) ?_; first | assumption | exact ah_eq | (refine ah_ne (by omega) ?_; first | assumption | exact ah_eq | (refine ah_ne (by omega) ?_; first | assumption | exact ah_eq)))) (by rfl) ?_ | refine ev_ifT rfl (by simp only [ick, w32]; omega) ?_ | refine ev_ifF rfl (by simp only [ick, w32]; omega) ?_ | refine ev_icT rfl (by simp only [ick, w32]; omega) ?_ | refine ev_icF rfl (by simp only [ick, w32]; omega) ?_)
    refine ev_laldN rfl (by first | assumption | exact ah_eq | (refine ah_ne (by omega) ?_; first | assumption | exact ah_eq | (refine ah_ne (by omega) ?_; first | assumption | exact ah_eq | (refine ah_ne (by omega) ?_; first | assumption | exact ah_eq)))) (by omega) (by omega) ?_
    iterate 5 (refine ev_st rfl rfl ?_)
    rw [nat_1]
    have e : ((b_cnt (64 * i) (bS g) : Nat) : Int) + a_pop (g i) = ((b_cnt (64 * (i + 1)) (bS g) : Nat) : Int) := by
      rw [bS_cnt g (by omega)]; simp [a_pop]
    rw [e]
    exact ih (i + 1) (by omega)
theorem c_ssize {h : AH} {o w : Nat} {g : Nat → BitVec 64} (ho : h.2.2 o = some (cSet w)) (hw : h.2.2 w = some (cLng g)) : Em mEventSet_size 2 [vR o] h (some (.inl ((b_cnt 448 (bS g) : Nat) : Int))) h := by
  show Ev tEventSet_size 0 [some (vR o), none, none] [] h _
  iterate 4 (refine ev_st rfl rfl ?_)
  exact l_ssize ho hw 7 0 rfl
theorem c_setinit {h : AH} {o : Nat} {x : AV} (ho : h.2.2 o = some (.inr (2, [x]))) (hlt : o < h.1) : Em mEventSet_init 0 [vR o] h none (ah_put (ah_new h 7 (cLng fun _ => 0)) o (cSet h.1)) := by
  show Ev tEventSet_init 0 [some (vR o)] [] h _
  repeat (refine ev_st rfl rfl ?_)
  refine ev_newa 7 rfl (by decide) (by decide) ?_
  repeat (refine ev_st rfl rfl ?_)
  refine ev_putf rfl (ah_nne (by omega) ho) (Nat.le_refl 1) rfl ?_
  exact ev_rt rfl rfl rfl
