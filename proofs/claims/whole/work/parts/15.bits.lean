-- sets of numbers in seven longs
theorem a_lcmp_0 (x y : BitVec 64) : w32 (a_lcmp x y) = 0 ↔ x = y := by
  unfold a_lcmp lg_cmp
  have h : Int64.ofBitVec x = Int64.ofBitVec y ↔ x = y := ⟨fun q => by have := congrArg Int64.toBitVec q; simpa using this, fun q => by rw [q]⟩
  by_cases hxy : x = y
  · subst hxy
    have h1 : ¬ Int64.ofBitVec x > Int64.ofBitVec x := Int64.lt_irrefl
    rw [if_neg h1, if_pos rfl]
    exact ⟨fun _ => rfl, fun _ => by decide⟩
  · refine ⟨fun q => absurd q ?_, fun q => absurd q hxy⟩
    rw [if_neg (fun q => hxy (h.1 q))]
    split <;> decide
def bS (g : Nat → BitVec 64) (n : Nat) : Bool := decide (n < 448) && (g (n / 64)).getLsbD (n % 64)
def f_on (f : Nat → Bool) (e : Nat) : Nat → Bool := fun y => bif Nat.beq y e then true else f y
theorem beq_d (y e : Nat) : Nat.beq y e = decide (y = e) := by
  by_cases h : y = e
  · subst h; simp
  · rw [decide_eq_false h]; cases hb : Nat.beq y e with
    | false => rfl
    | true => exact absurd (Nat.eq_of_beq_eq_true hb) h
theorem f_on_d (f : Nat → Bool) (e y : Nat) : f_on f e y = (decide (y = e) || f y) := by
  unfold f_on; rw [beq_d]; by_cases h : y = e <;> simp [h]
theorem f_off_d (f : Nat → Bool) (e y : Nat) : f_off f e y = (!decide (y = e) && f y) := by
  unfold f_off; rw [beq_d]; by_cases h : y = e <;> simp [h]
theorem bS_has (g : Nat → BitVec 64) {n : Nat} (h : n < 400) : (a_ushr (g (n / 64)) ((n % 64 : Nat) : Int) &&& 1#64 = 0#64) ↔ bS g n = false := by
  have hk : n % 64 < 64 := Nat.mod_lt _ (by decide)
  rw [a_ushr_eq _ hk]
  unfold bS
  rw [decide_eq_true (show n < 448 by omega), Bool.true_and]
  constructor
  · intro q
    have := congrArg (fun v : BitVec 64 => v.getLsbD 0) q
    simpa using this
  · intro q
    apply BitVec.eq_of_getLsbD_eq
    intro i hi
    by_cases h0 : i = 0
    · subst h0; simpa using q
    · simp [h0]
theorem bS_add (g : Nat → BitVec 64) {n : Nat} (h : n < 400) : bS (va_up g (n / 64) (g (n / 64) ||| a_shl 1#64 ((n % 64 : Nat) : Int))) = f_on (bS g) n := by
  have hk : n % 64 < 64 := Nat.mod_lt _ (by decide)
  rw [a_shl_eq _ hk]
  funext m
  rw [f_on_d]
  unfold bS va_up
  by_cases hw : m / 64 = n / 64
  · rw [if_pos hw]
    have hm : m % 64 < 64 := Nat.mod_lt _ (by decide)
    by_cases hmn : m = n
    · subst hmn
      simp [show m < 448 by omega, hm]
    · have hne : m % 64 ≠ n % 64 := fun q => hmn (by omega)
      rw [decide_eq_false hmn, hw]
      simp only [BitVec.getLsbD_or, BitVec.getLsbD_shiftLeft, BitVec.getLsbD_one, Bool.false_or]
      have : (!decide (m % 64 < n % 64) && (decide (0 < 64) && decide (m % 64 - n % 64 = 0))) = false := by
        by_cases hlt : m % 64 < n % 64
        · simp [hlt]
        · simp [show ¬ (m % 64 - n % 64 = 0) by omega]
      rw [Bool.and_assoc, this]
      simp
  · have hmn : ¬ m = n := fun q => hw (by rw [q])
    rw [if_neg hw]
    simp [hmn]
theorem bS_rem (g : Nat → BitVec 64) {n : Nat} (h : n < 400) : bS (va_up g (n / 64) (g (n / 64) &&& (a_shl 1#64 ((n % 64 : Nat) : Int) ^^^ BitVec.ofInt 64 (-1)))) = f_off (bS g) n := by
  have hk : n % 64 < 64 := Nat.mod_lt _ (by decide)
  rw [a_shl_eq _ hk, show BitVec.ofInt 64 (-1) = BitVec.allOnes 64 by decide]
  funext m
  rw [f_off_d]
  unfold bS va_up
  by_cases hw : m / 64 = n / 64
  · rw [if_pos hw]
    have hm : m % 64 < 64 := Nat.mod_lt _ (by decide)
    by_cases hmn : m = n
    · subst hmn
      simp only [BitVec.getLsbD_and, BitVec.getLsbD_xor, BitVec.getLsbD_allOnes, BitVec.getLsbD_shiftLeft, BitVec.getLsbD_one]
      simp [hm]
    · have hne : m % 64 ≠ n % 64 := fun q => hmn (by omega)
      rw [decide_eq_false hmn, hw]
      simp only [BitVec.getLsbD_and, BitVec.getLsbD_xor, BitVec.getLsbD_allOnes, BitVec.getLsbD_shiftLeft, BitVec.getLsbD_one]
      have : (!decide (m % 64 < n % 64) && (decide (0 < 64) && decide (m % 64 - n % 64 = 0))) = false := by
        by_cases hlt : m % 64 < n % 64
        · simp [hlt]
        · simp [show ¬ (m % 64 - n % 64 = 0) by omega]
      rw [Bool.and_assoc (decide (m % 64 < 64)), this]
      simp [hm]
  · have hmn : ¬ m = n := fun q => hw (by rw [q])
    rw [if_neg hw]
    simp [hmn]
-- word by word: a function of the bits at each place
theorem bS_map2 (g1 g2 g : Nat → BitVec 64) (f : Bool → Bool → Bool) (hf : f false false = false) (h : ∀ w, w < 7 → ∀ i, i < 64 → (g w).getLsbD i = f ((g1 w).getLsbD i) ((g2 w).getLsbD i)) (n : Nat) : bS g n = f (bS g1 n) (bS g2 n) := by
  unfold bS
  by_cases hn : n < 448
  · rw [decide_eq_true hn]
    simp only [Bool.true_and]
    exact h _ (by omega) _ (Nat.mod_lt _ (by decide))
  · rw [decide_eq_false hn]
    simp [hf]
theorem b_cnt_congr {f g : Nat → Bool} : ∀ {n : Nat}, (∀ i, i < n → f i = g i) → b_cnt n f = b_cnt n g := by
  intro n
  induction n with
  | zero => intro _; rfl
  | succ n ih =>
    intro h
    simp only [b_cnt]
    rw [ih fun i hi => h i (by omega), h n (by omega)]
theorem bS_cnt (g : Nat → BitVec 64) {w : Nat} (hw : w < 7) : b_cnt (64 * (w + 1)) (bS g) = b_cnt (64 * w) (bS g) + a_popN (g w) 64 := by
  have key : ∀ k, k ≤ 64 → b_cnt (64 * w + k) (bS g) = b_cnt (64 * w) (bS g) + a_popN (g w) k := by
    intro k
    induction k with
    | zero => intro _; rfl
    | succ k ih =>
      intro hk
      rw [← Nat.add_assoc]
      simp only [b_cnt, a_popN]
      rw [ih (by omega)]
      have : bS g (64 * w + k) = (g w).getLsbD k := by
        unfold bS
        rw [decide_eq_true (show 64 * w + k < 448 by omega), show (64 * w + k) / 64 = w by omega, show (64 * w + k) % 64 = k by omega]
        rfl
      rw [this]
      omega
  rw [Nat.mul_succ]
  exact key 64 (Nat.le_refl _)
