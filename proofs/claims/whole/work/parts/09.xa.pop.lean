-- numbers packed into lanes of w bits; the bits of a long counted as the JDK counts them
def pk_l (w : Nat) (f : Nat → Nat) : Nat → Nat
  | 0 => 0
  | m + 1 => 2 ^ (w * m) * f m + pk_l w f m
theorem pk_l_lt {w : Nat} {f : Nat → Nat} (h : ∀ i, f i < 2 ^ w) (m : Nat) : pk_l w f m < 2 ^ (w * m) := by
  induction m with
  | zero => simp [pk_l]
  | succ m ih =>
    simp only [pk_l]
    have h1 : 2 ^ (w * m) * f m + 2 ^ (w * m) ≤ 2 ^ (w * m) * 2 ^ w := by
      rw [← Nat.mul_succ]
      exact Nat.mul_le_mul_left _ (h m)
    rw [Nat.mul_succ, Nat.pow_add]
    omega
theorem pk_l_add {w : Nat} {f g : Nat → Nat} (m : Nat) : pk_l w f m + pk_l w g m = pk_l w (fun i => f i + g i) m := by
  induction m with
  | zero => rfl
  | succ m ih =>
    simp only [pk_l, ← ih, Nat.mul_add]
    omega
theorem pk_l_congr {w : Nat} {f g : Nat → Nat} {m : Nat} (h : ∀ i, i < m → f i = g i) : pk_l w f m = pk_l w g m := by
  induction m with
  | zero => rfl
  | succ m ih =>
    simp only [pk_l]
    rw [h m (by omega), ih fun i hi => h i (by omega)]
theorem pk_l_and {w : Nat} {f g : Nat → Nat} (hf : ∀ i, f i < 2 ^ w) (hg : ∀ i, g i < 2 ^ w) (m : Nat) : pk_l w f m &&& pk_l w g m = pk_l w (fun i => f i &&& g i) m := by
  induction m with
  | zero => simp [pk_l]
  | succ m ih =>
    simp only [pk_l]
    rw [← ih]
    apply Nat.eq_of_testBit_eq
    intro j
    have ha : pk_l w f m &&& pk_l w g m < 2 ^ (w * m) := Nat.lt_of_le_of_lt Nat.and_le_left (pk_l_lt hf m)
    rw [Nat.testBit_and, Nat.testBit_two_pow_mul_add _ (pk_l_lt hf m), Nat.testBit_two_pow_mul_add _ (pk_l_lt hg m), Nat.testBit_two_pow_mul_add _ ha]
    split <;> simp
theorem pk_l_div {w k : Nat} {f : Nat → Nat} (h : ∀ i, f i < 2 ^ w) (m : Nat) : pk_l w f (m + k) / 2 ^ (w * k) = pk_l w (fun i => f (i + k)) m := by
  induction m with
  | zero =>
    rw [Nat.zero_add]
    exact Nat.div_eq_of_lt (pk_l_lt h k)
  | succ m ih =>
    rw [show m + 1 + k = m + k + 1 by omega]
    simp only [pk_l]
    rw [← ih, Nat.mul_add, Nat.pow_add, Nat.mul_comm (2 ^ (w * m)) (2 ^ (w * k)), Nat.mul_assoc, Nat.add_comm, Nat.add_mul_div_left _ _ (Nat.two_pow_pos _), Nat.add_comm]
theorem pk_l_pad {w : Nat} {f : Nat → Nat} {m : Nat} (h : ∀ i, m ≤ i → f i = 0) (k : Nat) : pk_l w f (m + k) = pk_l w f m := by
  induction k with
  | zero => rfl
  | succ k ih =>
    rw [← Nat.add_assoc]
    simp only [pk_l]
    rw [h (m + k) (by omega), ih]
    omega
theorem pk_l_pair {w : Nat} {f : Nat → Nat} (m : Nat) : pk_l w f (2 * m) = pk_l (2 * w) (fun j => f (2 * j) + 2 ^ w * f (2 * j + 1)) m := by
  induction m with
  | zero => rfl
  | succ m ih =>
    rw [show 2 * (m + 1) = 2 * m + 1 + 1 by omega]
    simp only [pk_l]
    rw [ih, Nat.mul_add (2 ^ (2 * w * m)), show w * (2 * m + 1) = 2 * w * m + w by rw [Nat.mul_add, Nat.mul_one, ← Nat.mul_assoc, Nat.mul_comm w 2], Nat.pow_add, show w * (2 * m) = 2 * w * m by rw [← Nat.mul_assoc, Nat.mul_comm w 2], Nat.mul_assoc]
    omega
theorem pk_l_mod {w : Nat} {f : Nat → Nat} (m : Nat) : pk_l w f (m + 1) % 2 ^ w = f 0 % 2 ^ w := by
  induction m with
  | zero => simp [pk_l]
  | succ m ih =>
    rw [show m + 1 + 1 = (m + 1) + 1 by rfl]
    simp only [pk_l] at ih ⊢
    rw [show w * (m + 1) = w + w * m by rw [Nat.mul_succ, Nat.add_comm], Nat.pow_add, Nat.mul_assoc, Nat.mul_add_mod]
    exact ih
-- the even lanes
theorem pk_l_even {w : Nat} {f : Nat → Nat} (h : ∀ i, f i < 2 ^ w) (m : Nat) : pk_l w f (2 * m) &&& pk_l w (fun i => if i % 2 = 0 then 2 ^ w - 1 else 0) (2 * m) = pk_l (2 * w) (fun j => f (2 * j)) m := by
  have hp : 0 < 2 ^ w := Nat.two_pow_pos w
  rw [pk_l_and h (fun i => by split <;> omega), pk_l_pair]
  apply pk_l_congr
  intro i _
  rw [if_pos (by omega), if_neg (by omega), Nat.and_two_pow_sub_one_eq_mod, Nat.mod_eq_of_lt (h _)]
  simp
set_option maxRecDepth 10000 in
theorem pop_nat (b : Nat → Nat) (hb : ∀ i, b i ≤ 1) (hz : ∀ i, 64 ≤ i → b i = 0) :
    let x := pk_l 1 b 64
    let i1 := x - (x / 2 ^ 1 &&& 0x5555555555555555)
    let i2 := (i1 &&& 0x3333333333333333) + (i1 / 2 ^ 2 &&& 0x3333333333333333)
    let i3 := (i2 + i2 / 2 ^ 4) &&& 0x0f0f0f0f0f0f0f0f
    let i4 := i3 + i3 / 2 ^ 8
    let i5 := i4 + i4 / 2 ^ 16
    let i6 := i5 + i5 / 2 ^ 32
    (x / 2 ^ 1 &&& 0x5555555555555555) ≤ x ∧ x < 2 ^ 64 ∧ i2 < 2 ^ 64 ∧ i2 + i2 / 2 ^ 4 < 2 ^ 64 ∧ i4 < 2 ^ 64 ∧ i5 < 2 ^ 64 ∧ i6 < 2 ^ 64 ∧ i6 % 128 = pk_l 0 b 64 := by
  have m1 : (0x5555555555555555 : Nat) = pk_l 1 (fun i => if i % 2 = 0 then 2 ^ 1 - 1 else 0) (2 * 32) := by decide
  have m2 : (0x3333333333333333 : Nat) = pk_l 2 (fun i => if i % 2 = 0 then 2 ^ 2 - 1 else 0) (2 * 16) := by decide
  have m3 : (0x0f0f0f0f0f0f0f0f : Nat) = pk_l 4 (fun i => if i % 2 = 0 then 2 ^ 4 - 1 else 0) (2 * 8) := by decide
  intro x i1 i2 i3 i4 i5 i6
  -- the first: pairs
  have hb2 : ∀ i, b i < 2 ^ 1 := fun i => by have := hb i; omega
  have hx1 : x / 2 ^ 1 = pk_l 1 (fun i => b (i + 1)) (2 * 32) := by
    have := pk_l_div (w := 1) (k := 1) hb2 64
    rw [pk_l_pad hz 1] at this
    exact this
  have ho : x / 2 ^ 1 &&& 0x5555555555555555 = pk_l 2 (fun j => b (2 * j + 1)) 32 := by
    rw [hx1, m1, pk_l_even (fun i => hb2 (i + 1))]
  have hx : x = pk_l 2 (fun j => b (2 * j)) 32 + (pk_l 2 (fun j => b (2 * j + 1)) 32 + pk_l 2 (fun j => b (2 * j + 1)) 32) := by
    show pk_l 1 b (2 * 32) = _
    rw [pk_l_pair, pk_l_add, pk_l_add]
    apply pk_l_congr
    intro i _
    omega
  have e1 : i1 = pk_l 2 (fun j => b (2 * j) + b (2 * j + 1)) 32 := by
    show x - (x / 2 ^ 1 &&& 0x5555555555555555) = _
    rw [ho, ← pk_l_add]
    omega
  have c1 : (x / 2 ^ 1 &&& 0x5555555555555555) ≤ x := by rw [ho]; omega
  generalize hf1 : (fun j => b (2 * j) + b (2 * j + 1)) = f1 at e1
  have b1 : ∀ i, f1 i ≤ 2 := fun i => by rw [← hf1]; have := hb (2 * i); have := hb (2 * i + 1); show b (2 * i) + b (2 * i + 1) ≤ 2; omega
  have z1 : ∀ i, 32 ≤ i → f1 i = 0 := fun i hi => by rw [← hf1]; show b (2 * i) + b (2 * i + 1) = 0; rw [hz _ (by omega), hz _ (by omega)]
  have b12 : ∀ i, f1 i < 2 ^ 2 := fun i => by have := b1 i; omega
  have hx2 : i1 / 2 ^ 2 = pk_l 2 (fun i => f1 (i + 1)) (2 * 16) := by
    have := pk_l_div (w := 2) (k := 1) b12 32
    rw [pk_l_pad z1 1, ← e1] at this
    exact this
  have e2 : i2 = pk_l 4 (fun j => f1 (2 * j) + f1 (2 * j + 1)) 16 := by
    show (i1 &&& 0x3333333333333333) + (i1 / 2 ^ 2 &&& 0x3333333333333333) = _
    rw [hx2, e1, m2, show (32 : Nat) = 2 * 16 by rfl, pk_l_even b12, pk_l_even (fun i => b12 (i + 1)), pk_l_add]
  generalize hf2 : (fun j => f1 (2 * j) + f1 (2 * j + 1)) = f2 at e2
  have b2 : ∀ i, f2 i ≤ 4 := fun i => by rw [← hf2]; have := b1 (2 * i); have := b1 (2 * i + 1); show f1 (2 * i) + f1 (2 * i + 1) ≤ 4; omega
  have z2 : ∀ i, 16 ≤ i → f2 i = 0 := fun i hi => by rw [← hf2]; show f1 (2 * i) + f1 (2 * i + 1) = 0; rw [z1 _ (by omega), z1 _ (by omega)]
  have hx3 : i2 / 2 ^ 4 = pk_l 4 (fun i => f2 (i + 1)) 16 := by
    have := pk_l_div (w := 4) (k := 1) (fun i => by have := b2 i; omega : ∀ i, f2 i < 2 ^ 4) 16
    rw [pk_l_pad z2 1, ← e2] at this
    exact this
  have b2s : ∀ i, f2 i + f2 (i + 1) < 2 ^ 4 := fun i => by have := b2 i; have := b2 (i + 1); omega
  have e3a : i2 + i2 / 2 ^ 4 = pk_l 4 (fun i => f2 i + f2 (i + 1)) (2 * 8) := by
    rw [hx3, e2, pk_l_add]
  have e3 : i3 = pk_l 8 (fun j => f2 (2 * j) + f2 (2 * j + 1)) 8 := by
    show (i2 + i2 / 2 ^ 4) &&& 0x0f0f0f0f0f0f0f0f = _
    rw [e3a, m3, pk_l_even b2s]
  generalize hf3 : (fun j => f2 (2 * j) + f2 (2 * j + 1)) = f3 at e3
  have b3 : ∀ i, f3 i ≤ 8 := fun i => by rw [← hf3]; have := b2 (2 * i); have := b2 (2 * i + 1); show f2 (2 * i) + f2 (2 * i + 1) ≤ 8; omega
  have z3 : ∀ i, 8 ≤ i → f3 i = 0 := fun i hi => by rw [← hf3]; show f2 (2 * i) + f2 (2 * i + 1) = 0; rw [z2 _ (by omega), z2 _ (by omega)]
  have e4 : i4 = pk_l 8 (fun i => f3 i + f3 (i + 1)) 8 := by
    show i3 + i3 / 2 ^ 8 = _
    have := pk_l_div (w := 8) (k := 1) (fun i => by have := b3 i; omega : ∀ i, f3 i < 2 ^ 8) 8
    rw [pk_l_pad z3 1, ← e3] at this
    rw [this, e3, pk_l_add]
  generalize hf4 : (fun i => f3 i + f3 (i + 1)) = f4 at e4
  have b4 : ∀ i, f4 i ≤ 16 := fun i => by rw [← hf4]; have := b3 i; have := b3 (i + 1); show f3 i + f3 (i + 1) ≤ 16; omega
  have z4 : ∀ i, 8 ≤ i → f4 i = 0 := fun i hi => by rw [← hf4]; show f3 i + f3 (i + 1) = 0; rw [z3 _ (by omega), z3 _ (by omega)]
  have e5 : i5 = pk_l 8 (fun i => f4 i + f4 (i + 2)) 8 := by
    show i4 + i4 / 2 ^ 16 = _
    have := pk_l_div (w := 8) (k := 2) (fun i => by have := b4 i; omega : ∀ i, f4 i < 2 ^ 8) 8
    rw [pk_l_pad z4 2, ← e4] at this
    rw [this, e4, pk_l_add]
  generalize hf5 : (fun i => f4 i + f4 (i + 2)) = f5 at e5
  have b5 : ∀ i, f5 i ≤ 32 := fun i => by rw [← hf5]; have := b4 i; have := b4 (i + 2); show f4 i + f4 (i + 2) ≤ 32; omega
  have z5 : ∀ i, 8 ≤ i → f5 i = 0 := fun i hi => by rw [← hf5]; show f4 i + f4 (i + 2) = 0; rw [z4 _ (by omega), z4 _ (by omega)]
  have e6 : i6 = pk_l 8 (fun i => f5 i + f5 (i + 4)) 8 := by
    show i5 + i5 / 2 ^ 32 = _
    have := pk_l_div (w := 8) (k := 4) (fun i => by have := b5 i; omega : ∀ i, f5 i < 2 ^ 8) 8
    rw [pk_l_pad z5 4, ← e5] at this
    rw [this, e5, pk_l_add]
  have hm : i6 % 256 = f5 0 + f5 4 := by
    have := pk_l_mod (w := 8) (f := fun i => f5 i + f5 (i + 4)) 7
    rw [← e6] at this
    rw [show (256 : Nat) = 2 ^ 8 by rfl, this]
    have := b5 0; have := b5 4
    exact Nat.mod_eq_of_lt (by show f5 0 + f5 4 < 2 ^ 8; omega)
  refine ⟨c1, pk_l_lt hb2 64, ?_, ?_, ?_, ?_, ?_, ?_⟩
  · rw [e2]; exact pk_l_lt (w := 4) (fun i => by have := b2 i; omega) 16
  · rw [e3a]; exact pk_l_lt (w := 4) b2s 16
  · rw [e4]; exact pk_l_lt (w := 8) (fun i => by have := b4 i; omega) 8
  · rw [e5]; exact pk_l_lt (w := 8) (fun i => by have := b5 i; omega) 8
  · rw [e6]; exact pk_l_lt (w := 8) (fun i => by have := b5 i; have := b5 (i + 4); show f5 i + f5 (i + 4) < 2 ^ 8; omega) 8
  · have h7 : i6 % 128 = f5 0 + f5 4 := by
      have := b5 0; have := b5 4
      have h64 : f5 0 + f5 4 ≤ 64 := by omega
      omega
    rw [h7]
    subst hf5 hf4 hf3 hf2 hf1
    simp only [pk_l, Nat.zero_mul, Nat.pow_zero, Nat.one_mul, Nat.reduceMul, Nat.reduceAdd, Nat.mul_zero, Nat.zero_add]
    omega
