-- A pure machine over cells. Values: an int (a whole number, read modulo 2^32), a long (64 bits), a reference or none.
abbrev AV : Type := Int ⊕ (BitVec 64 ⊕ Option Nat)
-- what an array holds
abbrev AC : Type := (Nat → Int) ⊕ ((Nat → BitVec 64) ⊕ (Nat → Option Nat))
-- a cell: an array (number of its type, length, contents), or an object (number of its class, fields)
abbrev AE : Type := (Nat × Nat × AC) ⊕ (Nat × List AV)
-- a heap: how many cells, how many slots were made, the cells by their addresses
abbrev AH : Type := Nat × Nat × (Nat → Option AE)
-- the locals, place by place
abbrev AL : Type := List (Option AV)
-- an instruction: its number, a constant, two numbers, where it goes on, a table
abbrev AI : Type := Nat × Int × Nat × Nat × Nat × List (Int × Nat)
abbrev AT : Type := List (Nat × AI)
-- one instruction: goes on (pc, locals, stack, heap); or calls (method, arguments with the locals behind them, then pc, stack); or ends
abbrev AO : Type := (Nat × AL × List AV × AH) ⊕ ((Nat × List AV × Nat × Nat × List AV) ⊕ Option AV)

def aI (x : Int) : AV := .inl x
def aR (r : Option Nat) : AV := .inr (.inr r)

-- the int that a whole number stands for
def w32 (x : Int) : Int := (x + 2147483648) % 4294967296 - 2147483648
theorem w32_ofInt (x : Int) : (Int32.ofInt x).toInt = w32 x := by
  rw [Int32.toInt_ofInt, Int.bmod_def]
  simp only [w32, Int32.size]
  omega
theorem w32_id {x : Int} (h : -2147483648 ≤ x) (h2 : x < 2147483648) : w32 x = x := by
  simp only [w32]; omega
theorem w32_lo (x : Int) : -2147483648 ≤ w32 x := by simp only [w32]; omega
theorem w32_hi (x : Int) : w32 x < 2147483648 := by simp only [w32]; omega
theorem w32_same (x : Int) : Int32.ofInt (w32 x) = Int32.ofInt x := by
  rw [← w32_ofInt]; exact Int32.ofInt_toInt _
theorem w32_eq {x y : Int} : Int32.ofInt x = Int32.ofInt y ↔ w32 x = w32 y := by
  rw [← w32_ofInt, ← w32_ofInt]; exact Int32.toInt_inj.symm
theorem w32_lt {x y : Int} : Int32.ofInt x < Int32.ofInt y ↔ w32 x < w32 y := by
  rw [← w32_ofInt, ← w32_ofInt]; exact Int32.lt_iff_toInt_lt
theorem w32_le {x y : Int} : Int32.ofInt x ≤ Int32.ofInt y ↔ w32 x ≤ w32 y := by
  rw [← w32_ofInt, ← w32_ofInt]; exact Int32.le_iff_toInt_le
theorem w32_0 {x : Int} : Int32.ofInt x = 0 ↔ w32 x = 0 := by
  rw [← w32_ofInt]
  exact ⟨fun h => by rw [h]; rfl, fun h => Int32.toInt_inj.1 (by rw [h]; rfl)⟩
theorem w32_clamp (x : Int) : (Int32.ofInt x).toNatClampNeg = (w32 x).toNat := by
  rw [← w32_ofInt]; rfl
theorem w32_neg {x : Int} : Int32.ofInt x < 0 ↔ w32 x < 0 := by
  rw [← w32_ofInt]
  exact Int32.lt_iff_toInt_lt
theorem w32_div (x y : Int) : Int32.ofInt x / Int32.ofInt y = Int32.ofInt (Int.tdiv (w32 x) (w32 y)) := by
  apply Int32.toInt_inj.1
  rw [Int32.toInt_div, w32_ofInt, w32_ofInt, Int32.toInt_ofInt]
theorem w32_rem (x y : Int) : Int32.ofInt x - Int32.ofInt x / Int32.ofInt y * Int32.ofInt y = Int32.ofInt (Int.tmod (w32 x) (w32 y)) := by
  rw [w32_div, ← w32_same x, ← w32_same y, ← Int32.ofInt_mul, ← Int32.ofInt_sub, Int.tmod_def, Int.mul_comm (w32 y)]
theorem w32_in {x : Int} {n : Nat} : vp_in (Int32.ofInt x) n ↔ 0 ≤ w32 x ∧ w32 x < n := by
  rw [vp_in, w32_clamp, w32_neg]; omega
-- bits of an int by a mask
def a_and (x y : Int) : Int := (Int32.ofInt x &&& Int32.ofInt y).toInt
theorem a_and_ofInt (x y : Int) : Int32.ofInt (a_and x y) = Int32.ofInt x &&& Int32.ofInt y := Int32.ofInt_toInt _
-- shifts of longs; the amount is an int
def a_shl (x : BitVec 64) (y : Int) : BitVec 64 := (Int64.ofBitVec x <<< ((Int32.ofInt y).toInt64 &&& 63)).toBitVec
def a_ushr (x : BitVec 64) (y : Int) : BitVec 64 := ((Int64.ofBitVec x).toUInt64 >>> ((Int32.ofInt y).toInt64.toUInt64 &&& Int64.toUInt64 63)).toInt64.toBitVec
def a_lcmp (x y : BitVec 64) : Int := (lg_cmp (Int64.ofBitVec x) (Int64.ofBitVec y)).toInt

def av_two : AV → Bool
  | .inr (.inl _) => true
  | _ => false
def av_V : AV → Value
  | .inl x => .int (Int32.ofInt x)
  | .inr (.inl x) => .long (Int64.ofBitVec x)
  | .inr (.inr r) => va_rf r
def av_sum : List AV → Nat
  | [] => 0
  | v :: r => (bif av_two v then 2 else 1) + av_sum r
theorem av_cat (v : AV) : (av_V v).category = (bif av_two v then 2 else 1) := by
  rcases v with x | x | (_ | x) <;> rfl
theorem av_sum_eq (l : List AV) : ((l.map av_V).map fun v => v.category).sum = av_sum l := by
  induction l with
  | nil => rfl
  | cons v r ih =>
    simp only [List.map_cons, List.sum_cons, av_sum, av_cat]
    rw [← ih]
-- the locals as the kit has them: those that are set (no long is kept in a local)
def al_V : Nat → AL → List (Nat × Value)
  | _, [] => []
  | i, some v :: r => bif av_two v then al_V (i + 1) r else (i, av_V v) :: al_V (i + 1) r
  | i, none :: r => al_V (i + 1) r
theorem al_V_mem {q : Nat × Value} : ∀ {l : AL} {i : Nat}, q ∈ al_V i l ↔ ∃ (j : Nat) (v : AV), l[j]? = some (some v) ∧ av_two v = false ∧ q = (i + j, av_V v) := by
  intro l
  induction l with
  | nil => intro i; simp [al_V]
  | cons x r ih =>
    intro i
    have hs : (∃ (j : Nat) (v : AV), (x :: r)[j]? = some (some v) ∧ av_two v = false ∧ q = (i + j, av_V v)) ↔ (∃ v, x = some v ∧ av_two v = false ∧ q = (i, av_V v)) ∨ ∃ (j : Nat) (v : AV), r[j]? = some (some v) ∧ av_two v = false ∧ q = (i + 1 + j, av_V v) := by
      constructor
      · rintro ⟨j, v, h1, h2, h3⟩
        cases j with
        | zero => left; exact ⟨v, by simpa using h1, h2, h3⟩
        | succ j => right; exact ⟨j, v, by simpa using h1, h2, by rw [h3]; congr 1; omega⟩
      · rintro (⟨v, h1, h2, h3⟩ | ⟨j, v, h1, h2, h3⟩)
        · exact ⟨0, v, by simp [h1], h2, h3⟩
        · exact ⟨j + 1, v, by simpa using h1, h2, by rw [h3]; congr 1; omega⟩
    rw [hs, ← ih]
    cases x with
    | none => simp [al_V]
    | some v =>
      cases hv : av_two v with
      | true => simp [al_V, hv]
      | false => simp [al_V, hv]
def ah_put (h : AH) (a : Nat) (e : AE) : AH := (h.1, h.2.1, va_up h.2.2 a (some e))
def ah_new (h : AH) (k : Nat) (e : AE) : AH := (h.1 + 1, h.2.1 + k, va_up h.2.2 h.1 (some e))
-- how many bits are set
def a_popN (x : BitVec 64) : Nat → Nat
  | 0 => 0
  | n + 1 => a_popN x n + (bif x.getLsbD n then 1 else 0)
def a_pop (x : BitVec 64) : Int := (a_popN x 64 : Nat)
