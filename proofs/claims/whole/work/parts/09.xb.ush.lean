-- sets of numbers in seven longs
theorem sh_amt : ∀ k : Fin 64, (((Int32.ofInt (k.val : Int)).toInt64 &&& 63).toBitVec.smod 64).toNat = k.val := by decide +kernel
theorem ush_amt : ∀ k : Fin 64, (UInt64.mod ((Int32.ofInt (k.val : Int)).toInt64.toUInt64 &&& Int64.toUInt64 63) 64).toBitVec.toNat = k.val := by decide +kernel
theorem a_shl_eq (x : BitVec 64) {k : Nat} (h : k < 64) : a_shl x k = x <<< k := by
  show x <<< (((Int32.ofInt (k : Int)).toInt64 &&& 63).toBitVec.smod 64) = _
  rw [BitVec.shiftLeft_eq', sh_amt ⟨k, h⟩]
theorem a_ushr_eq (x : BitVec 64) {k : Nat} (h : k < 64) : a_ushr x k = x >>> k := by
  show x >>> (UInt64.mod ((Int32.ofInt (k : Int)).toInt64.toUInt64 &&& Int64.toUInt64 63) 64).toBitVec = _
  rw [BitVec.ushiftRight_eq', ush_amt ⟨k, h⟩]
