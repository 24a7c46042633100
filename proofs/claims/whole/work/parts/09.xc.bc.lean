-- Long.bitCount, walked by hand
def dl_bc : List (Nat × Instr × Nat) := [(0, .lload_n 0, 1), (1, .lload_n 0, 1), (2, .iconst 1, 1), (3, .lushr, 1), (4, .ldc2_w 314, 3), (7, .land, 1), (8, .lsub, 1), (9, .lstore_n 0, 1), (10, .lload_n 0, 1), (11, .ldc2_w 316, 3), (14, .land, 1), (15, .lload_n 0, 1), (16, .iconst 2, 1), (17, .lushr, 1), (18, .ldc2_w 316, 3), (21, .land, 1), (22, .ladd, 1), (23, .lstore_n 0, 1), (24, .lload_n 0, 1), (25, .lload_n 0, 1), (26, .iconst 4, 1), (27, .lushr, 1), (28, .ladd, 1), (29, .ldc2_w 318, 3), (32, .land, 1), (33, .lstore_n 0, 1), (34, .lload_n 0, 1), (35, .lload_n 0, 1), (36, .bipush 8, 2), (38, .lushr, 1), (39, .ladd, 1), (40, .lstore_n 0, 1), (41, .lload_n 0, 1), (42, .lload_n 0, 1), (43, .bipush 16, 2), (45, .lushr, 1), (46, .ladd, 1), (47, .lstore_n 0, 1), (48, .lload_n 0, 1), (49, .lload_n 0, 1), (50, .bipush 32, 2), (52, .lushr, 1), (53, .ladd, 1), (54, .lstore_n 0, 1), (55, .lload_n 0, 1), (56, .l2i, 1), (57, .bipush 127, 2), (59, .iand, 1), (60, .ireturn, 1)]
theorem dk_bc : (dl_bc.all fun q => decide (decode prog_11_method_50_code q.1 = .ok (q.2.1, q.2.2))) = true := by decide +kernel
def ybc : AM := (⟨"java/lang/Long", "bitCount", "(J)I"⟩, prog_11_method_50_code, 2, some .int, 0, 0)
def px1 (x : BitVec 64) : BitVec 64 := x - ((x >>> 1) &&& 0x5555555555555555#64)
def px2 (x : BitVec 64) : BitVec 64 := (px1 x &&& 0x3333333333333333#64) + ((px1 x >>> 2) &&& 0x3333333333333333#64)
def px3 (x : BitVec 64) : BitVec 64 := (px2 x + (px2 x >>> 4)) &&& 0x0f0f0f0f0f0f0f0f#64
def px4 (x : BitVec 64) : BitVec 64 := px3 x + (px3 x >>> 8)
def px5 (x : BitVec 64) : BitVec 64 := px4 x + (px4 x >>> 16)
def px6 (x : BitVec 64) : BitVec 64 := px5 x + (px5 x >>> 32)
theorem bits_pk (x : BitVec 64) : ∀ n, n ≤ 64 → pk_l 1 (fun i => (x.getLsbD i).toNat) n = x.toNat % 2 ^ n := by
  intro n
  induction n with
  | zero => intro _; simp [pk_l, Nat.mod_one]
  | succ n ih =>
    intro hn
    simp only [pk_l]
    rw [ih (by omega), Nat.one_mul, Nat.mod_pow_succ]
    have : (x.getLsbD n).toNat = x.toNat / 2 ^ n % 2 := by
      rw [BitVec.getLsbD, Nat.testBit_eq_decide_div_mod_eq]
      rcases Nat.mod_two_eq_zero_or_one (x.toNat / 2 ^ n) with h | h <;> simp [h]
    rw [this]
    omega
theorem bits_cnt (x : BitVec 64) : ∀ n, pk_l 0 (fun i => (x.getLsbD i).toNat) n = a_popN x n := by
  intro n
  induction n with
  | zero => rfl
  | succ n ih =>
    simp only [pk_l, a_popN, Nat.zero_mul, Nat.pow_zero, Nat.one_mul]
    rw [ih]
    cases x.getLsbD n <;> simp <;> omega
theorem pop_bv (x : BitVec 64) : (px6 x).toNat % 128 = a_popN x 64 := by
  have h := pop_nat (fun i => (x.getLsbD i).toNat) (fun i => by cases x.getLsbD i <;> decide) (fun i hi => by rw [BitVec.getLsbD_of_ge _ _ hi]; rfl)
  have hx : pk_l 1 (fun i => (x.getLsbD i).toNat) 64 = x.toNat := by
    rw [bits_pk x 64 (Nat.le_refl _)]
    exact Nat.mod_eq_of_lt x.isLt
  simp only [hx] at h
  obtain ⟨c1, c2, c3, c4, c5, c6, c7, c8⟩ := h
  have e1 : (px1 x).toNat = x.toNat - (x.toNat / 2 ^ 1 &&& 0x5555555555555555) := by
    unfold px1
    rw [BitVec.toNat_sub_of_le]
    · simp [BitVec.toNat_and, Nat.shiftRight_eq_div_pow]
    · rw [BitVec.le_def]
      simpa [BitVec.toNat_and, Nat.shiftRight_eq_div_pow] using c1
  have e2 : (px2 x).toNat = ((px1 x).toNat &&& 0x3333333333333333) + ((px1 x).toNat / 2 ^ 2 &&& 0x3333333333333333) := by
    unfold px2
    rw [BitVec.toNat_add_of_lt]
    · simp [BitVec.toNat_and, Nat.shiftRight_eq_div_pow]
    · simp only [BitVec.toNat_and, BitVec.toNat_ushiftRight, Nat.shiftRight_eq_div_pow, e1]
      exact c3
  have e3 : (px3 x).toNat = ((px2 x).toNat + (px2 x).toNat / 2 ^ 4) &&& 0x0f0f0f0f0f0f0f0f := by
    unfold px3
    rw [BitVec.toNat_and, BitVec.toNat_add_of_lt]
    · simp [Nat.shiftRight_eq_div_pow]
    · simp only [BitVec.toNat_ushiftRight, Nat.shiftRight_eq_div_pow, e2, e1]
      exact c4
  have e4 : (px4 x).toNat = (px3 x).toNat + (px3 x).toNat / 2 ^ 8 := by
    unfold px4
    rw [BitVec.toNat_add_of_lt]
    · simp [Nat.shiftRight_eq_div_pow]
    · simp only [BitVec.toNat_ushiftRight, Nat.shiftRight_eq_div_pow, e3, e2, e1]
      exact c5
  have e5 : (px5 x).toNat = (px4 x).toNat + (px4 x).toNat / 2 ^ 16 := by
    unfold px5
    rw [BitVec.toNat_add_of_lt]
    · simp [Nat.shiftRight_eq_div_pow]
    · simp only [BitVec.toNat_ushiftRight, Nat.shiftRight_eq_div_pow, e4, e3, e2, e1]
      exact c6
  have e6 : (px6 x).toNat = (px5 x).toNat + (px5 x).toNat / 2 ^ 32 := by
    unfold px6
    rw [BitVec.toNat_add_of_lt]
    · simp [Nat.shiftRight_eq_div_pow]
    · simp only [BitVec.toNat_ushiftRight, Nat.shiftRight_eq_div_pow, e5, e4, e3, e2, e1]
      exact c7
  rw [e6, e5, e4, e3, e2, e1]
  rw [bits_cnt] at c8
  exact c8
theorem pop_le (x : BitVec 64) : ∀ n, a_popN x n ≤ n := by
  intro n
  induction n with
  | zero => exact Nat.le_refl _
  | succ n ih =>
    simp only [a_popN]
    cases x.getLsbD n <;> simp <;> omega
theorem pop_int (x : BitVec 64) : (Int64.ofBitVec (px6 x)).toInt32 &&& 127 = Int32.ofInt (a_pop x) := by
  apply Int32.toBitVec.inj
  show (BitVec.signExtend 32 (px6 x)) &&& 127#32 = BitVec.ofInt 32 (a_pop x)
  apply BitVec.eq_of_toNat_eq
  have hp := pop_le x 64
  have h1 : (BitVec.ofInt 32 (a_pop x)).toNat = a_popN x 64 := by
    unfold a_pop
    rw [BitVec.ofInt_natCast, BitVec.toNat_ofNat]
    exact Nat.mod_eq_of_lt (by omega)
  rw [h1, BitVec.toNat_and, show (127#32).toNat = 2 ^ 7 - 1 by rfl, Nat.and_two_pow_sub_one_eq_mod, BitVec.signExtend_eq_setWidth_of_le _ (by decide), BitVec.toNat_setWidth, ← pop_bv x]
  exact Nat.mod_mod_of_dvd _ (by decide)
theorem ush_row (x : BitVec 64) (n : Int32) {k : Nat} (h : k < 64) (hn : n = Int32.ofInt (k : Int)) : ((Int64.ofBitVec x).toUInt64 >>> (n.toInt64.toUInt64 &&& Int64.toUInt64 63)).toInt64 = Int64.ofBitVec (x >>> k) := by
  subst hn
  exact congrArg Int64.ofBitVec (a_ushr_eq x h)
set_option maxHeartbeats 1000000 in
theorem met_bc (l : Launch) (D : va_G) (dA : Nat → ClassId) (base : Nat) (x : BitVec 64) (h : AH) : am_Met gG l ybc D dA base [.inr (.inl x)] h (some (.inl (a_pop x))) h := by
  unfold am_Met
  rw [Nat.sub_self, Nat.sub_self]
  refine Met.ofW (cc := prog_11_method_50_code) (maxL := 2) (ret := some .int) (by decide) rfl ?_
  intro p e s m args below meth c s₁ B hml hv
  obtain ⟨rfl, hRep, hK, hAO⟩ := hv
  have hx := B.exec
  have hb := B.bytes
  have hr := B.returns
  have hts := atoms_spec (ws := am_ws gG ybc) B.pre
  have hown : s.vm.findClass "java/lang/Long" = some m.cls := findClass_of_methodNamed B.named
  have hlocks := B.notSynchronized
  have hl := lv_entry ([.long (Int64.ofBitVec x)]) (n := 2) (Nat.le_of_ble_eq_true rfl)
  show W p l e _ s m ([.long (Int64.ofBitVec x)] : List Value).toArray below meth c s.heap [] 0 0 _ (entryFrame m ([.long (Int64.ofBitVec x)] : List Value).toArray 2)
  rw [lg_entry_eq]
  generalize (lg_sl ([.long (Int64.ofBitVec x)]) ++ List.replicate (2 - (lg_sl ([.long (Int64.ofBitVec x)])).length) Slot.unset).toArray = ls at hl ⊢
  have hl : lv_has ls 2 [(0, .long (Int64.ofBitVec x))] := hl
  refine lv_lload_n hx hb (da dk_bc (k := 0) rfl) rfl (lv_at hl 0 rfl) ?_
  refine lv_lload_n hx hb (da dk_bc (k := 1) rfl) rfl (lv_at hl 0 rfl) ?_
  refine lv_iconst (v := Int32.ofInt 1) hx hb (da dk_bc (k := 2) rfl) rfl ?_
  refine lv_lushr hx hb (da dk_bc (k := 3) rfl) (ush_row (x) _ (k := 1) (by decide) rfl) ?_
  refine lv_ldc2 hx hb hown (hts _ (List.mem_cons_of_mem _ w_481)) (da dk_bc (k := 4) rfl) ?_
  refine lv_land hx hb (da dk_bc (k := 5) rfl) ?_
  refine lv_lsub hx hb (da dk_bc (k := 6) rfl) ?_
  refine lv_lstore_n (lv' := [(0, .long (Int64.ofBitVec (px1 x)))]) hx hb (da dk_bc (k := 7) rfl) rfl hl (by decide) rfl (fun ls hl => ?_)
  refine lv_lload_n hx hb (da dk_bc (k := 8) rfl) rfl (lv_at hl 0 rfl) ?_
  refine lv_ldc2 hx hb hown (hts _ (List.mem_cons_of_mem _ w_482)) (da dk_bc (k := 9) rfl) ?_
  refine lv_land hx hb (da dk_bc (k := 10) rfl) ?_
  refine lv_lload_n hx hb (da dk_bc (k := 11) rfl) rfl (lv_at hl 0 rfl) ?_
  refine lv_iconst (v := Int32.ofInt 2) hx hb (da dk_bc (k := 12) rfl) rfl ?_
  refine lv_lushr hx hb (da dk_bc (k := 13) rfl) (ush_row (px1 x) _ (k := 2) (by decide) rfl) ?_
  refine lv_ldc2 hx hb hown (hts _ (List.mem_cons_of_mem _ w_482)) (da dk_bc (k := 14) rfl) ?_
  refine lv_land hx hb (da dk_bc (k := 15) rfl) ?_
  refine lv_ladd hx hb (da dk_bc (k := 16) rfl) ?_
  refine lv_lstore_n (lv' := [(0, .long (Int64.ofBitVec (px2 x)))]) hx hb (da dk_bc (k := 17) rfl) rfl hl (by decide) rfl (fun ls hl => ?_)
  refine lv_lload_n hx hb (da dk_bc (k := 18) rfl) rfl (lv_at hl 0 rfl) ?_
  refine lv_lload_n hx hb (da dk_bc (k := 19) rfl) rfl (lv_at hl 0 rfl) ?_
  refine lv_iconst (v := Int32.ofInt 4) hx hb (da dk_bc (k := 20) rfl) rfl ?_
  refine lv_lushr hx hb (da dk_bc (k := 21) rfl) (ush_row (px2 x) _ (k := 4) (by decide) rfl) ?_
  refine lv_ladd hx hb (da dk_bc (k := 22) rfl) ?_
  refine lv_ldc2 hx hb hown (hts _ (List.mem_cons_of_mem _ w_483)) (da dk_bc (k := 23) rfl) ?_
  refine lv_land hx hb (da dk_bc (k := 24) rfl) ?_
  refine lv_lstore_n (lv' := [(0, .long (Int64.ofBitVec (px3 x)))]) hx hb (da dk_bc (k := 25) rfl) rfl hl (by decide) rfl (fun ls hl => ?_)
  refine lv_lload_n hx hb (da dk_bc (k := 26) rfl) rfl (lv_at hl 0 rfl) ?_
  refine lv_lload_n hx hb (da dk_bc (k := 27) rfl) rfl (lv_at hl 0 rfl) ?_
  refine lv_bipush (v := Int32.ofInt 8) hx hb (da dk_bc (k := 28) rfl) (by decide) ?_
  refine lv_lushr hx hb (da dk_bc (k := 29) rfl) (ush_row (px3 x) _ (k := 8) (by decide) rfl) ?_
  refine lv_ladd hx hb (da dk_bc (k := 30) rfl) ?_
  refine lv_lstore_n (lv' := [(0, .long (Int64.ofBitVec (px4 x)))]) hx hb (da dk_bc (k := 31) rfl) rfl hl (by decide) rfl (fun ls hl => ?_)
  refine lv_lload_n hx hb (da dk_bc (k := 32) rfl) rfl (lv_at hl 0 rfl) ?_
  refine lv_lload_n hx hb (da dk_bc (k := 33) rfl) rfl (lv_at hl 0 rfl) ?_
  refine lv_bipush (v := Int32.ofInt 16) hx hb (da dk_bc (k := 34) rfl) (by decide) ?_
  refine lv_lushr hx hb (da dk_bc (k := 35) rfl) (ush_row (px4 x) _ (k := 16) (by decide) rfl) ?_
  refine lv_ladd hx hb (da dk_bc (k := 36) rfl) ?_
  refine lv_lstore_n (lv' := [(0, .long (Int64.ofBitVec (px5 x)))]) hx hb (da dk_bc (k := 37) rfl) rfl hl (by decide) rfl (fun ls hl => ?_)
  refine lv_lload_n hx hb (da dk_bc (k := 38) rfl) rfl (lv_at hl 0 rfl) ?_
  refine lv_lload_n hx hb (da dk_bc (k := 39) rfl) rfl (lv_at hl 0 rfl) ?_
  refine lv_bipush (v := Int32.ofInt 32) hx hb (da dk_bc (k := 40) rfl) (by decide) ?_
  refine lv_lushr hx hb (da dk_bc (k := 41) rfl) (ush_row (px5 x) _ (k := 32) (by decide) rfl) ?_
  refine lv_ladd hx hb (da dk_bc (k := 42) rfl) ?_
  refine lv_lstore_n (lv' := [(0, .long (Int64.ofBitVec (px6 x)))]) hx hb (da dk_bc (k := 43) rfl) rfl hl (by decide) rfl (fun ls hl => ?_)
  refine lv_lload_n hx hb (da dk_bc (k := 44) rfl) rfl (lv_at hl 0 rfl) ?_
  refine lv_l2i hx hb (da dk_bc (k := 45) rfl) rfl ?_
  refine lv_bipush (v := Int32.ofInt 127) hx hb (da dk_bc (k := 46) rfl) (by decide) ?_
  refine lv_iand hx hb (da dk_bc (k := 47) rfl) ?_
  rw [show (Int64.ofBitVec (px6 x)).toInt32 &&& Int32.ofInt 127 = Int32.ofInt (a_pop x) from pop_int x]
  exact W.iret hx hb hr (fun t ht hW => ⟨rfl, by rw [ht]; exact hRep.moved hW.alike, va_S.rf.F ht⟩) (fun q hq => absurd hq List.not_mem_nil) (da dk_bc (k := 48) rfl)
theorem sd_bc {y : AM} {pc : Nat} (z : Int) (a b : Nat) (ts : List (Int × Nat)) {idx : Nat} (d : decode y.2.1 pc = .ok (.invokestatic idx, 3)) (hlk : Cond.methodLink y.1.cls idx ⟨"java/lang/Long", "bitCount", "(J)I"⟩ ∈ gW) (hfr : 1 ≤ y.2.2.2.2.1) (hlo : 21 ≤ y.2.2.2.2.2) : am_Snd gG mt y pc (63, z, a, b, pc + 3, ts) := by
  intro lv st h o hlen ex
  change xo_63 z a b (pc + 3) ts lv st h = some o at ex
  unfold xo_63 at ex
  split at ex
  · rename_i x r
    cases hca : Nat.ble (av_sum r) 8 with
    | false => rw [hca] at ex; cases ex
    | true =>
      rw [hca] at ex
      have hca := Nat.le_of_ble_eq_true hca
      cases ex
      refine ⟨⟨rfl, Nat.le_refl _, Nat.le_refl _⟩, fun D dA base n0 k0 p l e R s m args below meth c Q C hb hn hk hrc hrs kk H locs ls hR hS hl => ?_⟩
      have hM := met_bc l D dA base x h
      refine am_go (r := some (.inl (a_pop x))) (h' := h) (rest := r.map av_V) (va_runS (As := [.long (Int64.ofBitVec x)]) ⟨C.1, C.2.1, C.2.2.1, C.2.2.2.1, C.2.2.2.2.1⟩ hM (va_cwS 1 C.2.2.2.2.1 (am_good gG_ok ?_) rfl rfl rfl (by decide +kernel) ⟨Nat.le_trans hfr C.2.2.2.2.2.2.2.2.1, Nat.le_trans hlo C.2.2.2.2.2.2.2.2.2⟩) ⟨am_blind, fun U hU hW => ⟨rfl, by rw [hU]; exact hR.moved hW.alike, C.2.2.2.2.2.2.1.moved hW.alike, fun x hx => (C.2.2.2.2.2.2.2.1 x hx).moved hW.alike⟩⟩ rfl rfl hl.1 rfl (lv_room (by rw [av_sum_eq]; exact hca)) d ⟨by omega, by omega⟩) hS (fun H1 locs1 hR1 hS1 => ?_)
      · intro w hw
        rcases List.mem_append.mp hw with hw | hw
        · exact (List.forall_mem_cons.2 ⟨hlk, List.forall_mem_cons.2 ⟨w_479, List.forall_mem_cons.2 ⟨w_56, fun _ h => absurd h List.not_mem_nil⟩⟩⟩ : ∀ w ∈ va_wsS y.1.cls idx ⟨"java/lang/Long", "bitCount", "(J)I"⟩ [], w ∈ gW) w (List.mem_append_left _ hw)
        · exact am_in_ws (G := gG) (y := ybc) w_480 w hw
      · refine W.cs (cells' := h.1 - n0) (slots' := h.2.1 - k0) (by omega) (by omega) ?_
        exact kk H1 locs1 ls hR1 hS1 hl
  · cases ex

