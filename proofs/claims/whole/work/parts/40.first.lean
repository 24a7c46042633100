-- Resolver.firstFree
def e_fr (E : EL) (pw : Nat → Bool) (e : Nat) : Bool := !b_any 448 (fun y => pw y && e_ch (E e) y)
-- of the first i of a list, this one is the first that is free
def isFF (E : EL) (pw : Nat → Bool) (M : List Nat) (i f : Nat) : Prop := f < i ∧ e_fr E pw (M.getD f 0) = true ∧ ∀ j, j < i → e_fr E pw (M.getD j 0) = true → j ≠ f → r_first E (M.getD j 0) (M.getD f 0) = false
def noFF (E : EL) (pw : Nat → Bool) (M : List Nat) (i : Nat) : Prop := ∀ j, j < i → e_fr E pw (M.getD j 0) = false
-- one ahead of another is not behind a third that the other is ahead of
theorem r_old_tr {E : EL} {a b c : Nat} (h1 : r_old E a b = true) (h2 : r_old E b c = true) : r_old E a c = true := by
  unfold r_old at *
  split at h1 <;> split at h2 <;> split <;> simp only [decide_eq_true_eq] at * <;> omega
theorem r_first_tr {E : EL} {a b c : Nat} (h1 : r_first E a b = true) (h2 : r_first E b c = true) : r_first E a c = true := by
  unfold r_first at *
  split at h1
  · split at h2
    · rw [if_pos (by omega)]; exact r_old_tr h1 h2
    · rw [if_neg (by omega)]; simp only [decide_eq_true_eq] at *; omega
  · split at h2
    · rw [if_neg (by simp only [decide_eq_true_eq] at h1; omega)]; simp only [decide_eq_true_eq] at *; omega
    · simp only [decide_eq_true_eq] at h1 h2
      rw [if_neg (by omega)]; simp only [decide_eq_true_eq]; omega
theorem r_first_as {E : EL} {a b : Nat} (h1 : r_first E a b = true) : r_first E b a = false := by
  unfold r_first r_old at *
  split at h1
  · rename_i e1
    rw [if_pos e1.symm]
    split at h1
    · rename_i e2
      rw [if_pos e2.symm]
      simp only [decide_eq_true_eq, decide_eq_false_iff_not] at *
      omega
    · rename_i e2
      rw [if_neg (fun z => e2 z.symm)]
      simp only [decide_eq_true_eq, decide_eq_false_iff_not] at *
      omega
  · rename_i e1
    rw [if_neg (fun z => e1 z.symm)]
    simp only [decide_eq_true_eq, decide_eq_false_iff_not] at *
    omega
theorem e_id_inj {a b : Nat} (ha : a < 400) (hb : b < 400) (h : e_id a = e_id b) : a = b := by
  have key : ∀ a : Fin 400, (a.val * 40503 % 65536) * 30599 % 65536 = a.val := by decide +kernel
  unfold e_id at h
  have h' : a * 40503 % 65536 = b * 40503 % 65536 := by omega
  have ka := key ⟨a, ha⟩
  have kb := key ⟨b, hb⟩
  simp only at ka kb
  rw [← ka, ← kb, h']
theorem r_first_tot {E : EL} {a b : Nat} (ha : a < 400) (hb : b < 400) (hne : a ≠ b) : r_first E a b = true ∨ r_first E b a = true := by
  unfold r_first r_old
  by_cases h1 : e_sl E a = e_sl E b
  · rw [if_pos h1, if_pos h1.symm]
    by_cases h2 : e_tm (E a) = e_tm (E b)
    · rw [if_pos h2, if_pos h2.symm]
      simp only [decide_eq_true_eq]
      have hne2 : ¬ e_id a = e_id b := fun z => hne (e_id_inj ha hb z)
      omega
    · rw [if_neg h2, if_neg (fun z => h2 z.symm)]
      simp only [decide_eq_true_eq]
      omega
  · rw [if_neg h1, if_neg (fun z => h1 z.symm)]
    simp only [decide_eq_true_eq]
    omega
set_option maxHeartbeats 4000000 in
theorem l_first {h : AH} {R : Nat → Prop} {ad : Nat → Nat} {N Z : Nat} {E : EL} (hN : N ≤ 400) (hW : WE N E) (hOW : ∀ n, n < N → sOK N E (e_ow (E n))) {M : List Nat} (hM : ∀ n ∈ M, n < N) (hMl : M.length ≤ 400) {fa ft tp ls qu : Nat → Option Nat} {gc gs gx gp : Nat → BitVec 64} {rk : Nat → Int} (hls : lsR ad M ls) (q : rsR h Z fa ft gc gs gx gp tp ls qu rk) (hL : LG h R ad N E) : ∀ (k i f : Nat) (fd : Bool), i + k = M.length → (fd = true → isFF E (bS gp) M i f) → (fd = false → noFF E (bS gp) M i ∧ f = 0) → ∃ f' fd', Ev tResolver_firstFree 7 [some (vR Z), some (.inl (M.length : Int)), some (.inl (f : Int)), some (vB fd), some (.inl (i : Int))] [] h (some (.inl ((f' : Nat) : Int)), h) ∧ (fd' = true → isFF E (bS gp) M M.length f') ∧ (fd' = false → noFF E (bS gp) M M.length) := by
  intro k
  induction k with
  | zero =>
    intro i f fd hi h1 h2
    obtain rfl : i = M.length := by omega
    refine ⟨f, fd, ?_, h1, fun z => (h2 z).1⟩
    have hfl : f ≤ 400 := by
      cases fd with
      | true => have := (h1 rfl).1; omega
      | false => have := (h2 rfl).2; omega
    clear h1 h2
    iterate 2 (refine ev_st rfl rfl ?_)
    refine ev_icT rfl (by simp only [ick, w32]; omega) ?_
    repeat (refine ev_st rfl rfl ?_)
    exact ev_rt rfl rfl rfl
  | succ k ih =>
    intro i f fd hi h1 h2
    have hi' : i < M.length := by omega
    have hn := hM _ (getD_mem hi')
    have ei := hls i hi'
    obtain ⟨c, pa, gr, lv, er, bh, hc, ⟨wc, gcc, -, hcc, hwc, hgc⟩, -⟩ := evR.cell hL hn
    have cm := c_meets q.c13 q.c14 hcc hwc
    have em : b_any 448 (fun n => bS gp n && bS gcc n) = !e_fr E (bS gp) (M.getD i 0) := by
      unfold e_fr
      rw [Bool.not_not]
      congr 1
      funext y
      rw [hgc y]
    rw [em] at cm
    -- what follows the question whether this one is ahead
    have next : ∀ (f2 : Nat) (fd2 : Bool), (fd2 = true → isFF E (bS gp) M (i + 1) f2) → (fd2 = false → noFF E (bS gp) M (i + 1) ∧ f2 = 0) → ∃ f' fd', Ev tResolver_firstFree 61 [some (vR Z), some (.inl (M.length : Int)), some (.inl (f2 : Int)), some (vB fd2), some (.inl (i : Int))] [] h (some (.inl ((f' : Nat) : Int)), h) ∧ (fd' = true → isFF E (bS gp) M M.length f') ∧ (fd' = false → noFF E (bS gp) M M.length) := by
      intro f2 fd2 k1 k2
      obtain ⟨f', fd', hE, a1, a2⟩ := ih (i + 1) f2 fd2 (by omega) k1 k2
      refine ⟨f', fd', ?_, a1, a2⟩
      clear a1 a2 k1 k2 h1 h2 em
      iterate 2 (refine ev_st rfl rfl ?_)
      rw [nat_1]
      exact hE
    have ask : (e_fr E (bS gp) (M.getD i 0) = true → isFF E (bS gp) M (i + 1) i) → (e_fr E (bS gp) (M.getD i 0) = false → (fd = true → isFF E (bS gp) M (i + 1) f) ∧ (fd = false → noFF E (bS gp) M (i + 1) ∧ f = 0)) → ∃ f' fd', Ev tResolver_firstFree 36 [some (vR Z), some (.inl (M.length : Int)), some (.inl (f : Int)), some (vB fd), some (.inl (i : Int))] [] h (some (.inl ((f' : Nat) : Int)), h) ∧ (fd' = true → isFF E (bS gp) M M.length f') ∧ (fd' = false → noFF E (bS gp) M M.length) := by
      intro k1 k2
      cases hfr : e_fr E (bS gp) (M.getD i 0) with
      | true =>
        rw [hfr] at cm
        obtain ⟨f', fd', hE, a1, a2⟩ := next i true (fun _ => k1 hfr) (fun z => by cases z)
        refine ⟨f', fd', ?_, a1, a2⟩
        clear a1 a2 k1 k2 h1 h2 em next
        iterate 1 (refine ev_st rfl rfl ?_)
        refine ev_getf rfl q.c0 (by rfl) ?_
        iterate 1 (refine ev_st rfl rfl ?_)
        refine ev_getf rfl q.c0 (by rfl) ?_
        iterate 1 (refine ev_st rfl rfl ?_)
        refine ev_aaldN rfl q.c16 (by omega) (by omega) ?_
        rw [ei]
        refine ev_getf rfl hc (by rfl) ?_
        refine ev_callV rfl rfl q.c13 rfl cm ?_
        refine ev_zneF rfl rfl ?_
        iterate 4 (refine ev_st rfl rfl ?_)
        exact hE
      | false =>
        rw [hfr] at cm
        obtain ⟨z1, z2⟩ := k2 hfr
        obtain ⟨f', fd', hE, a1, a2⟩ := next f fd z1 z2
        refine ⟨f', fd', ?_, a1, a2⟩
        clear a1 a2 k1 k2 h1 h2 em next z1 z2
        iterate 1 (refine ev_st rfl rfl ?_)
        refine ev_getf rfl q.c0 (by rfl) ?_
        iterate 1 (refine ev_st rfl rfl ?_)
        refine ev_getf rfl q.c0 (by rfl) ?_
        iterate 1 (refine ev_st rfl rfl ?_)
        refine ev_aaldN rfl q.c16 (by omega) (by omega) ?_
        rw [ei]
        refine ev_getf rfl hc (by rfl) ?_
        refine ev_callV rfl rfl q.c13 rfl cm ?_
        refine ev_zneT rfl rfl ?_
        exact hE
    cases fd with
    | false =>
      obtain ⟨b1, b2⟩ := h2 rfl
      obtain ⟨f', fd', hE, a1, a2⟩ := ask (fun hfr => ⟨by omega, hfr, fun j hj hjf hjn => by
          have := b1 j (by omega)
          rw [hjf] at this
          cases this⟩) (fun hfr => ⟨fun z => (by cases z), fun _ => ⟨fun j hj => by
          by_cases hji : j = i
          · subst hji; exact hfr
          · exact b1 j (by omega), b2⟩⟩)
      refine ⟨f', fd', ?_, a1, a2⟩
      clear a1 a2 h1 h2 em next ask
      iterate 2 (refine ev_st rfl rfl ?_)
      refine ev_icF rfl (by simp only [ick, w32]; omega) ?_
      iterate 1 (refine ev_st rfl rfl ?_)
      refine ev_zeqT rfl rfl ?_
      exact hE
    | true =>
      obtain ⟨b1, b2, b3⟩ := h1 rfl
      have hfl : f < M.length := by omega
      have hfn := hM _ (getD_mem hfl)
      have ef := hls f hfl
      have ca := c_isAhead hL hW hOW hn hfn
      cases hah : r_first E (M.getD i 0) (M.getD f 0) with
      | true =>
        rw [hah] at ca
        obtain ⟨f', fd', hE, a1, a2⟩ := ask (fun hfr => ⟨by omega, hfr, fun j hj hjf hjn => by
            by_cases hjf2 : j = f
            · subst hjf2; exact r_first_as hah
            · have h3 := b3 j (by omega) hjf hjf2
              rw [← Bool.not_eq_true]
              intro hji
              rw [r_first_tr hji hah] at h3
              cases h3⟩) (fun hfr => ⟨fun _ => ⟨by omega, b2, fun j hj hjf hjn => by
            by_cases hji : j = i
            · subst hji; rw [hfr] at hjf; cases hjf
            · exact b3 j (by omega) hjf hjn⟩, fun z => by cases z⟩)
        refine ⟨f', fd', ?_, a1, a2⟩
        clear a1 a2 h1 h2 em next ask b3
        iterate 2 (refine ev_st rfl rfl ?_)
        refine ev_icF rfl (by simp only [ick, w32]; omega) ?_
        iterate 1 (refine ev_st rfl rfl ?_)
        refine ev_zeqF rfl rfl ?_
        iterate 1 (refine ev_st rfl rfl ?_)
        refine ev_getf rfl q.c0 (by rfl) ?_
        iterate 1 (refine ev_st rfl rfl ?_)
        refine ev_aaldN rfl q.c16 (by omega) (by omega) ?_
        rw [ei]
        iterate 1 (refine ev_st rfl rfl ?_)
        refine ev_getf rfl q.c0 (by rfl) ?_
        iterate 1 (refine ev_st rfl rfl ?_)
        refine ev_aaldN rfl q.c16 (by omega) (by omega) ?_
        rw [ef]
        refine ev_cl rfl rfl ca ?_
        refine ev_zeqF rfl rfl ?_
        exact hE
      | false =>
        rw [hah] at ca
        obtain ⟨f', fd', hE, a1, a2⟩ := next f true (fun _ => ⟨by omega, b2, fun j hj hjf hjn => by
            by_cases hji : j = i
            · subst hji; exact hah
            · exact b3 j (by omega) hjf hjn⟩) (fun z => by cases z)
        refine ⟨f', fd', ?_, a1, a2⟩
        clear a1 a2 h1 h2 em next ask b3
        iterate 2 (refine ev_st rfl rfl ?_)
        refine ev_icF rfl (by simp only [ick, w32]; omega) ?_
        iterate 1 (refine ev_st rfl rfl ?_)
        refine ev_zeqF rfl rfl ?_
        iterate 1 (refine ev_st rfl rfl ?_)
        refine ev_getf rfl q.c0 (by rfl) ?_
        iterate 1 (refine ev_st rfl rfl ?_)
        refine ev_aaldN rfl q.c16 (by omega) (by omega) ?_
        rw [ei]
        iterate 1 (refine ev_st rfl rfl ?_)
        refine ev_getf rfl q.c0 (by rfl) ?_
        iterate 1 (refine ev_st rfl rfl ?_)
        refine ev_aaldN rfl q.c16 (by omega) (by omega) ?_
        rw [ef]
        refine ev_cl rfl rfl ca ?_
        refine ev_zeqT rfl rfl ?_
        exact hE
theorem c_firstFree {h : AH} {R : Nat → Prop} {ad : Nat → Nat} {N Z : Nat} {E : EL} (hN : N ≤ 400) (hW : WE N E) (hOW : ∀ n, n < N → sOK N E (e_ow (E n))) {M : List Nat} (hM : ∀ n ∈ M, n < N) (hMl : M.length ≤ 400) {fa ft tp ls qu : Nat → Option Nat} {gc gs gx gp : Nat → BitVec 64} {rk : Nat → Int} (hls : lsR ad M ls) (q : rsR h Z fa ft gc gs gx gp tp ls qu rk) (hL : LG h R ad N E) (hex : ∃ j, j < M.length ∧ e_fr E (bS gp) (M.getD j 0) = true) : ∃ f, Em mResolver_firstFree 3 [vR Z, .inl (M.length : Int)] h (some (.inl ((f : Nat) : Int))) h ∧ isFF E (bS gp) M M.length f := by
  obtain ⟨f, fd, hE, a1, a2⟩ := l_first hN hW hOW hM hMl hls q hL M.length 0 0 false (Nat.zero_add _) (fun z => by cases z) (fun _ => ⟨fun j hj => absurd hj (Nat.not_lt_zero _), rfl⟩)
  refine ⟨f, ?_, ?_⟩
  · show Ev tResolver_firstFree 0 [some (vR Z), some (.inl (M.length : Int)), none, none, none] [] h _
    iterate 6 (refine ev_st rfl rfl ?_)
    exact hE
  · cases fd with
    | true => exact a1 rfl
    | false =>
      obtain ⟨j, hj, hjf⟩ := hex
      have := a2 rfl j hj
      rw [hjf] at this
      cases this
