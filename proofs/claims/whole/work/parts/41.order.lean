-- Resolver.orderOne
def r_q1 (N : Nat) (E : EL) : Nat → (Nat → Bool) → List Nat
  | 0, _ => []
  | n + 1, pw => match r_best1 N E pw N with
    | none => []
    | some e => e :: r_q1 N E n (f_off pw e)
theorem best1_some {N : Nat} {E : EL} {pw : Nat → Bool} : ∀ {k e : Nat}, k ≤ 400 → r_best1 N E pw k = some e → e < k ∧ pw e = true ∧ r_free N E pw e = true ∧ ∀ f, f < k → pw f = true → r_free N E pw f = true → f ≠ e → r_first E f e = false := by
  intro k
  induction k with
  | zero => intro e _ h; cases h
  | succ k ih =>
    intro e hk h
    simp only [r_best1] at h
    cases hb : r_best1 N E pw k with
    | none =>
      have hnone : ∀ f, f < k → ¬ (pw f = true ∧ r_free N E pw f = true) := by
        have key : ∀ j, j ≤ k → r_best1 N E pw j = none → ∀ f, f < j → ¬ (pw f = true ∧ r_free N E pw f = true) := by
          intro j
          induction j with
          | zero => intro _ _ f hf; omega
          | succ j ihj =>
            intro hj hn f hf ⟨z1, z2⟩
            simp only [r_best1] at hn
            cases hbj : r_best1 N E pw j with
            | some g =>
              rw [hbj] at hn
              simp only at hn
              cases hc : (pw j && (r_free N E pw j && r_first E j g)) <;> rw [hc] at hn <;> cases hn
            | none =>
              rw [hbj] at hn
              simp only [Bool.and_true] at hn
              cases hc : (pw j && r_free N E pw j) with
              | true => rw [hc] at hn; cases hn
              | false =>
                by_cases hfj : f = j
                · subst hfj; rw [z1, z2] at hc; cases hc
                · exact ihj (by omega) hbj f (by omega) ⟨z1, z2⟩
        exact key k (Nat.le_refl _) hb
      rw [hb] at h
      simp only [Bool.and_true] at h
      cases hc : (pw k && r_free N E pw k) with
      | false => rw [hc] at h; cases h
      | true =>
        rw [hc] at h
        cases h
        simp only [Bool.and_eq_true] at hc
        refine ⟨by omega, hc.1, hc.2, fun f hf z1 z2 z3 => ?_⟩
        exact absurd ⟨z1, z2⟩ (hnone f (by omega))
    | some g =>
      obtain ⟨g1, g2, g3, g4⟩ := ih (by omega) hb
      rw [hb] at h
      simp only at h
      cases hc : (pw k && (r_free N E pw k && r_first E k g)) with
      | false =>
        rw [hc] at h
        cases h
        refine ⟨by omega, g2, g3, fun f hf z1 z2 z3 => ?_⟩
        by_cases hfk : f = k
        · subst hfk
          rw [z1, z2] at hc
          simpa using hc
        · exact g4 f (by omega) z1 z2 z3
      | true =>
        rw [hc] at h
        cases h
        simp only [Bool.and_eq_true] at hc
        refine ⟨by omega, hc.1, hc.2.1, fun f hf z1 z2 z3 => ?_⟩
        by_cases hfg : f = g
        · subst hfg; exact r_first_as hc.2.2
        · have h3 := g4 f (by omega) z1 z2 hfg
          rw [← Bool.not_eq_true]
          intro hfe
          rw [r_first_tr hfe hc.2.2] at h3
          cases h3
theorem best1_none {N : Nat} {E : EL} {pw : Nat → Bool} : ∀ {k : Nat}, r_best1 N E pw k = none → ∀ f, f < k → ¬ (pw f = true ∧ r_free N E pw f = true) := by
  intro j
  induction j with
  | zero => intro _ f hf; omega
  | succ j ihj =>
    intro hn f hf ⟨z1, z2⟩
    simp only [r_best1] at hn
    cases hbj : r_best1 N E pw j with
    | some g =>
      rw [hbj] at hn
      simp only at hn
      cases hc : (pw j && (r_free N E pw j && r_first E j g)) <;> rw [hc] at hn <;> cases hn
    | none =>
      rw [hbj] at hn
      simp only [Bool.and_true] at hn
      cases hc : (pw j && r_free N E pw j) with
      | true => rw [hc] at hn; cases hn
      | false =>
        by_cases hfj : f = j
        · subst hfj; rw [z1, z2] at hc; cases hc
        · exact ihj hbj f (by omega) ⟨z1, z2⟩
theorem fr_eq {N : Nat} {E : EL} {pw : Nat → Bool} (hN : N ≤ 400) (h : ∀ y, N ≤ y → pw y = false) (e : Nat) : e_fr E pw e = r_free N E pw e := by
  unfold e_fr r_free
  apply Bool.eq_iff_iff.2
  rw [b_all_iff, Bool.not_eq_true', ← Bool.not_eq_true, b_any_iff]
  constructor
  · intro hn i hi
    cases hc : (pw i && e_ch (E e) i) with
    | false => rfl
    | true => exact absurd ⟨i, by omega, hc⟩ hn
  · rintro hall ⟨i, hi, hc⟩
    by_cases hiN : i < N
    · have := hall i hiN
      rw [hc] at this
      cases this
    · rw [h i (by omega)] at hc
      cases hc
-- what is chosen among a list is what is chosen among the numbers
def inj_ (M : List Nat) : Prop := ∀ i j, i < M.length → j < M.length → M.getD i 0 = M.getD j 0 → i = j
def memb (M : List Nat) (y : Nat) : Prop := ∃ i, i < M.length ∧ M.getD i 0 = y
theorem ff_best {N : Nat} {E : EL} {pw : Nat → Bool} {M : List Nat} {f : Nat} (hN : N ≤ 400) (hpw : ∀ y, N ≤ y → pw y = false) (hm : ∀ y, pw y = true ↔ memb M y) (hf : isFF E pw M M.length f) : r_best1 N E pw N = some (M.getD f 0) := by
  obtain ⟨f1, f2, f3⟩ := hf
  have hpf : pw (M.getD f 0) = true := (hm _).2 ⟨f, f1, rfl⟩
  have hlt : M.getD f 0 < N := by
    rcases Nat.lt_or_ge (M.getD f 0) N with q | q
    · exact q
    · rw [hpw _ q] at hpf; cases hpf
  cases hb : r_best1 N E pw N with
  | none => exact absurd ⟨hpf, by rw [← fr_eq hN hpw]; exact f2⟩ (best1_none hb _ hlt)
  | some e =>
    obtain ⟨e1, e2, e3, e4⟩ := best1_some hN hb
    obtain ⟨j, j1, j2⟩ := (hm e).1 e2
    by_cases hjf : j = f
    · subst hjf; rw [j2]
    · by_cases hee : M.getD f 0 = e
      · rw [hee]
      · have h1 := e4 _ hlt hpf (by rw [← fr_eq hN hpw]; exact f2) hee
        have h2 := f3 j j1 (by rw [j2, fr_eq hN hpw]; exact e3) hjf
        rw [j2] at h2
        rcases r_first_tot (E := E) (show e < 400 by omega) (show M.getD f 0 < 400 by omega) (fun z => hee z.symm) with h3 | h3
        · rw [h3] at h2; cases h2
        · rw [h3] at h1; cases h1
-- a chain goes back
def CW (N : Nat) (E : EL) : Prop := ∀ n, n < N → ∀ y, e_ch (E n) y = true → y < n
theorem ff_ex {N : Nat} {E : EL} {pw : Nat → Bool} {M : List Nat} (hN : N ≤ 400) (hC : CW N E) (hpw : ∀ y, N ≤ y → pw y = false) (hm : ∀ y, pw y = true ↔ memb M y) (h0 : 0 < M.length) : ∃ j, j < M.length ∧ e_fr E pw (M.getD j 0) = true := by
  obtain ⟨e, he, hmin⟩ := pk_least (fun y => pw y = true) ⟨M.getD 0 0, (hm _).2 ⟨0, h0, rfl⟩⟩
  obtain ⟨j, j1, j2⟩ := (hm e).1 he
  refine ⟨j, j1, ?_⟩
  have heN : e < N := by
    rcases Nat.lt_or_ge e N with q | q
    · exact q
    · rw [hpw _ q] at he; cases he
  rw [j2, fr_eq hN hpw]
  unfold r_free
  rw [b_all_iff]
  intro i hi
  cases hc : (pw i && e_ch (E e) i) with
  | false => rfl
  | true =>
    simp only [Bool.and_eq_true] at hc
    exact absurd hc.1 (hmin i (hC e heN i hc.2))
-- without the place f: the last comes there
def m_cut (M : List Nat) (f : Nat) : List Nat := (M.set f (M.getD (M.length - 1) 0)).take (M.length - 1)
theorem cut_len {M : List Nat} {f : Nat} : (m_cut M f).length = M.length - 1 := by simp [m_cut]
theorem cut_at {M : List Nat} {f i : Nat} (hi : i < M.length - 1) : (m_cut M f).getD i 0 = if i = f then M.getD (M.length - 1) 0 else M.getD i 0 := by
  unfold m_cut
  rw [List.getD_eq_getElem?_getD, List.getElem?_take_of_lt hi, List.getElem?_set]
  by_cases h : f = i
  · subst h
    rw [if_pos rfl, if_pos rfl, if_pos (by omega)]
    rfl
  · rw [if_neg h, if_neg (fun z => h z.symm), List.getD_eq_getElem?_getD]
theorem cut_inj {M : List Nat} {f : Nat} (hM : inj_ M) : inj_ (m_cut M f) := by
  intro i j hi hj he
  rw [cut_len] at hi hj
  rw [cut_at hi, cut_at hj] at he
  by_cases h1 : i = f
  · by_cases h2 : j = f
    · omega
    · rw [if_pos h1, if_neg h2] at he
      have := hM _ _ (by omega) (by omega) he
      omega
  · by_cases h2 : j = f
    · rw [if_neg h1, if_pos h2] at he
      have := hM _ _ (by omega) (by omega) he
      omega
    · rw [if_neg h1, if_neg h2] at he
      exact hM _ _ (by omega) (by omega) he
theorem cut_mem {M : List Nat} {f : Nat} (hM : inj_ M) (hf : f < M.length) (y : Nat) : memb (m_cut M f) y ↔ memb M y ∧ y ≠ M.getD f 0 := by
  constructor
  · rintro ⟨i, hi, he⟩
    rw [cut_len] at hi
    rw [cut_at hi] at he
    by_cases h : i = f
    · rw [if_pos h] at he
      refine ⟨⟨M.length - 1, by omega, he⟩, fun z => ?_⟩
      rw [← he] at z
      have := hM _ _ (by omega) hf z
      omega
    · rw [if_neg h] at he
      refine ⟨⟨i, by omega, he⟩, fun z => ?_⟩
      rw [← he] at z
      exact h (hM _ _ (by omega) hf z)
  · rintro ⟨⟨i, hi, he⟩, hne⟩
    have hif : i ≠ f := fun z => hne (by rw [← he, z])
    by_cases h : i = M.length - 1
    · refine ⟨f, by rw [cut_len]; omega, ?_⟩
      rw [cut_at (by omega), if_pos rfl, ← h]
      exact he
    · refine ⟨i, by rw [cut_len]; omega, ?_⟩
      rw [cut_at (by omega), if_neg hif]
      exact he
theorem cut_lsR {ad : Nat → Nat} {M : List Nat} {f : Nat} {ls : Nat → Option Nat} (h : lsR ad M ls) : lsR ad (m_cut M f) (va_up ls f (some (ad (M.getD (M.length - 1) 0)))) := by
  intro i hi
  rw [cut_len] at hi
  rw [cut_at hi]
  by_cases hif : i = f
  · rw [if_pos hif]; simp [va_up, hif]
  · rw [if_neg hif]; simp only [va_up, if_neg hif]; exact h i (by omega)
set_option maxHeartbeats 4000000 in
theorem l_ord1 {R : Nat → Prop} {ad : Nat → Nat} {N Z : Nat} {E : EL} (hN : N ≤ 400) (hZR : rsN R Z) (hW : WE N E) (hC : CW N E) (hOW : ∀ n, n < N → sOK N E (e_ow (E n))) {sz : Nat} (hsz : sz ≤ 400) {j1 : Option AV} {fa ft tp : Nat → Option Nat} {gc gs gx : Nat → BitVec 64} {rk : Nat → Int} : ∀ (k d : Nat) (h : AH) (M Q : List Nat) (gp : Nat → BitVec 64) (ls qu : Nat → Option Nat) (j4 : Option AV), d + k = sz → M.length = k → Q.length = d → (∀ n ∈ M, n < N) → inj_ M → (∀ y, bS gp y = true ↔ memb M y) → lsR ad M ls → lsR ad Q qu → rsR h Z fa ft gc gs gx gp tp ls qu rk → LG h R ad N E → ∃ h' gp' ls' qu', rsR h' Z fa ft gc gs gx gp' tp ls' qu' rk ∧ rz Z h h' ∧ lsR ad (Q ++ r_q1 N E k (bS gp)) qu' ∧ (r_q1 N E k (bS gp)).length = k ∧ (∀ e ∈ r_q1 N E k (bS gp), bS gp e = true) ∧ Ev tResolver_orderOne 12 [some (vR Z), j1, some (.inl (sz : Int)), some (.inl (d : Int)), j4] [] h (some (.inl (sz : Int)), h') := by
  intro k
  induction k with
  | zero =>
    intro d h M Q gp ls qu j4 hd hM hQ hMN hMi hm hls hqu q hL
    refine ⟨h, gp, ls, qu, q, rz_rf, by simpa [r_q1] using hqu, rfl, fun e he => by simp [r_q1] at he, ?_⟩
    clear hm
    iterate 2 (refine ev_st rfl rfl ?_)
    refine ev_icT rfl (by simp only [ick, w32]; omega) ?_
    repeat (refine ev_st rfl rfl ?_)
    exact ev_rt rfl rfl rfl
  | succ k ih =>
    intro d h M Q gp ls qu j4 hd hM hQ hMN hMi hm hls hqu q hL
    have hpw : ∀ y, N ≤ y → bS gp y = false := by
      intro y hy
      rw [← Bool.not_eq_true]
      intro hq
      obtain ⟨i, hi, he⟩ := (hm y).1 hq
      have := hMN _ (getD_mem hi)
      omega
    obtain ⟨f, cE, hff⟩ := c_firstFree hN hW hOW hMN (by omega) hls q hL (ff_ex hN hC hpw hm (by omega))
    have hbest := ff_best hN hpw hm hff
    have hf1 := hff.1
    have hfn := hMN _ (getD_mem hf1)
    have hln := hMN _ (getD_mem (show M.length - 1 < M.length by omega))
    have ef := hls f hf1
    have el := hls (M.length - 1) (by omega)
    obtain ⟨fsF, hEf⟩ := hL.isE hfn
    obtain ⟨fsL, hEl⟩ := hL.isE hln
    have nadf : ∀ i, i < 19 → i ≠ 1 → i ≠ 2 → ad (M.getD f 0) ≠ Z + i := fun i a b c z => hZR i a b c (z ▸ (hL _ hfn).1)
    have nadl : ∀ i, i < 19 → i ≠ 1 → i ≠ 2 → ad (M.getD (M.length - 1) 0) ≠ Z + i := fun i a b c z => hZR i a b c (z ▸ (hL _ hln).1)
    obtain ⟨c, pa, gr, sl, lv, er, bh, gd, pf, hc, -⟩ := hL.par hfn
    have qq1 := q.u_qu (z := va_up qu d (some (ad (M.getD f 0))))
    obtain ⟨g2, c2, e2⟩ := c_remove qq1.c13 qq1.c14 (n := M.getD f 0) (by omega)
    have qq2 := qq1.u_gp (z := g2)
    have qq3 := qq2.u_ls (z := va_up ls f (some (ad (M.getD (M.length - 1) 0))))
    have z3 : rz Z h (ah_put (ah_put (ah_put h (Z + 17) (cEa 400 (va_up qu d (some (ad (M.getD f 0)))))) (Z + 14) (cLng g2)) (Z + 16) (cEa 400 (va_up ls f (some (ad (M.getD (M.length - 1) 0)))))) := rz_tr (rz_tr (rz_put (i := 17) (by omega) (by omega) (by omega)) (rz_put (i := 14) (by omega) (by omega) (by omega))) (rz_put (i := 16) (by omega) (by omega) (by omega))
    have hm2 : ∀ y, bS g2 y = true ↔ memb (m_cut M f) y := by
      intro y
      rw [cut_mem hMi hf1, ← hm y, e2, f_off_d]
      simp only [Bool.and_eq_true, Bool.not_eq_true', decide_eq_false_iff_not]
      exact And.comm
    have hq1 : r_q1 N E (k + 1) (bS gp) = M.getD f 0 :: r_q1 N E k (bS g2) := by
      simp only [r_q1, hbest, e2]
    obtain ⟨h', gp', ls', qu', a1, a2, a3, a4, a5, ih⟩ := ih (d + 1) _ (m_cut M f) (Q ++ [M.getD f 0]) g2 _ _ (some (.inl (f : Int))) (by omega) (by rw [cut_len]; omega) (by simp; omega) (fun n hn => by
      obtain ⟨i, hi, he⟩ := List.getElem_of_mem hn
      obtain ⟨⟨j, hj, hje⟩, -⟩ := (cut_mem hMi hf1 n).1 ⟨i, hi, by rw [List.getD_eq_getElem?_getD, List.getElem?_eq_getElem hi]; exact he⟩
      rw [← hje]
      exact hMN _ (getD_mem hj)) (cut_inj hMi) hm2 (cut_lsR hls) (by rw [← hQ]; exact hqu.snoc) qq3 (hL.fz (rz_fz z3 hZR))
    refine ⟨h', gp', ls', qu', a1, rz_tr z3 a2, ?_, ?_, ?_, ?_⟩
    · rw [hq1]
      simpa using a3
    · rw [hq1]; simp [a4]
    · rw [hq1]
      intro e he
      rcases List.mem_cons.1 he with rfl | he
      · exact (hm _).2 ⟨f, hf1, rfl⟩
      · have := a5 e he
        rw [e2, f_off_d] at this
        simp only [Bool.and_eq_true] at this
        exact this.2
    · clear a3 a4 a5 hm hm2 hq1 hbest hff hpw e2
      rw [hM] at cE el
      rw [show k + 1 - 1 = k by omega] at el
      iterate 2 (refine ev_st rfl rfl ?_)
      refine ev_icF rfl (by simp only [ick, w32]; omega) ?_
      iterate 4 (refine ev_st rfl rfl ?_)
      rw [show ((sz : Int) - (d : Int)) = ((k + 1 : Nat) : Int) by omega]
      refine ev_callV rfl rfl q.c0 rfl cE ?_
      iterate 2 (refine ev_st rfl rfl ?_)
      refine ev_getf rfl q.c0 (by rfl) ?_
      iterate 2 (refine ev_st rfl rfl ?_)
      refine ev_getf rfl q.c0 (by rfl) ?_
      iterate 1 (refine ev_st rfl rfl ?_)
      refine ev_aaldN rfl q.c16 (by omega) (by omega) ?_
      rw [ef]
      refine ev_aastS rfl q.c17 hEf (by omega) (by omega) ?_
      iterate 1 (refine ev_st rfl rfl ?_)
      refine ev_getf rfl qq1.c0 (by rfl) ?_
      iterate 1 (refine ev_st rfl rfl ?_)
      refine ev_getf rfl qq1.c0 (by rfl) ?_
      iterate 1 (refine ev_st rfl rfl ?_)
      refine ev_aaldN rfl qq1.c16 (by omega) (by omega) ?_
      rw [ef]
      refine ev_getf rfl (ah_ne (nadf 17 (by omega) (by omega) (by omega)) hc) (by rfl) ?_
      refine ev_callV rfl rfl qq1.c13 rfl c2 ?_
      iterate 1 (refine ev_st rfl rfl ?_)
      refine ev_getf rfl qq2.c0 (by rfl) ?_
      iterate 2 (refine ev_st rfl rfl ?_)
      refine ev_getf rfl qq2.c0 (by rfl) ?_
      iterate 5 (refine ev_st rfl rfl ?_)
      refine ev_aald k rfl qq2.c16 (by simp only [w32]; omega) (by omega) ?_
      rw [el]
      rw [hM, show k + 1 - 1 = k by omega] at ih
      rw [hM, show k + 1 - 1 = k by omega] at hEl nadl
      refine ev_aastS rfl qq2.c16 (ah_ne (nadl 14 (by omega) (by omega) (by omega)) (ah_ne (nadl 17 (by omega) (by omega) (by omega)) hEl)) (by omega) (by omega) ?_
      iterate 2 (refine ev_st rfl rfl ?_)
      rw [nat_1]
      exact ih
