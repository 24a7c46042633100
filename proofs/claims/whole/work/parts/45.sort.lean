-- the second order: a sorted list is the repeated choice; the first order: a list
theorem plc_rng {E : EL} {ml : List Nat} : ∀ (k : Nat) (x : Int), r_plc E ml k x < ml.length ∨ r_plc E ml k x = 400 := by
  intro k
  induction k with
  | zero => intro x; exact Or.inr rfl
  | succ k ih =>
    intro x
    simp only [r_plc]
    by_cases hx : x < 0
    · rw [if_pos hx]; exact Or.inr rfl
    · rw [if_neg hx]
      cases hc : ml.contains x.toNat with
      | false => exact ih _
      | true =>
        left
        rw [cond_true]
        exact List.idxOf_lt_length_of_mem (List.contains_iff_mem.1 hc)
def k_cap (ml : List Nat) (p : Nat) : Int := if p < ml.length then (p : Int) else (ml.length : Int)
def r_ky (E : EL) (ml : List Nat) (e : Nat) : Int := k_cap ml (r_mp E ml e)
theorem ky_rng {E : EL} {ml : List Nat} {e : Nat} : 0 ≤ r_ky E ml e ∧ r_ky E ml e ≤ ml.length := by
  unfold r_ky k_cap
  split <;> omega
theorem ky_sec {E : EL} {ml : List Nat} (hl : ml.length ≤ 400) {rk : Nat → Int} {e a : Nat} (ha : rk a = r_ky E ml a) : c_bef E rk (r_ky E ml e) e a = r_sec E ml e a := by
  unfold c_bef r_sec
  rw [ha]
  have h1 : r_mp E ml e < ml.length ∨ r_mp E ml e = 400 := plc_rng _ _
  have h2 : r_mp E ml a < ml.length ∨ r_mp E ml a = 400 := plc_rng _ _
  unfold r_ky k_cap
  generalize r_mp E ml e = x at *
  generalize r_mp E ml a = y at *
  by_cases hxy : x = y
  · subst hxy
    rw [if_pos rfl, if_pos rfl]
  · rw [if_neg hxy]
    have : ¬ ((if y < ml.length then (y : Int) else (ml.length : Int)) = if x < ml.length then (x : Int) else (ml.length : Int)) := by
      split <;> split <;> omega
    rw [if_neg this]
    apply Bool.eq_iff_iff.2
    simp only [decide_eq_true_eq]
    split <;> split <;> omega
theorem r_sec_tr {E : EL} {ml : List Nat} {a b c : Nat} (h1 : r_sec E ml a b = true) (h2 : r_sec E ml b c = true) : r_sec E ml a c = true := by
  unfold r_sec at *
  split at h1
  · split at h2
    · rw [if_pos (by omega)]; exact r_old_tr h1 h2
    · rw [if_neg (by omega)]; simp only [decide_eq_true_eq] at *; omega
  · split at h2
    · rw [if_neg (by simp only [decide_eq_true_eq] at h1; omega)]; simp only [decide_eq_true_eq] at *; omega
    · simp only [decide_eq_true_eq] at h1 h2
      rw [if_neg (by omega)]; simp only [decide_eq_true_eq]; omega
theorem r_sec_as {E : EL} {ml : List Nat} {a b : Nat} (h1 : r_sec E ml a b = true) : r_sec E ml b a = false := by
  unfold r_sec r_old at *
  split at h1
  · rename_i e1
    rw [if_pos e1.symm]
    split at h1
    · rename_i e2
      rw [if_pos e2.symm]
      simp only [decide_eq_true_eq, decide_eq_false_iff_not] at *
      omega
    · rename_i e2
      rw [if_neg (fun z => e2 z.symm)]
      simp only [decide_eq_true_eq, decide_eq_false_iff_not] at *
      omega
  · rename_i e1
    rw [if_neg (fun z => e1 z.symm)]
    simp only [decide_eq_true_eq, decide_eq_false_iff_not] at *
    omega
theorem r_sec_tot {E : EL} {ml : List Nat} {a b : Nat} (ha : a < 400) (hb : b < 400) (hne : a ≠ b) : r_sec E ml a b = true ∨ r_sec E ml b a = true := by
  unfold r_sec r_old
  by_cases h1 : r_mp E ml a = r_mp E ml b
  · rw [if_pos h1, if_pos h1.symm]
    by_cases h2 : e_tm (E a) = e_tm (E b)
    · rw [if_pos h2, if_pos h2.symm]
      simp only [decide_eq_true_eq]
      have hne2 : ¬ e_id a = e_id b := fun z => hne (e_id_inj ha hb z)
      omega
    · rw [if_neg h2, if_neg (fun z => h2 z.symm)]
      simp only [decide_eq_true_eq]
      omega
  · rw [if_neg h1, if_neg (fun z => h1 z.symm)]
    simp only [decide_eq_true_eq]
    omega
-- the choice
theorem best2_none {E : EL} {ml : List Nat} {cf : Nat → Bool} : ∀ {k : Nat}, r_best2 E ml cf k = none → ∀ f, f < k → cf f = false := by
  intro j
  induction j with
  | zero => intro _ f hf; omega
  | succ j ihj =>
    intro hn f hf
    simp only [r_best2] at hn
    cases hbj : r_best2 E ml cf j with
    | some g =>
      rw [hbj] at hn
      simp only at hn
      cases hc : (cf j && r_sec E ml j g) <;> rw [hc] at hn <;> cases hn
    | none =>
      rw [hbj] at hn
      simp only [Bool.and_true] at hn
      cases hc : cf j with
      | true => rw [hc] at hn; cases hn
      | false =>
        by_cases hfj : f = j
        · subst hfj; exact hc
        · exact ihj hbj f (by omega)
theorem best2_some {E : EL} {ml : List Nat} {cf : Nat → Bool} : ∀ {k e : Nat}, k ≤ 400 → r_best2 E ml cf k = some e → e < k ∧ cf e = true ∧ ∀ f, f < k → cf f = true → f ≠ e → r_sec E ml f e = false := by
  intro k
  induction k with
  | zero => intro e _ h; cases h
  | succ k ih =>
    intro e hk h
    simp only [r_best2] at h
    cases hb : r_best2 E ml cf k with
    | none =>
      rw [hb] at h
      simp only [Bool.and_true] at h
      cases hc : cf k with
      | false => rw [hc] at h; cases h
      | true =>
        rw [hc] at h
        cases h
        refine ⟨by omega, hc, fun f hf z1 z3 => ?_⟩
        have := best2_none hb f (by omega)
        rw [this] at z1; cases z1
    | some g =>
      obtain ⟨g1, g2, g4⟩ := ih (by omega) hb
      rw [hb] at h
      simp only at h
      cases hc : (cf k && r_sec E ml k g) with
      | false =>
        rw [hc] at h
        cases h
        refine ⟨by omega, g2, fun f hf z1 z3 => ?_⟩
        by_cases hfk : f = k
        · subst hfk
          rw [z1] at hc
          simpa using hc
        · exact g4 f (by omega) z1 z3
      | true =>
        rw [hc] at h
        cases h
        simp only [Bool.and_eq_true] at hc
        refine ⟨by omega, hc.1, fun f hf z1 z3 => ?_⟩
        by_cases hfg : f = g
        · subst hfg; exact r_sec_as hc.2
        · have h3 := g4 f (by omega) z1 hfg
          rw [← Bool.not_eq_true]
          intro hfe
          rw [r_sec_tr hfe hc.2] at h3
          cases h3
theorem f_off_iff {f : Nat → Bool} {e y : Nat} : f_off f e y = true ↔ y ≠ e ∧ f y = true := by
  rw [f_off_d]
  simp only [Bool.and_eq_true, Bool.not_eq_true', decide_eq_false_iff_not]
  try exact Iff.rfl
theorem ord2_fold {N : Nat} {E : EL} {ml : List Nat} (hN : N ≤ 400) : ∀ (Q : List Nat) (cf : Nat → Bool) (s : SS) (n : Nat), Q.Pairwise (fun a b => r_sec E ml a b = true) → (∀ y, cf y = true ↔ y ∈ Q) → (∀ y ∈ Q, y < N) → Q.length ≤ n → r_ord2 N E ml n cf s = Q.foldl (r_try E) s := by
  intro Q
  induction Q with
  | nil =>
    intro cf s n _ hc _ _
    cases n with
    | zero => rfl
    | succ n =>
      simp only [r_ord2]
      cases hb : r_best2 E ml cf N with
      | none => rfl
      | some e =>
        obtain ⟨-, h, -⟩ := best2_some hN hb
        cases (hc e).1 h
  | cons x r ih =>
    intro cf s n hp hc hN' hl
    obtain ⟨m, rfl⟩ : ∃ m, n = m + 1 := ⟨n - 1, by simp at hl; omega⟩
    rw [List.pairwise_cons] at hp
    have hx := hN' x List.mem_cons_self
    have hb : r_best2 E ml cf N = some x := by
      cases hb : r_best2 E ml cf N with
      | none =>
        have := best2_none hb x hx
        rw [(hc x).2 List.mem_cons_self] at this
        cases this
      | some e =>
        obtain ⟨h1, h2, h3⟩ := best2_some hN hb
        by_cases he : x = e
        · rw [he]
        · have := h3 x hx ((hc x).2 List.mem_cons_self) he
          rcases List.mem_cons.1 ((hc e).1 h2) with z | z
          · exact absurd z.symm he
          · rw [hp.1 e z] at this; cases this
    have hxr : x ∉ r := by
      intro z
      have h1 := hp.1 x z
      rw [r_sec_as h1] at h1
      cases h1
    simp only [r_ord2, hb, List.foldl_cons]
    refine ih _ _ _ hp.2 (fun y => ?_) (fun y hy => hN' y (List.mem_cons_of_mem _ hy)) (by simp at hl; omega)
    rw [f_off_iff, hc y, List.mem_cons]
    constructor
    · rintro ⟨a, b | b⟩
      · exact absurd b a
      · exact b
    · intro z
      exact ⟨fun q => hxr (q ▸ z), Or.inr z⟩
-- the first order's list
theorem cnt_off {pw : Nat → Bool} {e : Nat} : ∀ {N : Nat}, pw e = true → e < N → b_cnt N pw = b_cnt N (f_off pw e) + 1 := by
  intro N
  induction N with
  | zero => intro _ h; omega
  | succ N ih =>
    intro h1 h2
    simp only [b_cnt]
    by_cases he : e = N
    · subst he
      have : f_off pw e e = false := by
        rw [← Bool.not_eq_true, f_off_iff]; exact fun z => z.1 rfl
      rw [this, h1, b_cnt_congr (f := f_off pw e) (g := pw) (fun i hi => by
        apply Bool.eq_iff_iff.2
        rw [f_off_iff]
        exact ⟨fun z => z.2, fun z => ⟨by omega, z⟩⟩)]
      rfl
    · have : f_off pw e N = pw N := by
        apply Bool.eq_iff_iff.2
        rw [f_off_iff]
        exact ⟨fun z => z.2, fun z => ⟨fun q => he q.symm, z⟩⟩
      rw [this, ih h1 (by omega)]
      omega
theorem cnt_0 {pw : Nat → Bool} : ∀ {N : Nat}, b_cnt N pw = 0 → ∀ y, y < N → pw y = false := by
  intro N
  induction N with
  | zero => intro _ y hy; omega
  | succ N ih =>
    intro h y hy
    simp only [b_cnt] at h
    by_cases hyN : y = N
    · subst hyN
      cases hp : pw y with
      | false => rfl
      | true => rw [hp, cond_true] at h; omega
    · exact ih (by omega) y (by omega)
theorem best1_ex {N : Nat} {E : EL} {pw : Nat → Bool} (hN : N ≤ 400) (hC : CW N E) (hpw : ∀ y, N ≤ y → pw y = false) {y : Nat} (hy : pw y = true) : ∃ e, r_best1 N E pw N = some e := by
  cases hb : r_best1 N E pw N with
  | some e => exact ⟨e, rfl⟩
  | none =>
    exfalso
    have hyN : y < N := by
      rcases Nat.lt_or_ge y N with z | z
      · exact z
      · rw [hpw y z] at hy; cases hy
    obtain ⟨j, hj, hfr⟩ := ff_ex (M := v_up pw N) hN hC hpw (fun y => by
      rw [memb_iff, v_up_mem]
      constructor
      · intro hy
        refine ⟨?_, hy⟩
        rcases Nat.lt_or_ge y N with z | z
        · exact z
        · rw [hpw y z] at hy; cases hy
      · exact fun z => z.2) (by
      have : y ∈ v_up pw N := v_up_mem.2 ⟨hyN, hy⟩
      exact List.length_pos_of_mem this)
    have hm := v_up_mem.1 (getD_mem hj)
    rw [fr_eq hN hpw] at hfr
    exact best1_none hb _ hm.1 ⟨hm.2, hfr⟩
theorem q1_all {N : Nat} {E : EL} (hN : N ≤ 400) (hC : CW N E) : ∀ (n : Nat) (pw : Nat → Bool), (∀ y, N ≤ y → pw y = false) → b_cnt N pw ≤ n → (∀ y, y ∈ r_q1 N E n pw ↔ pw y = true) ∧ r_q1 N E n pw = r_q1 N E (b_cnt N pw) pw := by
  intro n
  induction n with
  | zero =>
    intro pw hpw hc
    have h0 : b_cnt N pw = 0 := by omega
    refine ⟨fun y => ?_, by rw [h0]⟩
    simp only [r_q1, List.not_mem_nil, false_iff, Bool.not_eq_true]
    rcases Nat.lt_or_ge y N with z | z
    · exact cnt_0 h0 y z
    · exact hpw y z
  | succ n ih =>
    intro pw hpw hc
    cases hcn : b_cnt N pw with
    | zero =>
      have hall : ∀ y, pw y = false := fun y => by
        rcases Nat.lt_or_ge y N with z | z
        · exact cnt_0 hcn y z
        · exact hpw y z
      have hb : r_best1 N E pw N = none := by
        cases hb : r_best1 N E pw N with
        | none => rfl
        | some e =>
          have := (best1_some hN hb).2.1
          rw [hall e] at this; cases this
      simp only [r_q1, hb, List.not_mem_nil, false_iff, Bool.not_eq_true]
      exact ⟨hall, trivial⟩
    | succ c =>
      have hex : ∃ y, pw y = true := by
        rcases Classical.em (∃ y, pw y = true) with z | z
        · exact z
        · exfalso
          have hz : ∀ y, pw y = false := fun y => by
            rw [← Bool.not_eq_true]; exact fun q => z ⟨y, q⟩
          have : b_cnt N pw = b_cnt N (fun _ => false) := b_cnt_congr (fun i _ => hz i)
          have h0 : ∀ N, b_cnt N (fun _ => false) = 0 := by
            intro N
            induction N with
            | zero => rfl
            | succ N ih => simp [b_cnt, ih]
          rw [h0] at this
          omega
      obtain ⟨y, hy⟩ := hex
      obtain ⟨e, he⟩ := best1_ex hN hC hpw hy
      obtain ⟨e1, e2, -⟩ := best1_some hN he
      have hco := cnt_off (N := N) e2 e1
      have hoff : ∀ y, N ≤ y → f_off pw e y = false := fun y hy => by
        rw [← Bool.not_eq_true, f_off_iff, hpw y hy]
        rintro ⟨-, z⟩; cases z
      obtain ⟨i1, i2⟩ := ih (f_off pw e) hoff (by omega)
      have hcc : b_cnt N (f_off pw e) = c := by omega
      rw [hcc] at i2
      simp only [r_q1, he]
      refine ⟨fun y => ?_, by rw [i2]⟩
      rw [List.mem_cons, i1 y, f_off_iff]
      constructor
      · rintro (rfl | z)
        · exact e2
        · exact z.2
      · intro z
        by_cases hye : y = e
        · exact Or.inl hye
        · exact Or.inr ⟨hye, z⟩
theorem ord1_fold {N : Nat} {E : EL} : ∀ (n : Nat) (pw cf : Nat → Bool) (s : SS), r_ord1 N E n pw cf s = (fun y => cf y && !(r_q1 N E n pw).contains y, (r_q1 N E n pw).foldl (r_try E) s) := by
  intro n
  induction n with
  | zero =>
    intro pw cf s
    simp [r_ord1, r_q1]
  | succ n ih =>
    intro pw cf s
    simp only [r_ord1, r_q1]
    cases r_best1 N E pw N with
    | none => simp
    | some e =>
      simp only [ih, List.foldl_cons]
      congr 1
      funext y
      apply Bool.eq_iff_iff.2
      simp only [Bool.and_eq_true, f_off_iff, Bool.not_eq_true', List.contains_cons, Bool.or_eq_false_iff, beq_eq_false_iff_ne]
      constructor
      · rintro ⟨⟨a, b⟩, c⟩; exact ⟨b, a, c⟩
      · rintro ⟨b, a, c⟩; exact ⟨⟨a, b⟩, c⟩
