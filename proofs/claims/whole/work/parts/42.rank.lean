-- Resolver.orderOne whole; rankMainline
theorem v_up_mem {dh : Nat → Bool} {n y : Nat} : y ∈ v_up dh n ↔ y < n ∧ dh y = true := by
  induction n with
  | zero => simp [v_up]
  | succ n ih =>
    simp only [v_up]
    cases hd : dh n with
    | false =>
      rw [cond_false, ih]
      constructor
      · rintro ⟨a, b⟩; exact ⟨by omega, b⟩
      · rintro ⟨a, b⟩
        refine ⟨?_, b⟩
        have : y ≠ n := by rintro rfl; rw [hd] at b; cases b
        omega
    | true =>
      rw [cond_true, List.mem_append, ih, List.mem_singleton]
      constructor
      · rintro (⟨a, b⟩ | rfl)
        · exact ⟨by omega, b⟩
        · exact ⟨by omega, hd⟩
      · rintro ⟨a, b⟩
        by_cases h : y = n
        · exact Or.inr h
        · exact Or.inl ⟨by omega, b⟩
theorem memb_iff {M : List Nat} {y : Nat} : memb M y ↔ y ∈ M := by
  constructor
  · rintro ⟨i, hi, rfl⟩; exact getD_mem hi
  · intro h
    obtain ⟨i, hi, he⟩ := List.getElem_of_mem h
    exact ⟨i, hi, by rw [List.getD_eq_getElem?_getD, List.getElem?_eq_getElem hi]; exact he⟩
theorem v_up_inj {dh : Nat → Bool} {n : Nat} : inj_ (v_up dh n) := by
  have key : ∀ n, (v_up dh n).Pairwise (· < ·) := by
    intro n
    induction n with
    | zero => exact List.Pairwise.nil
    | succ n ih =>
      simp only [v_up]
      cases dh n with
      | false => exact ih
      | true =>
        rw [cond_true, List.pairwise_append]
        refine ⟨ih, List.pairwise_singleton _ _, fun a ha b hb => ?_⟩
        rw [List.mem_singleton] at hb
        have := (v_up_mem.1 ha).1
        omega
  intro i j hi hj he
  have hp := List.pairwise_iff_getElem.1 (key n)
  rw [List.getD_eq_getElem?_getD, List.getElem?_eq_getElem hi, List.getD_eq_getElem?_getD, List.getElem?_eq_getElem hj] at he
  simp only [Option.getD_some] at he
  rcases Nat.lt_trichotomy i j with h | h | h
  · have := hp i j hi hj h; omega
  · exact h
  · have := hp j i hj hi h; omega
set_option maxHeartbeats 2000000 in
theorem c_orderOne {h : AH} {R : Nat → Prop} {ad : Nat → Nat} {N Z lo m : Nat} {E : EL} (hN : N ≤ 400) (hZR : rsN R Z) (hW : WE N E) (hC : CW N E) (hOW : ∀ n, n < N → sOK N E (e_ow (E n))) (n1 : ¬ (Z ≤ lo ∧ lo < Z + 19)) (n2 : ¬ (Z ≤ m ∧ m < Z + 19)) {fa ft tp ls qu : Nat → Option Nat} {gc gs gx gp : Nat → BitVec 64} {rk : Nat → Int} (q : rsR h Z fa ft gc gs gx gp tp ls qu rk) (hG : lgR h lo m N ad) (hL : LG h R ad N E) (hpw : ∀ y, N ≤ y → bS gp y = false) : ∃ h' gp' ls' qu', Em mResolver_orderOne 3 [vR Z, vR lo] h (some (.inl ((r_q1 N E (b_cnt N (bS gp)) (bS gp)).length : Int))) h' ∧ rsR h' Z fa ft gc gs gx gp' tp ls' qu' rk ∧ rz Z h h' ∧ lsR ad (r_q1 N E (b_cnt N (bS gp)) (bS gp)) qu' ∧ (r_q1 N E (b_cnt N (bS gp)) (bS gp)).length = b_cnt N (bS gp) ∧ ∀ e ∈ r_q1 N E (b_cnt N (bS gp)) (bS gp), bS gp e = true := by
  obtain ⟨ls1, hls1, c1⟩ := c_list (f := ls) hN (by omega) (by omega) (by omega) (by omega) (hZR 16 (by omega) (by omega) (by omega)) q.c0 q.c13 q.c14 hG hL q.c16
  have qq1 := q.u_ls (z := ls1)
  have z1 := rz_put (Z := Z) (h := h) (i := 16) (e := cEa 400 ls1) (by omega) (by omega) (by omega)
  have hcl := b_cnt_le (bS gp) N
  obtain ⟨h', gp', ls', qu', a1, a2, a3, a4, a5, hE⟩ := l_ord1 (j1 := some (vR lo)) hN hZR hW hC hOW (sz := b_cnt N (bS gp)) (by omega) (b_cnt N (bS gp)) 0 _ (v_up (bS gp) N) [] gp ls1 qu none (Nat.zero_add _) (v_up_len _ _) rfl (fun n hn => (v_up_mem.1 hn).1) v_up_inj (fun y => by
    rw [memb_iff, v_up_mem]
    constructor
    · intro hy
      refine ⟨?_, hy⟩
      rcases Nat.lt_or_ge y N with z | z
      · exact z
      · rw [hpw y z] at hy; cases hy
    · exact fun z => z.2) hls1 (fun i hi => absurd hi (Nat.not_lt_zero _)) qq1 (hL.fz (rz_fz z1 hZR))
  rw [List.nil_append] at a3
  refine ⟨h', gp', ls', qu', ?_, a1, rz_tr z1 a2, a3, a4, a5⟩
  rw [a4]
  rw [v_up_len] at c1
  show Ev tResolver_orderOne 0 [some (vR Z), some (vR lo), none, none, none] [] h _
  clear a3 a4 a5 hpw hls1
  generalize b_cnt N (bS gp) = C at *
  iterate 2 (refine ev_st rfl rfl ?_)
  refine ev_getf rfl q.c0 (by rfl) ?_
  iterate 1 (refine ev_st rfl rfl ?_)
  refine ev_callV rfl rfl q.c0 rfl c1 ?_
  iterate 3 (refine ev_st rfl rfl ?_)
  exact hE
set_option maxHeartbeats 2000000 in
theorem l_rank0 {Z : Nat} {j1 j3 : Option AV} : ∀ (k i : Nat) (h : AH) (rk : Nat → Int), i + k = 400 → h.2.2 Z = some (cRes Z) → h.2.2 (Z + 18) = some (cIa 400 (fill i (fun _ => -1) rk)) → ∀ o, Ev tResolver_rankMainline 22 [some (vR Z), j1, some (.inl 400), j3] [] (ah_put h (Z + 18) (cIa 400 (fill 400 (fun _ => -1) rk))) o → Ev tResolver_rankMainline 2 [some (vR Z), j1, some (.inl (i : Int)), j3] [] h o := by
  intro k
  induction k with
  | zero =>
    intro i h rk hi hZ hr o K
    obtain rfl : i = 400 := by omega
    rw [ah_same hr] at K
    iterate 2 (refine ev_st rfl rfl ?_)
    refine ev_icT rfl (by simp only [ick, w32]; omega) ?_
    exact K
  | succ k ih =>
    intro i h rk hi hZ hr o K
    have ih := ih (i + 1) (ah_put h (Z + 18) (cIa 400 (fill (i + 1) (fun _ => -1) rk))) rk (by omega) (ah_ne (by omega) hZ) ah_eq o (by rw [ah_putput]; exact K)
    clear K
    rw [← fill_up] at ih
    iterate 2 (refine ev_st rfl rfl ?_)
    refine ev_icF rfl (by simp only [ick, w32]; omega) ?_
    iterate 1 (refine ev_st rfl rfl ?_)
    refine ev_getf rfl hZ (by rfl) ?_
    iterate 2 (refine ev_st rfl rfl ?_)
    refine ev_iastN rfl hr (by omega) (by omega) ?_
    iterate 2 (refine ev_st rfl rfl ?_)
    rw [nat_1]
    exact ih
-- authorities are earlier than their event
def OL (N : Nat) (E : EL) : Prop := ∀ n, n < N → sOK n E (e_ow (E n))
theorem sOK_mono {n N : Nat} {E : EL} {s : SS} (h : sOK n E s) (hn : n ≤ N) : sOK N E s := by
  refine ⟨fun p hp => ?_, h.2⟩
  rcases h.1 p hp with z | ⟨z1, z2, z3⟩
  · exact Or.inl z
  · exact Or.inr ⟨z1, by omega, z3⟩
-- the ranks of a mainline whose first is x and whose place is d
def r_rk (rk : Nat → Int) : List Nat → Nat → Nat → Int
  | [], _ => rk
  | x :: r, d => r_rk (va_up rk x (d : Int)) r (d + 1)
theorem main_len {N : Nat} {E : EL} (hO : OL N E) : ∀ (k : Nat) (x : Int), x = -1 ∨ (∃ n, n < N ∧ n < k ∧ x = (n : Int)) → (r_main E (k + 1) x).length ≤ k := by
  intro k
  induction k with
  | zero =>
    intro x hx
    rcases hx with rfl | ⟨n, -, h, -⟩
    · simp [r_main]
    · omega
  | succ k ih =>
    intro x hx
    rcases hx with rfl | ⟨n, hn, hk, rfl⟩
    · simp [r_main]
    · simp only [r_main]
      rw [if_neg (by omega), Int.toNat_natCast, List.length_cons]
      have h1 := (hO n hn).at 13
      have := ih (e_ow (E n) 13) (by
        rcases h1 with z | ⟨m, z1, z2, -⟩
        · exact Or.inl z
        · exact Or.inr ⟨m, by omega, by omega, z2⟩)
      simp only [r_main] at this
      omega
set_option maxHeartbeats 2000000 in
theorem l_rank1 {R : Nat → Prop} {ad : Nat → Nat} {N Z : Nat} {E : EL} (hN : N ≤ 400) (hZR : rsN R Z) (hO : OL N E) {j1 : Option AV} : ∀ (k : Nat) (x : Int) (d : Nat) (h : AH) (rk : Nat → Int), x = -1 ∨ (∃ n, n < N ∧ n < k ∧ x = (n : Int)) → d + k ≤ 400 → h.2.2 Z = some (cRes Z) → h.2.2 (Z + 18) = some (cIa 400 rk) → LG h R ad N E → Ev tResolver_rankMainline 30 [some (vR Z), j1, some (.inr (.inr (oa ad x))), some (.inl (d : Int))] [] h (some (.inl ((d + (r_main E (k + 1) x).length : Nat) : Int)), ah_put h (Z + 18) (cIa 400 (r_rk rk (r_main E (k + 1) x) d))) := by
  intro k
  induction k with
  | zero =>
    intro x d h rk hx hd hZ hr hL
    rcases hx with rfl | ⟨n, -, h0, -⟩
    · simp only [r_main, if_pos (show (-1 : Int) < 0 by omega), r_rk, List.length_nil, Nat.add_zero]
      rw [ah_same hr, oa_none rfl]
      repeat (refine ev_st rfl rfl ?_)
      exact ev_rt rfl rfl rfl
    · omega
  | succ k ih =>
    intro x d h rk hx hd hZ hr hL
    rcases hx with rfl | ⟨n, hn, hk, rfl⟩
    · simp only [r_main, if_pos (show (-1 : Int) < 0 by omega), r_rk, List.length_nil, Nat.add_zero]
      rw [ah_same hr, oa_none rfl]
      repeat (refine ev_st rfl rfl ?_)
      exact ev_rt rfl rfl rfl
    · have hm : r_main E (k + 1 + 1) (n : Int) = n :: r_main E (k + 1) (e_ow (E n) 13) := by
        simp only [r_main]
        rw [if_neg (by omega), Int.toNat_natCast]
      rw [hm]
      simp only [r_rk, List.length_cons]
      have r18 : ¬ R (Z + 18) := hZR 18 (by omega) (by omega) (by omega)
      have hL1 : LG (ah_put h (Z + 18) (cIa 400 (va_up rk n (d : Int)))) R ad N E := hL.fz (fz.put r18)
      have ih := ih (e_ow (E n) 13) (d + 1) (ah_put h (Z + 18) (cIa 400 (va_up rk n (d : Int)))) _ (by
        rcases (hO n hn).at 13 with z | ⟨m, z1, z2, -⟩
        · exact Or.inl z
        · exact Or.inr ⟨m, by omega, by omega, z2⟩) (by omega) (ah_ne (by omega) hZ) ah_eq hL1
      rw [ah_putput] at ih
      rw [show d + ((r_main E (k + 1) (e_ow (E n) 13)).length + 1) = d + 1 + (r_main E (k + 1) (e_ow (E n) 13)).length by omega]
      obtain ⟨c, pa, gr, sl, lv, er, bh, gd, pf, hc, -⟩ := LG_gr hL hn
      obtain ⟨c', pa', gr', sl', lv', er', bh', gd', pf', hc', hg', -⟩ := LG_gr hL1 hn
      have cpb := c_powBelow hc' hg'.toR
      rw [oa_some (n := n) rfl]
      clear hm
      repeat (first | refine ev_st rfl rfl ?_ | refine ev_getf rfl (by first | assumption | exact ah_eq | (refine ah_ne (by omega) ?_; first | assumption | exact ah_eq | (refine ah_ne (by omega) ?_; first | assumption | exact ah_eq | (refine ah_ne (by omega) ?_; first | assumption | exact ah_eq)))) (by rfl) ?_ | refine ev_ifT rfl (by simp only [ick, w32]; omega) ?_ | refine ev_ifF rfl (by simp only [ick, w32]; omega) ?_ | refine ev_icT rfl (by simp only [ick, w32]; omega) ?_ | refine ev_icF rfl (by simp only [ick, w32]; omega) ?_)
      refine ev_iastN rfl hr (by omega) (by omega) ?_
      iterate 2 (refine ev_st rfl rfl ?_)
      refine ev_callV rfl rfl hc' rfl cpb ?_
      iterate 2 (refine ev_st rfl rfl ?_)
      rw [nat_1]
      exact ih
