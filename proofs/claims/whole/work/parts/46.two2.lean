-- Resolver.orderTwo whole
theorem main_kd {N : Nat} {E : EL} (hO : OL N E) (hW : WE N E) : ∀ (k : Nat) (x : Int), x = -1 ∨ (∃ n, n < N ∧ x = (n : Int) ∧ e_kd (E n) = 2) → ∀ y ∈ r_main E k x, e_kd (E y) = 2 := by
  intro k
  induction k with
  | zero => intro x _ y hy; simp [r_main] at hy
  | succ k ih =>
    intro x hx y hy
    simp only [r_main] at hy
    rcases hx with rfl | ⟨n, hn, rfl, hk⟩
    · rw [if_pos (by omega)] at hy; cases hy
    · rw [if_neg (by omega), Int.toNat_natCast] at hy
      rcases List.mem_cons.1 hy with rfl | hy
      · exact hk
      · refine ih _ ?_ y hy
        rcases (hO n hn).at 13 with z | ⟨m, z1, z2, z3⟩
        · exact Or.inl z
        · exact Or.inr ⟨m, by omega, z2, pl_13 (hW m (by omega)) z3⟩
theorem find_plc {N : Nat} {E : EL} (hO : OL N E) (hW : WE N E) {rk : Nat → Int} {ml : List Nat} (hl : ml.length ≤ 400) (hrk : ∀ n, n < N → e_kd (E n) = 2 → rk n = if n ∈ ml then (ml.idxOf n : Int) else -1) : ∀ (k : Nat) (x : Int), x = -1 ∨ (∃ n, n < N ∧ x = (n : Int) ∧ e_kd (E n) = 2) → r_find rk E ml.length k x = k_cap ml (r_plc E ml k x) := by
  have h4 : k_cap ml 400 = (ml.length : Int) := by
    unfold k_cap; rw [if_neg (by omega)]
  intro k
  induction k with
  | zero => intro x _; exact h4.symm
  | succ k ih =>
    intro x hx
    simp only [r_find, r_plc]
    rcases hx with rfl | ⟨n, hn, rfl, hk⟩
    · rw [if_pos (by omega), if_pos (by omega)]; exact h4.symm
    · rw [if_neg (show ¬ (n : Int) < 0 by omega), if_neg (show ¬ (n : Int) < 0 by omega), Int.toNat_natCast, hrk n hn hk]
      by_cases hm : n ∈ ml
      · rw [if_pos hm, if_pos (by omega), List.contains_iff_mem.2 hm, cond_true]
        unfold k_cap
        rw [if_pos (List.idxOf_lt_length_of_mem hm)]
      · rw [if_neg hm, if_neg (by omega)]
        have : ml.contains n = false := by
          rw [← Bool.not_eq_true]; exact fun z => hm (List.contains_iff_mem.1 z)
        rw [this, cond_false]
        refine ih _ ?_
        rcases (hO n hn).at 13 with z | ⟨m, z1, z2, z3⟩
        · exact Or.inl z
        · exact Or.inr ⟨m, by omega, z2, pl_13 (hW m (by omega)) z3⟩
theorem plc_st {N : Nat} {E : EL} (hO : OL N E) {ml : List Nat} : ∀ (k : Nat) (x : Int), x = -1 ∨ (∃ n, n < N ∧ n < k ∧ x = (n : Int)) → r_plc E ml (k + 1) x = r_plc E ml k x := by
  intro k
  induction k with
  | zero =>
    intro x hx
    rcases hx with rfl | ⟨n, -, h, -⟩
    · rfl
    · omega
  | succ k ih =>
    intro x hx
    rcases hx with rfl | ⟨n, hn, hk, rfl⟩
    · rfl
    · have := ih (e_ow (E n) 13) (by
        rcases (hO n hn).at 13 with z | ⟨m, z1, z2, -⟩
        · exact Or.inl z
        · exact Or.inr ⟨m, by omega, by omega, z2⟩)
      rw [show r_plc E ml (k + 1 + 1) (n : Int) = if (n : Int) < 0 then 400 else bif ml.contains (n : Int).toNat then ml.idxOf (n : Int).toNat else r_plc E ml (k + 1) (e_ow (E (n : Int).toNat) 13) from rfl, show r_plc E ml (k + 1) (n : Int) = if (n : Int) < 0 then 400 else bif ml.contains (n : Int).toNat then ml.idxOf (n : Int).toNat else r_plc E ml k (e_ow (E (n : Int).toNat) 13) from rfl, Int.toNat_natCast, this]
theorem find_ky {N : Nat} {E : EL} (hN : N ≤ 400) (hO : OL N E) (hW : WE N E) {rk : Nat → Int} {ml : List Nat} (hl : ml.length ≤ 400) (hrk : ∀ n, n < N → e_kd (E n) = 2 → rk n = if n ∈ ml then (ml.idxOf n : Int) else -1) {e : Nat} (he : e < N) (hk : ¬ e_kd (E e) = 2) (hm : rk e = -1) : r_find rk E ml.length 401 (e : Int) = r_ky E ml e := by
  have h13 : e_ow (E e) 13 = -1 ∨ ∃ n, n < N ∧ n < 400 ∧ e_ow (E e) 13 = (n : Int) ∧ e_kd (E n) = 2 := by
    rcases (hO e he).at 13 with z | ⟨m, z1, z2, z3⟩
    · exact Or.inl z
    · exact Or.inr ⟨m, by omega, by omega, z2, pl_13 (hW m (by omega)) z3⟩
  unfold r_ky r_mp
  rw [if_neg hk, plc_st hO 400 _ (by
    rcases h13 with z | ⟨n, a, b, c, -⟩
    · exact Or.inl z
    · exact Or.inr ⟨n, a, b, c⟩)]
  rw [← find_plc hO hW hl hrk 400 _ (by
    rcases h13 with z | ⟨n, a, b, c, d⟩
    · exact Or.inl z
    · exact Or.inr ⟨n, a, c, d⟩)]
  rw [show r_find rk E ml.length 401 (e : Int) = if (e : Int) < 0 then (ml.length : Int) else if 0 ≤ rk (e : Int).toNat then rk (e : Int).toNat else r_find rk E ml.length 400 (e_ow (E (e : Int).toNat) 13) from rfl]
  rw [if_neg (by omega), Int.toNat_natCast, hm, if_neg (by omega)]
theorem mem_getD {l : List Nat} {y : Nat} (h : y ∈ l) : ∃ i, i < l.length ∧ l.getD i 0 = y := memb_iff.2 h
theorem at_sorted {E : EL} {ml Q : List Nat} {t e : Nat} (ht : t ≤ Q.length) (hQ : Q.Pairwise (fun a b => r_sec E ml a b = true)) (h4 : ∀ n ∈ Q, n < 400) (he : e < 400) (heQ : e ∉ Q) (h1 : ∀ j, t ≤ j → j < Q.length → r_sec E ml e (Q.getD j 0) = true) (h2 : 0 < t → r_sec E ml e (Q.getD (t - 1) 0) = false) : (l_at Q t e).Pairwise (fun a b => r_sec E ml a b = true) := by
  unfold l_at
  have hd := List.pairwise_append.1 (show (Q.take t ++ Q.drop t).Pairwise _ by rw [List.take_append_drop]; exact hQ)
  have hlast : ∀ a ∈ Q.take t, r_sec E ml a e = true := by
    intro a ha
    obtain ⟨j, hj, rfl⟩ := mem_getD ha
    rw [List.length_take] at hj
    have hjt : j < t := by omega
    have hjl : j < Q.length := by omega
    have e1 : (Q.take t).getD j 0 = Q.getD j 0 := by
      rw [List.getD_eq_getElem?_getD, List.getElem?_take_of_lt hjt, ← List.getD_eq_getElem?_getD]
    rw [e1]
    have hne : ∀ i, i < Q.length → Q.getD i 0 ≠ e := fun i hi z => heQ (z ▸ getD_mem hi)
    have hl : r_sec E ml (Q.getD (t - 1) 0) e = true := by
      rcases r_sec_tot (E := E) (ml := ml) he (h4 _ (getD_mem (show t - 1 < Q.length by omega))) (fun z => hne (t - 1) (by omega) z.symm) with z | z
      · rw [h2 (by omega)] at z; cases z
      · exact z
    by_cases hj1 : j = t - 1
    · rw [hj1]; exact hl
    · refine r_sec_tr ?_ hl
      have := List.pairwise_iff_getElem.1 hQ j (t - 1) hjl (by omega) (by omega)
      rw [List.getD_eq_getElem?_getD, List.getElem?_eq_getElem hjl, List.getD_eq_getElem?_getD, List.getElem?_eq_getElem (show t - 1 < Q.length by omega)]
      exact this
  rw [List.pairwise_append, List.pairwise_cons]
  refine ⟨hd.1, ⟨fun b hb => ?_, hd.2.1⟩, fun a ha b hb => ?_⟩
  · obtain ⟨j, hj, rfl⟩ := mem_getD hb
    rw [List.length_drop] at hj
    have e1 : (Q.drop t).getD j 0 = Q.getD (t + j) 0 := by
      rw [List.getD_eq_getElem?_getD, List.getElem?_drop, ← List.getD_eq_getElem?_getD]
    rw [e1]
    exact h1 _ (by omega) (by omega)
  · rcases List.mem_cons.1 hb with rfl | hb
    · exact hlast a ha
    · exact hd.2.2 a ha b hb
theorem at_mem {Q : List Nat} {t e y : Nat} : y ∈ l_at Q t e ↔ y = e ∨ y ∈ Q := by
  unfold l_at
  rw [List.mem_append, List.mem_cons]
  have : y ∈ Q ↔ y ∈ Q.take t ∨ y ∈ Q.drop t := by
    rw [← List.mem_append, List.take_append_drop]
  rw [this]
  constructor
  · rintro (a | a | a)
    · exact Or.inr (Or.inl a)
    · exact Or.inl a
    · exact Or.inr (Or.inr a)
  · rintro (a | a | a)
    · exact Or.inr (Or.inl a)
    · exact Or.inl a
    · exact Or.inr (Or.inr a)
set_option maxHeartbeats 4000000 in
theorem l_two {R : Nat → Prop} {ad : Nat → Nat} {N Z : Nat} {E : EL} (hN : N ≤ 400) (hZR : rsN R Z) (hW : WE N E) (hO : OL N E) {M ml : List Nat} (hml : ml.length ≤ 400) (hmk : ∀ y ∈ ml, e_kd (E y) = 2) (hM : ∀ n ∈ M, n < N ∧ ¬ e_kd (E n) = 2) (hMi : inj_ M) (hMl : M.length ≤ 400) {fa ft tp ls : Nat → Option Nat} {gc gs gx gp : Nat → BitVec 64} (hls : lsR ad M ls) {j1 j2 : Option AV} : ∀ (k i : Nat) (h : AH) (Q : List Nat) (qu : Nat → Option Nat) (rk : Nat → Int) (j6 j7 j8 : Option AV), i + k = M.length → Q.length = i → Q.Pairwise (fun a b => r_sec E ml a b = true) → (∀ y, y ∈ Q ↔ y ∈ M.take i) → lsR ad Q qu → (∀ n, n < 400 → -1 ≤ rk n ∧ rk n ≤ 400) → (∀ n, n ∈ Q → rk n = r_ky E ml n) → (∀ n, n < N → n ∉ Q → rk n = if n ∈ ml then (ml.idxOf n : Int) else -1) → rsR h Z fa ft gc gs gx gp tp ls qu rk → LG h R ad N E → ∃ h' Q' qu' rk', rsR h' Z fa ft gc gs gx gp tp ls qu' rk' ∧ rz Z h h' ∧ lsR ad Q' qu' ∧ Q'.length = M.length ∧ Q'.Pairwise (fun a b => r_sec E ml a b = true) ∧ (∀ y, y ∈ Q' ↔ y ∈ M) ∧ Ev tResolver_orderTwo 20 [some (vR Z), j1, j2, some (.inl (ml.length : Int)), some (.inl (M.length : Int)), some (.inl (i : Int)), j6, j7, j8] [] h (some (.inl (M.length : Int)), h') := by
  intro k
  induction k with
  | zero =>
    intro i h Q qu rk j6 j7 j8 hi hQ hs hm hqu hrk hk1 hk2 q hL
    rw [List.take_of_length_le (by omega)] at hm
    refine ⟨h, Q, qu, rk, q, rz_rf, hqu, by omega, hs, hm, ?_⟩
    clear hm hrk hk1 hk2 hs
    iterate 2 (refine ev_st rfl rfl ?_)
    refine ev_icT rfl (by simp only [ick, w32]; omega) ?_
    repeat (refine ev_st rfl rfl ?_)
    exact ev_rt rfl rfl rfl
  | succ k ih =>
    intro i h Q qu rk j6 j7 j8 hi hQ hs hm hqu hrk hk1 hk2 q hL
    have hi' : i < M.length := by omega
    obtain ⟨hen, hek⟩ := hM _ (getD_mem hi')
    have ef := hls i hi'
    have heM : M.getD i 0 ∉ Q := by
      intro z
      obtain ⟨j, hj, hje⟩ := mem_getD ((hm _).1 z)
      rw [List.length_take] at hj
      have e1 : (M.take i).getD j 0 = M.getD j 0 := by
        rw [List.getD_eq_getElem?_getD, List.getElem?_take_of_lt (by omega), ← List.getD_eq_getElem?_getD]
      rw [e1] at hje
      have := hMi j i (by omega) hi' hje
      omega
    have hQM : ∀ n ∈ Q, n < N ∧ ¬ e_kd (E n) = 2 := fun n hn => hM n (List.mem_of_mem_take ((hm n).1 hn))
    have hrk2 : ∀ n, n < N → e_kd (E n) = 2 → rk n = if n ∈ ml then (ml.idxOf n : Int) else -1 := fun n hn hk => hk2 n hn (fun z => (hQM n z).2 hk)
    have hem : M.getD i 0 ∉ ml := fun z => hek (hmk _ z)
    have her : rk (M.getD i 0) = -1 := by rw [hk2 _ hen heM, if_neg hem]
    have hky := find_ky hN hO hW hml hrk2 hen hek her
    have cr := c_rankOf hN hO q.c0 q.c18 hrk hL (bd := (ml.length : Int)) hen
    rw [hky] at cr
    have hkr : 0 ≤ r_ky E ml (M.getD i 0) ∧ r_ky E ml (M.getD i 0) ≤ ml.length := ky_rng
    generalize hge : M.getD i 0 = e at *
    obtain ⟨t', h1, qu1, a0, a1, a2, a3, a4, a5, hI⟩ := l_ins (j1 := j1) (j2 := j2) (j3 := some (.inl (ml.length : Int))) (j4 := some (.inl (M.length : Int))) (j5 := some (.inl (i : Int))) hN hZR hW (fun n hn => (hQM n hn).1) (by omega) hen (own := r_ky E ml e) (by omega) hrk Q.length h qu (Nat.le_refl _) q hL ⟨fun j hj => hqu j hj, fun j hj hj2 => by omega⟩ (fun j hj hj2 => by omega)
    have hL1 := hL.fz (rz_fz a2 hZR)
    have b4 : ∀ j, t' ≤ j → j < Q.length → r_sec E ml e (Q.getD j 0) = true := fun j hj hj2 => by
      rw [← ky_sec hml (hk1 _ (getD_mem hj2))]; exact a4 j hj hj2
    have b5 : 0 < t' → r_sec E ml e (Q.getD (t' - 1) 0) = false := fun hz => by
      rw [← ky_sec hml (hk1 _ (getD_mem (by omega)))]; exact a5 hz
    have hs1 := at_sorted (e := e) (t := t') (by omega) hs (fun n hn => by have := (hQM n hn).1; omega) (by omega) heM b4 b5
    have hqu1 := l_at_lsR (e := e) (by omega) a3
    obtain ⟨fsE, hEe⟩ := hL1.isE hen
    obtain ⟨c, pa, gr, lv, er, bh, hc, -⟩ := evR.cell hL1 hen
    have qq1 := a1.u_qu (z := va_up qu1 t' (some (ad e)))
    have qq2 := qq1.u_rk (z := va_up rk e (r_ky E ml e))
    have nad : ∀ i, i < 19 → i ≠ 1 → i ≠ 2 → ad e ≠ Z + i := fun i a b c z => hZR i a b c (z ▸ (hL _ hen).1)
    have z2 : rz Z h (ah_put (ah_put h1 (Z + 17) (cEa 400 (va_up qu1 t' (some (ad e))))) (Z + 18) (cIa 400 (va_up rk e (r_ky E ml e)))) := rz_tr (rz_tr a2 (rz_put (i := 17) (by omega) (by omega) (by omega))) (rz_put (i := 18) (by omega) (by omega) (by omega))
    obtain ⟨h', Q', qu', rk', c1, c2, c3, c4, c5, c6, hE⟩ := ih (i + 1) _ (l_at Q t' e) _ _ (some (vR (ad e))) (some (.inl (r_ky E ml e))) (some (.inl (t' : Int))) (by omega) (by rw [l_at_len (by omega)]; omega) hs1 (fun y => by
      rw [at_mem, take_snoc hi', List.mem_append, List.mem_singleton, hge, hm y]
      exact Or.comm) hqu1 (fun n hn => by
      simp only [va_up]
      by_cases hne : n = e
      · rw [if_pos hne]; omega
      · rw [if_neg hne]; exact hrk n hn) (fun n hn => by
      simp only [va_up]
      by_cases hne : n = e
      · rw [if_pos hne, hne]
      · rw [if_neg hne]
        exact hk1 n ((at_mem.1 hn).resolve_left hne)) (fun n hn hnQ => by
      simp only [va_up]
      have hne : ¬ n = e := fun z => hnQ (at_mem.2 (Or.inl z))
      rw [if_neg hne]
      exact hk2 n hn (fun z => hnQ (at_mem.2 (Or.inr z)))) qq2 (hL.fz (rz_fz z2 hZR))
    refine ⟨h', Q', qu', rk', c1, rz_tr z2 c2, c3, c4, c5, c6, ?_⟩
    rw [hQ] at hI
    have hI := hI (some (.inl (M.length : Int)), h')
    clear c3 c4 c5 c6 hs1 hm b4 b5 a4 a5 hs hrk hk1 hk2 hrk2 hqu1 ih hqu a3
    iterate 2 (refine ev_st rfl rfl ?_)
    refine ev_icF rfl (by simp only [ick, w32]; omega) ?_
    iterate 1 (refine ev_st rfl rfl ?_)
    refine ev_getf rfl q.c0 (by rfl) ?_
    iterate 1 (refine ev_st rfl rfl ?_)
    refine ev_aaldN rfl q.c16 (by omega) (by omega) ?_
    rw [ef]
    iterate 4 (refine ev_st rfl rfl ?_)
    refine ev_callV rfl rfl q.c0 rfl cr ?_
    iterate 3 (refine ev_st rfl rfl ?_)
    refine hI ?_
    iterate 1 (refine ev_st rfl rfl ?_)
    refine ev_getf rfl a1.c0 (by rfl) ?_
    iterate 2 (refine ev_st rfl rfl ?_)
    refine ev_aastS rfl a1.c17 hEe (by omega) (by omega) ?_
    iterate 1 (refine ev_st rfl rfl ?_)
    refine ev_getf rfl qq1.c0 (by rfl) ?_
    iterate 1 (refine ev_st rfl rfl ?_)
    refine ev_getf rfl (ah_ne (nad 17 (by omega) (by omega) (by omega)) hc) (by rfl) ?_
    iterate 1 (refine ev_st rfl rfl ?_)
    refine ev_iastN rfl qq1.c18 (by omega) (by omega) ?_
    iterate 2 (refine ev_st rfl rfl ?_)
    rw [nat_1]
    exact hE
set_option maxHeartbeats 4000000 in
theorem c_orderTwo {h : AH} {R : Nat → Prop} {ad : Nat → Nat} {N Z lo m s0 p0 : Nat} {E : EL} {σ : SS} {f0 : Nat → Option Nat} (hN : N ≤ 400) (hZR : rsN R Z) (hW : WE N E) (hO : OL N E) (n1 : ¬ (Z ≤ lo ∧ lo < Z + 19)) (n2 : ¬ (Z ≤ m ∧ m < Z + 19)) (ns : ¬ (Z ≤ s0 ∧ s0 < Z + 19)) (np : ¬ (Z ≤ p0 ∧ p0 < Z + 19)) {fa ft tp ls qu : Nat → Option Nat} {gc gs gx gp : Nat → BitVec 64} {rk : Nat → Int} (q : rsR h Z fa ft gc gs gx gp tp ls qu rk) (hG : lgR h lo m N ad) (hL : LG h R ad N E) (hs : h.2.2 s0 = some (cSt p0)) (hp : h.2.2 p0 = some (cEa 23 f0)) (hf : ∀ j, j < 23 → f0 j = oa ad (σ (pi_ j))) (hσ : sOK N E σ) (hgk : ∀ y, y < N → bS gc y = true → ¬ e_kd (E y) = 2) : ∃ h' Q ls' qu' rk', Em mResolver_orderTwo 6 [vR Z, vR s0, vR lo] h (some (.inl (Q.length : Int))) h' ∧ rsR h' Z fa ft gc gs gx gp tp ls' qu' rk' ∧ rz Z h h' ∧ lsR ad Q qu' ∧ Q.length ≤ N ∧ Q.Pairwise (fun a b => r_sec E (r_ml E σ) a b = true) ∧ ∀ y, y ∈ Q ↔ y < N ∧ bS gc y = true := by
  have cm := c_rankMainline hN hZR hO ns np q.c0 q.c18 hL hs hp hf hσ
  have h13 : σ 13 = -1 ∨ ∃ n, n < N ∧ σ 13 = (n : Int) ∧ e_kd (E n) = 2 := by
    rcases hσ.at 13 with z | ⟨n, z1, z2, z3⟩
    · exact Or.inl z
    · exact Or.inr ⟨n, z1, z2, pl_13 (hW n z1) z3⟩
  have h13b : σ 13 = -1 ∨ ∃ n, n < N ∧ n < 400 ∧ σ 13 = (n : Int) := by
    rcases h13 with z | ⟨n, z1, z2, -⟩
    · exact Or.inl z
    · exact Or.inr ⟨n, z1, by omega, z2⟩
  have h13c : σ 13 = -1 ∨ ∃ n, n < N ∧ σ 13 = (n : Int) := by
    rcases h13 with z | ⟨n, z1, z2, -⟩
    · exact Or.inl z
    · exact Or.inr ⟨n, z1, z2⟩
  have hml : (r_ml E σ).length ≤ 400 := main_len hO 400 _ h13b
  have hmk : ∀ y ∈ r_ml E σ, e_kd (E y) = 2 := main_kd hO hW 401 _ h13
  have hmn : (r_ml E σ).Nodup := main_nodup hO 401 _ h13c
  have hrk0 : ∀ n, n < 400 → r_rk (fill 400 (fun _ => -1) rk) (r_ml E σ) 0 n = if n ∈ r_ml E σ then ((r_ml E σ).idxOf n : Int) else -1 := by
    intro n hn
    by_cases hm : n ∈ r_ml E σ
    · rw [if_pos hm, r_rk_in hmn hm, Nat.zero_add]
    · rw [if_neg hm, r_rk_no hm]
      simp only [fill, if_pos hn]
  clear h13 h13b h13c
  generalize hrk1 : r_rk (fill 400 (fun _ => -1) rk) (r_ml E σ) 0 = rk1 at *
  generalize r_ml E σ = ml at *
  have qq1 := q.u_rk (z := rk1)
  have z1 := rz_put (Z := Z) (h := h) (i := 18) (e := cIa 400 rk1) (by omega) (by omega) (by omega)
  obtain ⟨ls1, hls1, c1⟩ := c_list (f := ls) hN (by omega) (by omega) (by omega) (by omega) (hZR 16 (by omega) (by omega) (by omega)) qq1.c0 qq1.c7 qq1.c8 (lgR_rz hG z1 n1 n2) (hL.fz (rz_fz z1 hZR)) qq1.c16
  have qq2 := qq1.u_ls (z := ls1)
  have z2 := rz_tr z1 (rz_put (Z := Z) (i := 16) (e := cEa 400 ls1) (by omega) (by omega) (by omega))
  have hcl := b_cnt_le (bS gc) N
  have hll := v_up_len (bS gc) N
  obtain ⟨h', Q', qu', rk', a1, a2, a3, a4, a5, a6, hE⟩ := l_two (j1 := some (vR s0)) (j2 := some (vR lo)) hN hZR hW hO hml hmk (M := v_up (bS gc) N) (fun n hn => ⟨(v_up_mem.1 hn).1, hgk n (v_up_mem.1 hn).1 (v_up_mem.1 hn).2⟩) v_up_inj (by omega) hls1 (v_up (bS gc) N).length 0 _ [] qu rk1 none none none (Nat.zero_add _) rfl List.Pairwise.nil (fun y => by simp) (fun i hi => absurd hi (Nat.not_lt_zero _)) (fun n hn => by
    rw [hrk0 n hn]
    split
    · rename_i hm
      have := List.idxOf_lt_length_of_mem hm
      omega
    · omega) (fun n hn => absurd hn List.not_mem_nil) (fun n hn _ => hrk0 n (by omega)) qq2 (hL.fz (rz_fz z2 hZR))
  refine ⟨h', Q', ls1, qu', rk', ?_, a1, rz_tr z2 a2, a3, by omega, a5, fun y => by rw [a6 y, v_up_mem]⟩
  show Ev tResolver_orderTwo 0 [some (vR Z), some (vR s0), some (vR lo), none, none, none, none, none, none] [] h _
  rw [a4]
  clear a3 a4 a5 a6 hgk hls1 hrk0 hmk
  iterate 2 (refine ev_st rfl rfl ?_)
  refine ev_callV rfl rfl q.c0 rfl cm ?_
  iterate 3 (refine ev_st rfl rfl ?_)
  refine ev_getf rfl qq1.c0 (by rfl) ?_
  iterate 1 (refine ev_st rfl rfl ?_)
  refine ev_callV rfl rfl qq1.c0 rfl c1 ?_
  iterate 3 (refine ev_st rfl rfl ?_)
  exact hE
