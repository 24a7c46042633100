-- Server: headNumber, listHeads, latestHeads
def v_hn (dh : Nat → Bool) (K : Int) : Nat → Nat → Nat → Int
  | 0, _, _ => -2
  | k + 1, n, p => bif dh n then (if (p : Int) = K then (n : Int) else v_hn dh K k (n + 1) (p + 1)) else v_hn dh K k (n + 1) p
section HD
variable {h : AH} {R : Nat → Prop} {ad : Nat → Nat} {N S lo m : Nat} {gk gh gd : Nat → BitVec 64} {nw : Option Nat}
set_option maxHeartbeats 2000000 in
theorem l_headNumber (q : svR h S gk gh gd nw) (hG : lgR h lo m N ad) (hN : N ≤ 400) {K : Int} (hK : InR K) : ∀ (k i p : Nat), i + k = N → p ≤ i → Ev tServer_headNumber 5 [some (vR S), some (.inl K), some (vR lo), some (.inl (p : Int)), some (.inl (i : Int))] [] h (some (.inl (v_hn (bS gd) K k i p)), h) := by
  obtain ⟨q1, q2, q3, q4, q5, q6, q7⟩ := q
  unfold InR at hK
  intro k
  induction k with
  | zero =>
    intro i p hi hp
    obtain rfl : i = N := by omega
    simp only [v_hn]
    repeat (refine ev_st rfl rfl ?_)
    refine ev_callV rfl rfl hG.1 rfl (c_lsize hG.1) ?_
    refine ev_icT rfl (by simp only [ick, w32]; omega) ?_
    repeat (refine ev_st rfl rfl ?_)
    exact ev_rt rfl rfl rfl
  | succ k ih =>
    intro i p hi hp
    have ch := c_hasN q6 q7 (n := i) (by omega)
    simp only [v_hn]
    repeat (refine ev_st rfl rfl ?_)
    refine ev_callV rfl rfl hG.1 rfl (c_lsize hG.1) ?_
    refine ev_icF rfl (by simp only [ick, w32]; omega) ?_
    repeat (first | refine ev_st rfl rfl ?_ | refine ev_getf rfl (by first | assumption | exact ah_eq | (refine ah_ne (by omega) ?_; first | assumption | exact ah_eq | (refine ah_ne (by omega) ?_; first | assumption | exact ah_eq | (refine ah_ne (by omega) ?_; first | assumption | exact ah_eq)))) (by rfl) ?_)
    refine ev_callV rfl rfl q6 rfl ch ?_
    cases hd : bS gd i with
    | false =>
      refine ev_zeqT rfl rfl ?_
      iterate 2 (refine ev_st rfl rfl ?_)
      rw [nat_1]
      exact ih (i + 1) p (by omega) (by omega)
    | true =>
      refine ev_zeqF rfl rfl ?_
      rw [cond_true]
      by_cases hq : (p : Int) = K
      · rw [if_pos hq]
        repeat (first | refine ev_st rfl rfl ?_ | refine ev_getf rfl (by first | assumption | exact ah_eq | (refine ah_ne (by omega) ?_; first | assumption | exact ah_eq | (refine ah_ne (by omega) ?_; first | assumption | exact ah_eq | (refine ah_ne (by omega) ?_; first | assumption | exact ah_eq)))) (by rfl) ?_ | refine ev_ifT rfl (by simp only [ick, w32]; omega) ?_ | refine ev_ifF rfl (by simp only [ick, w32]; omega) ?_ | refine ev_icT rfl (by simp only [ick, w32]; omega) ?_ | refine ev_icF rfl (by simp only [ick, w32]; omega) ?_)
        exact ev_rt rfl rfl rfl
      · rw [if_neg hq]
        repeat (refine ev_st rfl rfl ?_)
        refine ev_icT rfl (by simp only [ick, w32]; omega) ?_
        iterate 3 (refine ev_st rfl rfl ?_)
        rw [nat_1, nat_1]
        exact ih (i + 1) (p + 1) (by omega) (by omega)
theorem c_headNumber (q : svR h S gk gh gd nw) (hG : lgR h lo m N ad) (hN : N ≤ 400) {K : Int} (hK : InR K) : Em mServer_headNumber 2 [vR S, .inl K, vR lo] h (some (.inl (v_hn (bS gd) K N 0 0))) h := by
  show Ev tServer_headNumber 0 [some (vR S), some (.inl K), some (vR lo), none, none] [] h _
  iterate 4 (refine ev_st rfl rfl ?_)
  exact l_headNumber q hG hN hK N 0 0 (Nat.zero_add _) (Nat.le_refl _)
-- the numbers below n of a set, from below and from above
def v_up (dh : Nat → Bool) : Nat → List Nat
  | 0 => []
  | n + 1 => bif dh n then v_up dh n ++ [n] else v_up dh n
def v_ds (dh : Nat → Bool) : Nat → List Nat
  | 0 => []
  | n + 1 => bif dh n then n :: v_ds dh n else v_ds dh n
theorem v_up_len (dh : Nat → Bool) (n : Nat) : (v_up dh n).length = b_cnt n dh := by
  induction n with
  | zero => rfl
  | succ n ih => simp only [v_up, b_cnt]; cases dh n <;> simp [ih]
theorem v_ds_len (dh : Nat → Bool) (n : Nat) : (v_ds dh n).length = b_cnt n dh := by
  induction n with
  | zero => rfl
  | succ n ih => simp only [v_ds, b_cnt]; cases dh n <;> simp [ih]
theorem b_cnt_le (f : Nat → Bool) (n : Nat) : b_cnt n f ≤ n := by
  induction n with
  | zero => exact Nat.le_refl _
  | succ n ih => simp only [b_cnt]; cases f n <;> simp <;> omega
theorem b_cnt_stop {f : Nat → Bool} {n k : Nat} (hn : n ≤ k) (hf : ∀ y, n ≤ y → f y = false) : b_cnt k f = b_cnt n f := by
  obtain ⟨d, rfl⟩ : ∃ d, k = n + d := ⟨k - n, by omega⟩
  clear hn
  induction d with
  | zero => rfl
  | succ d ih => rw [← Nat.add_assoc]; simp only [b_cnt]; rw [hf (n + d) (by omega), ih]; rfl
-- an array's first places are a list's events
def lsR (ad : Nat → Nat) (l : List Nat) (f : Nat → Option Nat) : Prop := ∀ i, i < l.length → f i = some (ad (l.getD i 0))
theorem lsR.snoc {ad : Nat → Nat} {l : List Nat} {f : Nat → Option Nat} {n : Nat} (q : lsR ad l f) : lsR ad (l ++ [n]) (va_up f l.length (some (ad n))) := by
  intro i hi
  by_cases h1 : i = l.length
  · subst h1; simp [va_up]
  · have h2 : i < l.length := by simp at hi; omega
    simp only [va_up, if_neg h1]
    rw [q i h2]
    congr 2
    simp [List.getD_eq_getElem?_getD, List.getElem?_append_left h2]
set_option maxHeartbeats 2000000 in
theorem l_listHeads {E : EL} (hN : N ≤ 400) {rw_ : Nat} (nS : ∀ i, i < 7 → S + i ≠ rw_) (nl : lo ≠ rw_) (nm : m ≠ rw_) (rr : ¬ R rw_) : ∀ (k i : Nat) (h : AH) (f : Nat → Option Nat), i + k = N → svR h S gk gh gd nw → lgR h lo m N ad → LG h R ad N E → h.2.2 rw_ = some (cEa 400 f) → lsR ad (v_up (bS gd) i) f → ∃ f', lsR ad (v_up (bS gd) N) f' ∧ Ev tServer_listHeads 5 [some (vR S), some (vR rw_), some (vR lo), some (.inl ((v_up (bS gd) i).length : Int)), some (.inl (i : Int))] [] h (some (.inl ((v_up (bS gd) N).length : Int)), ah_put h rw_ (cEa 400 f')) := by
  intro k
  induction k with
  | zero =>
    intro i h f hi q hG hL hr hf
    obtain rfl : i = N := by omega
    refine ⟨f, hf, ?_⟩
    rw [ah_same hr]
    have hle : (v_up (bS gd) i).length ≤ 400 := by rw [v_up_len]; have := b_cnt_le (bS gd) i; omega
    generalize (v_up (bS gd) i).length = L at *
    repeat (refine ev_st rfl rfl ?_)
    refine ev_callV rfl rfl hG.1 rfl (c_lsize hG.1) ?_
    refine ev_icT rfl (by simp only [ick, w32]; omega) ?_
    repeat (refine ev_st rfl rfl ?_)
    exact ev_rt rfl rfl rfl
  | succ k ih =>
    intro i h f hi q hG hL hr hf
    have q0 := q
    obtain ⟨q1, q2, q3, q4, q5, q6, q7⟩ := q
    have ch := c_hasN q6 q7 (n := i) (by omega)
    cases hd : bS gd i with
    | false =>
      have hl : v_up (bS gd) (i + 1) = v_up (bS gd) i := by simp [v_up, hd]
      obtain ⟨f', hf', ih⟩ := ih (i + 1) h f (by omega) q0 hG hL hr (by rw [hl]; exact hf)
      rw [hl] at ih
      refine ⟨f', hf', ?_⟩
      rw [hd] at ch
      clear hf'
      repeat (refine ev_st rfl rfl ?_)
      refine ev_callV rfl rfl hG.1 rfl (c_lsize hG.1) ?_
      refine ev_icF rfl (by simp only [ick, w32]; omega) ?_
      repeat (first | refine ev_st rfl rfl ?_ | refine ev_getf rfl (by first | assumption | exact ah_eq | (refine ah_ne (by omega) ?_; first | assumption | exact ah_eq | (refine ah_ne (by omega) ?_; first | assumption | exact ah_eq | (refine ah_ne (by omega) ?_; first | assumption | exact ah_eq)))) (by rfl) ?_)
      refine ev_callV rfl rfl q6 rfl ch ?_
      refine ev_zeqT rfl rfl ?_
      iterate 2 (refine ev_st rfl rfl ?_)
      rw [nat_1]
      exact ih
    | true =>
      have hl : v_up (bS gd) (i + 1) = v_up (bS gd) i ++ [i] := by simp [v_up, hd]
      have hlen : (v_up (bS gd) i).length < 400 := by rw [v_up_len]; have := b_cnt_le (bS gd) i; omega
      have hll : (v_up (bS gd) (i + 1)).length = (v_up (bS gd) i).length + 1 := by rw [hl]; simp
      have cf := c_find hG hN (n := i) (by omega)
      obtain ⟨fsE, hE⟩ := hL.isE (n := i) (by omega)
      have nS0 := nS 0 (by omega)
      have hG' : lgR (ah_put h rw_ (cEa 400 (va_up f (v_up (bS gd) i).length (some (ad i))))) lo m N ad := by
        obtain ⟨a, mf, b, c⟩ := hG
        exact ⟨ah_ne nl a, mf, ah_ne nm b, c⟩
      obtain ⟨f', hf', ih⟩ := ih (i + 1) (ah_put h rw_ (cEa 400 (va_up f (v_up (bS gd) i).length (some (ad i))))) _ (by omega) ⟨ah_ne nS0 q1, ah_ne (nS 1 (by omega)) q2, ah_ne (nS 2 (by omega)) q3, ah_ne (nS 3 (by omega)) q4, ah_ne (nS 4 (by omega)) q5, ah_ne (nS 5 (by omega)) q6, ah_ne (nS 6 (by omega)) q7⟩ hG' (hL.fz (fz.put rr)) ah_eq (by rw [hl]; exact hf.snoc)
      rw [ah_putput, hll] at ih
      refine ⟨f', hf', ?_⟩
      rw [hd] at ch
      clear hf' hll hl
      generalize (v_up (bS gd) i).length = L at *
      repeat (refine ev_st rfl rfl ?_)
      refine ev_callV rfl rfl hG.1 rfl (c_lsize hG.1) ?_
      refine ev_icF rfl (by simp only [ick, w32]; omega) ?_
      repeat (first | refine ev_st rfl rfl ?_ | refine ev_getf rfl (by first | assumption | exact ah_eq | (refine ah_ne (by omega) ?_; first | assumption | exact ah_eq | (refine ah_ne (by omega) ?_; first | assumption | exact ah_eq | (refine ah_ne (by omega) ?_; first | assumption | exact ah_eq)))) (by rfl) ?_)
      refine ev_callV rfl rfl q6 rfl ch ?_
      refine ev_zeqF rfl rfl ?_
      iterate 2 (refine ev_st rfl rfl ?_)
      refine ev_alen rfl hr ?_
      refine ev_icF rfl (by simp only [ick, w32]; omega) ?_
      iterate 4 (refine ev_st rfl rfl ?_)
      refine ev_callV rfl rfl hG.1 rfl cf ?_
      refine ev_aastS rfl hr hE hlen (by omega) ?_
      iterate 3 (refine ev_st rfl rfl ?_)
      rw [nat_1, nat_1]
      exact ih
theorem c_listHeads {E : EL} (hN : N ≤ 400) {rw_ : Nat} (nS : ∀ i, i < 7 → S + i ≠ rw_) (nl : lo ≠ rw_) (nm : m ≠ rw_) (rr : ¬ R rw_) {f : Nat → Option Nat} (q : svR h S gk gh gd nw) (hG : lgR h lo m N ad) (hL : LG h R ad N E) (hr : h.2.2 rw_ = some (cEa 400 f)) : ∃ f', lsR ad (v_up (bS gd) N) f' ∧ Em mServer_listHeads 2 [vR S, vR rw_, vR lo] h (some (.inl ((v_up (bS gd) N).length : Int))) (ah_put h rw_ (cEa 400 f')) := by
  obtain ⟨f', hf', hE⟩ := l_listHeads hN nS nl nm rr N 0 h f (Nat.zero_add _) q hG hL hr (fun i hi => absurd hi (Nat.not_lt_zero _))
  refine ⟨f', hf', ?_⟩
  show Ev tServer_listHeads 0 [some (vR S), some (vR rw_), some (vR lo), none, none] [] h _
  iterate 4 (refine ev_st rfl rfl ?_)
  exact hE
set_option maxHeartbeats 2000000 in
theorem l_latest {E : EL} (hN : N ≤ 400) {la len : Nat} (h4 : len ≤ 4) (nS : ∀ i, i < 7 → S + i ≠ la) (nl : lo ≠ la) (nm : m ≠ la) (rr : ¬ R la) : ∀ (k : Nat) (h : AH) (f : Nat → Option Nat) (P : List Nat), k ≤ N → P.length ≤ len → svR h S gk gh gd nw → lgR h lo m N ad → LG h R ad N E → h.2.2 la = some (cEa len f) → lsR ad P f → ∃ f', lsR ad (P ++ (v_ds (bS gd) k).take (len - P.length)) f' ∧ Ev tServer_latestHeads 22 [some (vR S), some (vR lo), some (vR la), some (.inl (P.length : Int)), some (.inl ((k : Int) - 1))] [] h (some (vR la), ah_put h la (cEa len f')) := by
  intro k
  induction k with
  | zero =>
    intro h f P hk hp q hG hL hr hf
    refine ⟨f, by simpa [v_ds] using hf, ?_⟩
    rw [ah_same hr]
    repeat (first | refine ev_st rfl rfl ?_ | refine ev_getf rfl (by first | assumption | exact ah_eq | (refine ah_ne (by omega) ?_; first | assumption | exact ah_eq | (refine ah_ne (by omega) ?_; first | assumption | exact ah_eq | (refine ah_ne (by omega) ?_; first | assumption | exact ah_eq)))) (by rfl) ?_ | refine ev_ifT rfl (by simp only [ick, w32]; omega) ?_ | refine ev_ifF rfl (by simp only [ick, w32]; omega) ?_ | refine ev_icT rfl (by simp only [ick, w32]; omega) ?_ | refine ev_icF rfl (by simp only [ick, w32]; omega) ?_)
    exact ev_rt rfl rfl rfl
  | succ k ih =>
    intro h f P hk hp q hG hL hr hf
    have q0 := q
    obtain ⟨q1, q2, q3, q4, q5, q6, q7⟩ := q
    rw [show ((k + 1 : Nat) : Int) - 1 = (k : Int) by omega]
    by_cases hfull : P.length = len
    · refine ⟨f, by simpa [hfull] using hf, ?_⟩
      rw [ah_same hr]
      repeat (refine ev_st rfl rfl ?_)
      refine ev_ifF rfl (by simp only [ick, w32]; omega) ?_
      repeat (refine ev_st rfl rfl ?_)
      refine ev_alen rfl hr ?_
      refine ev_icT rfl (by simp only [ick, w32]; omega) ?_
      repeat (refine ev_st rfl rfl ?_)
      exact ev_rt rfl rfl rfl
    · have ch := c_hasN q6 q7 (n := k) (by omega)
      cases hd : bS gd k with
      | false =>
        have hl : v_ds (bS gd) (k + 1) = v_ds (bS gd) k := by simp [v_ds, hd]
        obtain ⟨f', hf', ih⟩ := ih h f P (by omega) hp q0 hG hL hr hf
        refine ⟨f', by rw [hl]; exact hf', ?_⟩
        rw [hd] at ch
        clear hf'
        repeat (refine ev_st rfl rfl ?_)
        refine ev_ifF rfl (by simp only [ick, w32]; omega) ?_
        repeat (refine ev_st rfl rfl ?_)
        refine ev_alen rfl hr ?_
        refine ev_icF rfl (by simp only [ick, w32]; omega) ?_
        repeat (first | refine ev_st rfl rfl ?_ | refine ev_getf rfl (by first | assumption | exact ah_eq | (refine ah_ne (by omega) ?_; first | assumption | exact ah_eq | (refine ah_ne (by omega) ?_; first | assumption | exact ah_eq | (refine ah_ne (by omega) ?_; first | assumption | exact ah_eq)))) (by rfl) ?_)
        refine ev_callV rfl rfl q6 rfl ch ?_
        refine ev_zeqT rfl rfl ?_
        iterate 2 (refine ev_st rfl rfl ?_)
        rw [show (k : Int) + -1 = (k : Int) - 1 by omega]
        exact ih
      | true =>
        have hl : v_ds (bS gd) (k + 1) = k :: v_ds (bS gd) k := by simp [v_ds, hd]
        have cf := c_find hG hN (n := k) (by omega)
        obtain ⟨fsE, hE⟩ := hL.isE (n := k) (by omega)
        have hG' : lgR (ah_put h la (cEa len (va_up f P.length (some (ad k))))) lo m N ad := by
          obtain ⟨a, mf, b, c⟩ := hG
          exact ⟨ah_ne nl a, mf, ah_ne nm b, c⟩
        obtain ⟨f', hf', ih⟩ := ih (ah_put h la (cEa len (va_up f P.length (some (ad k))))) _ (P ++ [k]) (by omega) (by simp; omega) ⟨ah_ne (nS 0 (by omega)) q1, ah_ne (nS 1 (by omega)) q2, ah_ne (nS 2 (by omega)) q3, ah_ne (nS 3 (by omega)) q4, ah_ne (nS 4 (by omega)) q5, ah_ne (nS 5 (by omega)) q6, ah_ne (nS 6 (by omega)) q7⟩ hG' (hL.fz (fz.put rr)) ah_eq hf.snoc
        rw [ah_putput, show (P ++ [k]).length = P.length + 1 by simp] at ih
        refine ⟨f', ?_, ?_⟩
        · rw [hl, show len - P.length = (len - (P ++ [k]).length) + 1 by simp; omega, List.take_succ_cons]
          simpa using hf'
        · rw [hd] at ch
          clear hf'
          repeat (refine ev_st rfl rfl ?_)
          refine ev_ifF rfl (by simp only [ick, w32]; omega) ?_
          repeat (refine ev_st rfl rfl ?_)
          refine ev_alen rfl hr ?_
          refine ev_icF rfl (by simp only [ick, w32]; omega) ?_
          repeat (first | refine ev_st rfl rfl ?_ | refine ev_getf rfl (by first | assumption | exact ah_eq | (refine ah_ne (by omega) ?_; first | assumption | exact ah_eq | (refine ah_ne (by omega) ?_; first | assumption | exact ah_eq | (refine ah_ne (by omega) ?_; first | assumption | exact ah_eq)))) (by rfl) ?_)
          refine ev_callV rfl rfl q6 rfl ch ?_
          refine ev_zeqF rfl rfl ?_
          iterate 4 (refine ev_st rfl rfl ?_)
          refine ev_callV rfl rfl hG.1 rfl cf ?_
          refine ev_aastS rfl hr hE (by omega) (by omega) ?_
          iterate 3 (refine ev_st rfl rfl ?_)
          rw [nat_1, show (k : Int) + -1 = (k : Int) - 1 by omega]
          exact ih
end HD
