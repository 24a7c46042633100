-- State: addChainTo in the value's words, addUnlikeTo, placeOf, with
theorem pi_onto {p : Nat} (h : p < 23) : ∃ i, i < 23 ∧ pi_ i = p := by
  by_cases h0 : p = 0
  · exact ⟨0, by omega, by rw [h0]; rfl⟩
  by_cases h1 : p = 13
  · exact ⟨1, by omega, by rw [h1]; rfl⟩
  by_cases h2 : p = 14
  · exact ⟨2, by omega, by rw [h2]; rfl⟩
  by_cases h3 : p < 13
  · refine ⟨p + 2, by omega, ?_⟩
    unfold pi_
    rw [if_neg (by omega), if_neg (by omega), if_neg (by omega), if_pos (by omega)]
    omega
  · refine ⟨p, by omega, ?_⟩
    unfold pi_
    rw [if_neg (by omega), if_neg (by omega), if_neg (by omega), if_neg (by omega)]
theorem pi_lt {i : Nat} (h : i < 23) : pi_ i < 23 := by
  unfold pi_
  repeat (split; omega)
  omega
theorem pi_inj {i j : Nat} (hi : i < 23) (hj : j < 23) (h : pi_ i = pi_ j) : i = j := by
  have key : ∀ i j : Fin 23, pi_ i.val = pi_ j.val → i = j := by decide +kernel
  have := key ⟨i, hi⟩ ⟨j, hj⟩ h
  exact congrArg Fin.val this
theorem pi_any (f : Nat → Bool) : b_any 23 (fun i => f (pi_ i)) = b_any 23 f := by
  apply Bool.eq_iff_iff.2
  rw [b_any_iff, b_any_iff]
  constructor
  · rintro ⟨i, h1, h2⟩
    exact ⟨pi_ i, pi_lt h1, h2⟩
  · rintro ⟨p, h1, h2⟩
    obtain ⟨i, h3, rfl⟩ := pi_onto h1
    exact ⟨i, h3, h2⟩
theorem pi_all (f : Nat → Bool) : b_all 23 (fun i => f (pi_ i)) = b_all 23 f := by
  apply Bool.eq_iff_iff.2
  rw [b_all_iff, b_all_iff]
  constructor
  · intro h p hp
    obtain ⟨i, h3, rfl⟩ := pi_onto hp
    exact h i h3
  · intro h i hi
    exact h _ (pi_lt hi)
theorem ch_23 (E : EL) (σ : SS) : ch_i E σ 23 = m_ch E σ := by
  funext y
  exact pi_any (fun p => decide (0 ≤ σ p) && (decide (σ p = y) || e_ch (E (σ p).toNat) y))
theorem c_addChain {h : AH} {R : Nat → Prop} {ad : Nat → Nat} {N : Nat} {E : EL} {σ : SS} {s : Nat} (hS : stR h ad s σ) (hL : LG h R ad N E) (hN : N ≤ 400) (hσ : sOK N E σ) {o w : Nat} {g : Nat → BitVec 64} (hw0 : ¬ R w) (ho : h.2.2 o = some (cSet w)) (hw : h.2.2 w = some (cLng g)) : ∃ g', Em mState_addChainTo 2 [vR s, vR o] h none (ah_put h w (cLng g')) ∧ ∀ y, bS g' y = (bS g y || m_ch E σ y) := by
  obtain ⟨p, f, hs, hp, hf⟩ := hS
  have np : p ≠ w := by rintro rfl; rw [hp] at hw; cases hw
  obtain ⟨g', hE, hg'⟩ := l_addChain hs hp hf hL hN hσ hw0 ho (bS g) np (ne_ao hs hw) (ne_ao ho hw) 23 0 none g rfl (fun y => by simp [ch_i, b_any])
  rw [ch_23] at hg'
  refine ⟨g', ?_, hg'⟩
  rw [ah_same hw] at hE
  show Ev tState_addChainTo 0 [some (vR s), some (vR o), none, none] [] h _
  iterate 2 (refine ev_st rfl rfl ?_)
  exact hE
def ul_i (σ τ : SS) (i : Nat) : Nat → Bool := fun y => b_any i fun q => decide (σ (pi_ q) = y) && decide (τ (pi_ q) < 0)
set_option maxHeartbeats 2000000 in
theorem l_addUnlike {h : AH} {R : Nat → Prop} {ad : Nat → Nat} {N : Nat} {E : EL} {σ τ : SS} {s p s2 p2 : Nat} {f f2 : Nat → Option Nat} (hs : h.2.2 s = some (cSt p)) (hp : h.2.2 p = some (cEa 23 f)) (hf : ∀ i, i < 23 → f i = oa ad (σ (pi_ i))) (hs2 : h.2.2 s2 = some (cSt p2)) (hp2 : h.2.2 p2 = some (cEa 23 f2)) (hf2 : ∀ i, i < 23 → f2 i = oa ad (τ (pi_ i))) (hL : LG h R ad N E) (hN : N ≤ 400) (hσ : sOK N E σ) {o w : Nat} (hw0 : ¬ R w) (ho : h.2.2 o = some (cSet w)) (g0 : Nat → Bool) (np : p ≠ w) (ns : s ≠ w) (np2 : p2 ≠ w) (ns2 : s2 ≠ w) (no : o ≠ w) : ∀ (k i : Nat) (g : Nat → BitVec 64), i + k = 23 → (∀ y, bS g y = (g0 y || ul_i σ τ i y)) → ∃ g', Ev tState_addUnlikeTo 2 [some (vR s), some (vR o), some (vR s2), some (.inl (i : Int))] [] (ah_put h w (cLng g)) (none, ah_put h w (cLng g')) ∧ ∀ y, bS g' y = (g0 y || ul_i σ τ 23 y) := by
  intro k
  induction k with
  | zero =>
    intro i g hi hg
    obtain rfl : i = 23 := by omega
    refine ⟨g, ?_, hg⟩
    clear hg
    repeat (first | refine ev_st rfl rfl ?_ | refine ev_getf rfl (by first | assumption | exact ah_eq | (refine ah_ne (by omega) ?_; first | assumption | exact ah_eq | (refine ah_ne (by omega) ?_; first | assumption | exact ah_eq | (refine ah_ne (by omega) ?_; first | assumption | exact ah_eq)))) (by rfl) ?_ | refine ev_ifT rfl (by simp only [ick, w32]; omega) ?_ | refine ev_ifF rfl (by simp only [ick, w32]; omega) ?_ | refine ev_icT rfl (by simp only [ick, w32]; omega) ?_ | refine ev_icF rfl (by simp only [ick, w32]; omega) ?_)
    exact ev_rt rfl rfl rfl
  | succ k ih =>
    intro i g hi hg
    have hsame : (∀ y : Nat, (decide (σ (pi_ i) = y) && decide (τ (pi_ i) < 0)) = false) → ∀ y, bS g y = (g0 y || ul_i σ τ (i + 1) y) := by
      intro hq y
      rw [hg y]
      simp only [ul_i, b_any]
      rw [hq y, Bool.or_false]
    rcases hσ.at (pi_ i) with h1 | ⟨n, hn, h1, hpl⟩
    · obtain ⟨g', hE, hg'⟩ := ih (i + 1) g (by omega) (hsame (fun y => by rw [decide_eq_false (by omega)]; rfl))
      refine ⟨g', ?_, hg'⟩
      clear hg hg' hsame
      repeat (first | refine ev_st rfl rfl ?_ | refine ev_getf rfl (by first | assumption | exact ah_eq | (refine ah_ne (by omega) ?_; first | assumption | exact ah_eq | (refine ah_ne (by omega) ?_; first | assumption | exact ah_eq | (refine ah_ne (by omega) ?_; first | assumption | exact ah_eq)))) (by rfl) ?_ | refine ev_ifT rfl (by simp only [ick, w32]; omega) ?_ | refine ev_ifF rfl (by simp only [ick, w32]; omega) ?_ | refine ev_icT rfl (by simp only [ick, w32]; omega) ?_ | refine ev_icF rfl (by simp only [ick, w32]; omega) ?_)
      refine ev_aaldN rfl (by first | assumption | exact ah_eq | (refine ah_ne (by omega) ?_; first | assumption | exact ah_eq | (refine ah_ne (by omega) ?_; first | assumption | exact ah_eq | (refine ah_ne (by omega) ?_; first | assumption | exact ah_eq)))) (by omega) (by omega) ?_
      rw [hf i (by omega), oa_none h1]
      iterate 3 (refine ev_st rfl rfl ?_)
      rw [nat_1]
      exact hE
    · obtain ⟨c, pa, gr, lv, er, bh, hc, -⟩ := evR.cell hL hn
      have n1 : ad n ≠ w := fun q => hw0 (q ▸ (hL n hn).1)
      by_cases h2 : τ (pi_ i) < 0
      · obtain ⟨g1, hE1, hg1⟩ := c_add (h := ah_put h w (cLng g)) (o := o) (w := w) (g := g) (n := n) (ah_ne no ho) ah_eq (by omega)
        rw [ah_putput] at hE1
        have hg2' : ∀ y, bS g1 y = (g0 y || ul_i σ τ (i + 1) y) := by
          intro y
          rw [hg1, f_on_d, hg y]
          simp only [ul_i, b_any]
          have e2 : decide (σ (pi_ i) = (y : Int)) = decide (y = n) := by
            by_cases hq : y = n
            · subst hq; exact (decide_eq_true h1).trans (decide_eq_true rfl).symm
            · rw [decide_eq_false hq, decide_eq_false (by omega)]
          rw [decide_eq_true h2, e2]
          cases decide (y = n) <;> cases g0 y <;> simp
        obtain ⟨g', hE, hg'⟩ := ih (i + 1) g1 (by omega) hg2'
        refine ⟨g', ?_, hg'⟩
        clear hg hg' hg1 hg2' hsame
        repeat (first | refine ev_st rfl rfl ?_ | refine ev_getf rfl (by first | assumption | exact ah_eq | (refine ah_ne (by omega) ?_; first | assumption | exact ah_eq | (refine ah_ne (by omega) ?_; first | assumption | exact ah_eq | (refine ah_ne (by omega) ?_; first | assumption | exact ah_eq)))) (by rfl) ?_ | refine ev_ifT rfl (by simp only [ick, w32]; omega) ?_ | refine ev_ifF rfl (by simp only [ick, w32]; omega) ?_ | refine ev_icT rfl (by simp only [ick, w32]; omega) ?_ | refine ev_icF rfl (by simp only [ick, w32]; omega) ?_)
        refine ev_aaldN rfl (by first | assumption | exact ah_eq | (refine ah_ne (by omega) ?_; first | assumption | exact ah_eq | (refine ah_ne (by omega) ?_; first | assumption | exact ah_eq | (refine ah_ne (by omega) ?_; first | assumption | exact ah_eq)))) (by omega) (by omega) ?_
        rw [hf i (by omega), oa_some h1]
        repeat (first | refine ev_st rfl rfl ?_ | refine ev_getf rfl (by first | assumption | exact ah_eq | (refine ah_ne (by omega) ?_; first | assumption | exact ah_eq | (refine ah_ne (by omega) ?_; first | assumption | exact ah_eq | (refine ah_ne (by omega) ?_; first | assumption | exact ah_eq)))) (by rfl) ?_ | refine ev_ifT rfl (by simp only [ick, w32]; omega) ?_ | refine ev_ifF rfl (by simp only [ick, w32]; omega) ?_ | refine ev_icT rfl (by simp only [ick, w32]; omega) ?_ | refine ev_icF rfl (by simp only [ick, w32]; omega) ?_)
        refine ev_aaldN rfl (by first | assumption | exact ah_eq | (refine ah_ne (by omega) ?_; first | assumption | exact ah_eq | (refine ah_ne (by omega) ?_; first | assumption | exact ah_eq | (refine ah_ne (by omega) ?_; first | assumption | exact ah_eq)))) (by omega) (by omega) ?_
        rw [hf2 i (by omega), show oa ad (τ (pi_ i)) = none from if_pos h2]
        repeat (first | refine ev_st rfl rfl ?_ | refine ev_getf rfl (by first | assumption | exact ah_eq | (refine ah_ne (by omega) ?_; first | assumption | exact ah_eq | (refine ah_ne (by omega) ?_; first | assumption | exact ah_eq | (refine ah_ne (by omega) ?_; first | assumption | exact ah_eq)))) (by rfl) ?_ | refine ev_ifT rfl (by simp only [ick, w32]; omega) ?_ | refine ev_ifF rfl (by simp only [ick, w32]; omega) ?_ | refine ev_icT rfl (by simp only [ick, w32]; omega) ?_ | refine ev_icF rfl (by simp only [ick, w32]; omega) ?_)
        refine ev_aaldN rfl (by first | assumption | exact ah_eq | (refine ah_ne (by omega) ?_; first | assumption | exact ah_eq | (refine ah_ne (by omega) ?_; first | assumption | exact ah_eq | (refine ah_ne (by omega) ?_; first | assumption | exact ah_eq)))) (by omega) (by omega) ?_
        rw [hf i (by omega), oa_some h1]
        refine ev_getf rfl (ah_ne n1 hc) (by rfl) ?_
        refine ev_callV rfl rfl (ah_ne no ho) rfl hE1 ?_
        iterate 2 (refine ev_st rfl rfl ?_)
        rw [nat_1]
        exact hE
      · obtain ⟨g', hE, hg'⟩ := ih (i + 1) g (by omega) (hsame (fun y => by rw [decide_eq_false h2]; simp))
        refine ⟨g', ?_, hg'⟩
        clear hg hg' hsame
        repeat (first | refine ev_st rfl rfl ?_ | refine ev_getf rfl (by first | assumption | exact ah_eq | (refine ah_ne (by omega) ?_; first | assumption | exact ah_eq | (refine ah_ne (by omega) ?_; first | assumption | exact ah_eq | (refine ah_ne (by omega) ?_; first | assumption | exact ah_eq)))) (by rfl) ?_ | refine ev_ifT rfl (by simp only [ick, w32]; omega) ?_ | refine ev_ifF rfl (by simp only [ick, w32]; omega) ?_ | refine ev_icT rfl (by simp only [ick, w32]; omega) ?_ | refine ev_icF rfl (by simp only [ick, w32]; omega) ?_)
        refine ev_aaldN rfl (by first | assumption | exact ah_eq | (refine ah_ne (by omega) ?_; first | assumption | exact ah_eq | (refine ah_ne (by omega) ?_; first | assumption | exact ah_eq | (refine ah_ne (by omega) ?_; first | assumption | exact ah_eq)))) (by omega) (by omega) ?_
        rw [hf i (by omega), oa_some h1]
        repeat (first | refine ev_st rfl rfl ?_ | refine ev_getf rfl (by first | assumption | exact ah_eq | (refine ah_ne (by omega) ?_; first | assumption | exact ah_eq | (refine ah_ne (by omega) ?_; first | assumption | exact ah_eq | (refine ah_ne (by omega) ?_; first | assumption | exact ah_eq)))) (by rfl) ?_ | refine ev_ifT rfl (by simp only [ick, w32]; omega) ?_ | refine ev_ifF rfl (by simp only [ick, w32]; omega) ?_ | refine ev_icT rfl (by simp only [ick, w32]; omega) ?_ | refine ev_icF rfl (by simp only [ick, w32]; omega) ?_)
        refine ev_aaldN rfl (by first | assumption | exact ah_eq | (refine ah_ne (by omega) ?_; first | assumption | exact ah_eq | (refine ah_ne (by omega) ?_; first | assumption | exact ah_eq | (refine ah_ne (by omega) ?_; first | assumption | exact ah_eq)))) (by omega) (by omega) ?_
        rw [hf2 i (by omega), show oa ad (τ (pi_ i)) = some (ad (τ (pi_ i)).toNat) from if_neg h2]
        iterate 3 (refine ev_st rfl rfl ?_)
        rw [nat_1]
        exact hE
theorem c_addUnlike {h : AH} {R : Nat → Prop} {ad : Nat → Nat} {N : Nat} {E : EL} {σ τ : SS} {s s2 : Nat} (hS : stR h ad s σ) (hS2 : stR h ad s2 τ) (hL : LG h R ad N E) (hN : N ≤ 400) (hσ : sOK N E σ) {o w : Nat} {g : Nat → BitVec 64} (hw0 : ¬ R w) (ho : h.2.2 o = some (cSet w)) (hw : h.2.2 w = some (cLng g)) : ∃ g', Em mState_addUnlikeTo 1 [vR s, vR o, vR s2] h none (ah_put h w (cLng g')) ∧ ∀ y, bS g' y = (bS g y || b_any 23 fun p => decide (σ p = y) && decide (τ p < 0)) := by
  obtain ⟨p, f, hs, hp, hf⟩ := hS
  obtain ⟨p2, f2, hs2, hp2, hf2⟩ := hS2
  have np : p ≠ w := by rintro rfl; rw [hp] at hw; cases hw
  have np2 : p2 ≠ w := by rintro rfl; rw [hp2] at hw; cases hw
  obtain ⟨g', hE, hg'⟩ := l_addUnlike hs hp hf hs2 hp2 hf2 hL hN hσ hw0 ho (bS g) np (ne_ao hs hw) np2 (ne_ao hs2 hw) (ne_ao ho hw) 23 0 g rfl (fun y => by simp [ul_i, b_any])
  refine ⟨g', ?_, fun y => by rw [hg' y]; congr 1; exact pi_any (fun p => decide (σ p = y) && decide (τ p < 0))⟩
  rw [ah_same hw] at hE
  show Ev tState_addUnlikeTo 0 [some (vR s), some (vR o), some (vR s2), none] [] h _
  iterate 2 (refine ev_st rfl rfl ?_)
  exact hE
-- the place of a kind and a key
def m_cpl (k a : Int) : Int := if k = 0 then (if a = 0 then 0 else -1) else if k = 1 then (if 0 ≤ a ∧ a < 12 then 3 + a else -1) else if k = 2 then (if a = 0 then 1 else -1) else if k = 3 then (if a = 0 then 2 else -1) else if k = 4 then (if 0 ≤ a ∧ a < 8 then 15 + a else -1) else -1
set_option maxHeartbeats 2000000 in
theorem c_placeOf {h : AH} {k a : Int} (hk : InR k) (ha : InR a) : Em mState_placeOf 0 [.inl k, .inl a] h (some (.inl (m_cpl k a))) h := by
  unfold InR at hk ha
  show Ev tState_placeOf 0 [some (.inl k), some (.inl a)] [] h _
  unfold m_cpl
  repeat (refine ev_st rfl rfl ?_)
  by_cases h0 : k = 0
  · subst h0
    rw [if_pos rfl]
    refine ev_sw rfl (pc' := 36) (by decide) rfl ?_
    by_cases hq : a = 0
    · rw [if_pos hq]; repeat (first | refine ev_st rfl rfl ?_ | refine ev_getf rfl (by first | assumption | exact ah_eq | (refine ah_ne (by omega) ?_; first | assumption | exact ah_eq | (refine ah_ne (by omega) ?_; first | assumption | exact ah_eq | (refine ah_ne (by omega) ?_; first | assumption | exact ah_eq)))) (by rfl) ?_ | refine ev_ifT rfl (by simp only [ick, w32]; omega) ?_ | refine ev_ifF rfl (by simp only [ick, w32]; omega) ?_ | refine ev_icT rfl (by simp only [ick, w32]; omega) ?_ | refine ev_icF rfl (by simp only [ick, w32]; omega) ?_)
      exact ev_rt rfl rfl rfl
    · rw [if_neg hq]; repeat (first | refine ev_st rfl rfl ?_ | refine ev_getf rfl (by first | assumption | exact ah_eq | (refine ah_ne (by omega) ?_; first | assumption | exact ah_eq | (refine ah_ne (by omega) ?_; first | assumption | exact ah_eq | (refine ah_ne (by omega) ?_; first | assumption | exact ah_eq)))) (by rfl) ?_ | refine ev_ifT rfl (by simp only [ick, w32]; omega) ?_ | refine ev_ifF rfl (by simp only [ick, w32]; omega) ?_ | refine ev_icT rfl (by simp only [ick, w32]; omega) ?_ | refine ev_icF rfl (by simp only [ick, w32]; omega) ?_)
      exact ev_rt rfl rfl rfl
  rw [if_neg h0]
  by_cases h1 : k = 1
  · subst h1
    rw [if_pos rfl]
    refine ev_sw rfl (pc' := 66) (by decide) rfl ?_
    by_cases hq : 0 ≤ a ∧ a < 12
    · rw [if_pos hq]; repeat (first | refine ev_st rfl rfl ?_ | refine ev_getf rfl (by first | assumption | exact ah_eq | (refine ah_ne (by omega) ?_; first | assumption | exact ah_eq | (refine ah_ne (by omega) ?_; first | assumption | exact ah_eq | (refine ah_ne (by omega) ?_; first | assumption | exact ah_eq)))) (by rfl) ?_ | refine ev_ifT rfl (by simp only [ick, w32]; omega) ?_ | refine ev_ifF rfl (by simp only [ick, w32]; omega) ?_ | refine ev_icT rfl (by simp only [ick, w32]; omega) ?_ | refine ev_icF rfl (by simp only [ick, w32]; omega) ?_)
      exact ev_rt rfl rfl rfl
    · rw [if_neg hq]
      repeat (refine ev_st rfl rfl ?_)
      refine ev_if rfl (fun c => ?_) (fun c => ?_)
      · repeat (refine ev_st rfl rfl ?_)
        exact ev_rt rfl rfl rfl
      · simp only [ick, w32] at c
        repeat (first | refine ev_st rfl rfl ?_ | refine ev_getf rfl (by first | assumption | exact ah_eq | (refine ah_ne (by omega) ?_; first | assumption | exact ah_eq | (refine ah_ne (by omega) ?_; first | assumption | exact ah_eq | (refine ah_ne (by omega) ?_; first | assumption | exact ah_eq)))) (by rfl) ?_ | refine ev_ifT rfl (by simp only [ick, w32]; omega) ?_ | refine ev_ifF rfl (by simp only [ick, w32]; omega) ?_ | refine ev_icT rfl (by simp only [ick, w32]; omega) ?_ | refine ev_icF rfl (by simp only [ick, w32]; omega) ?_)
        exact ev_rt rfl rfl rfl
  rw [if_neg h1]
  by_cases h2 : k = 2
  · subst h2
    rw [if_pos rfl]
    refine ev_sw rfl (pc' := 46) (by decide) rfl ?_
    by_cases hq : a = 0
    · rw [if_pos hq]; repeat (first | refine ev_st rfl rfl ?_ | refine ev_getf rfl (by first | assumption | exact ah_eq | (refine ah_ne (by omega) ?_; first | assumption | exact ah_eq | (refine ah_ne (by omega) ?_; first | assumption | exact ah_eq | (refine ah_ne (by omega) ?_; first | assumption | exact ah_eq)))) (by rfl) ?_ | refine ev_ifT rfl (by simp only [ick, w32]; omega) ?_ | refine ev_ifF rfl (by simp only [ick, w32]; omega) ?_ | refine ev_icT rfl (by simp only [ick, w32]; omega) ?_ | refine ev_icF rfl (by simp only [ick, w32]; omega) ?_)
      exact ev_rt rfl rfl rfl
    · rw [if_neg hq]; repeat (first | refine ev_st rfl rfl ?_ | refine ev_getf rfl (by first | assumption | exact ah_eq | (refine ah_ne (by omega) ?_; first | assumption | exact ah_eq | (refine ah_ne (by omega) ?_; first | assumption | exact ah_eq | (refine ah_ne (by omega) ?_; first | assumption | exact ah_eq)))) (by rfl) ?_ | refine ev_ifT rfl (by simp only [ick, w32]; omega) ?_ | refine ev_ifF rfl (by simp only [ick, w32]; omega) ?_ | refine ev_icT rfl (by simp only [ick, w32]; omega) ?_ | refine ev_icF rfl (by simp only [ick, w32]; omega) ?_)
      exact ev_rt rfl rfl rfl
  rw [if_neg h2]
  by_cases h3 : k = 3
  · subst h3
    rw [if_pos rfl]
    refine ev_sw rfl (pc' := 56) (by decide) rfl ?_
    by_cases hq : a = 0
    · rw [if_pos hq]; repeat (first | refine ev_st rfl rfl ?_ | refine ev_getf rfl (by first | assumption | exact ah_eq | (refine ah_ne (by omega) ?_; first | assumption | exact ah_eq | (refine ah_ne (by omega) ?_; first | assumption | exact ah_eq | (refine ah_ne (by omega) ?_; first | assumption | exact ah_eq)))) (by rfl) ?_ | refine ev_ifT rfl (by simp only [ick, w32]; omega) ?_ | refine ev_ifF rfl (by simp only [ick, w32]; omega) ?_ | refine ev_icT rfl (by simp only [ick, w32]; omega) ?_ | refine ev_icF rfl (by simp only [ick, w32]; omega) ?_)
      exact ev_rt rfl rfl rfl
    · rw [if_neg hq]; repeat (first | refine ev_st rfl rfl ?_ | refine ev_getf rfl (by first | assumption | exact ah_eq | (refine ah_ne (by omega) ?_; first | assumption | exact ah_eq | (refine ah_ne (by omega) ?_; first | assumption | exact ah_eq | (refine ah_ne (by omega) ?_; first | assumption | exact ah_eq)))) (by rfl) ?_ | refine ev_ifT rfl (by simp only [ick, w32]; omega) ?_ | refine ev_ifF rfl (by simp only [ick, w32]; omega) ?_ | refine ev_icT rfl (by simp only [ick, w32]; omega) ?_ | refine ev_icF rfl (by simp only [ick, w32]; omega) ?_)
      exact ev_rt rfl rfl rfl
  rw [if_neg h3]
  by_cases h4 : k = 4
  · subst h4
    rw [if_pos rfl]
    refine ev_sw rfl (pc' := 84) (by decide) rfl ?_
    by_cases hq : 0 ≤ a ∧ a < 8
    · rw [if_pos hq]; repeat (first | refine ev_st rfl rfl ?_ | refine ev_getf rfl (by first | assumption | exact ah_eq | (refine ah_ne (by omega) ?_; first | assumption | exact ah_eq | (refine ah_ne (by omega) ?_; first | assumption | exact ah_eq | (refine ah_ne (by omega) ?_; first | assumption | exact ah_eq)))) (by rfl) ?_ | refine ev_ifT rfl (by simp only [ick, w32]; omega) ?_ | refine ev_ifF rfl (by simp only [ick, w32]; omega) ?_ | refine ev_icT rfl (by simp only [ick, w32]; omega) ?_ | refine ev_icF rfl (by simp only [ick, w32]; omega) ?_)
      exact ev_rt rfl rfl rfl
    · rw [if_neg hq]
      repeat (refine ev_st rfl rfl ?_)
      refine ev_if rfl (fun c => ?_) (fun c => ?_)
      · repeat (refine ev_st rfl rfl ?_)
        exact ev_rt rfl rfl rfl
      · simp only [ick, w32] at c
        repeat (first | refine ev_st rfl rfl ?_ | refine ev_getf rfl (by first | assumption | exact ah_eq | (refine ah_ne (by omega) ?_; first | assumption | exact ah_eq | (refine ah_ne (by omega) ?_; first | assumption | exact ah_eq | (refine ah_ne (by omega) ?_; first | assumption | exact ah_eq)))) (by rfl) ?_ | refine ev_ifT rfl (by simp only [ick, w32]; omega) ?_ | refine ev_ifF rfl (by simp only [ick, w32]; omega) ?_ | refine ev_icT rfl (by simp only [ick, w32]; omega) ?_ | refine ev_icF rfl (by simp only [ick, w32]; omega) ?_)
        exact ev_rt rfl rfl rfl
  rw [if_neg h4]
  refine ev_sw rfl (pc' := 103) (by rw [w32_id (by omega) (by omega)]; simp only [ai_sw]; rw [if_neg (by omega), if_neg (by omega), if_neg (by omega), if_neg (by omega), if_neg (by omega)]) rfl ?_
  repeat (refine ev_st rfl rfl ?_)
  exact ev_rt rfl rfl rfl
