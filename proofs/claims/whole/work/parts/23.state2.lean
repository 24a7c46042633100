-- booleans asked
section ZB
variable {t : AT} {pc nx a : Nat} {z : Int} {ts : List (Int × Nat)} {lv : AL} {r : List AV} {h : AH} {o : Option AV × AH} {b : Bool}
theorem ev_zneT (e : am_at t pc = (30, z, a, 1, nx, ts)) (hb : b = true) (k : Ev t a lv r h o) : Ev t pc lv (vB b :: r) h o := by
  subst hb
  exact ev_ifT e (by simp only [ick, w32, cond_true]; omega) k
theorem ev_zneF (e : am_at t pc = (30, z, a, 1, nx, ts)) (hb : b = false) (k : Ev t nx lv r h o) : Ev t pc lv (vB b :: r) h o := by
  subst hb
  exact ev_ifF e (by simp only [ick, w32, cond_false]; omega) k
theorem ev_zeqT (e : am_at t pc = (30, z, a, 0, nx, ts)) (hb : b = false) (k : Ev t a lv r h o) : Ev t pc lv (vB b :: r) h o := by
  subst hb
  exact ev_ifT e (by simp only [ick, w32, cond_false]; omega) k
theorem ev_zeqF (e : am_at t pc = (30, z, a, 0, nx, ts)) (hb : b = true) (k : Ev t nx lv r h o) : Ev t pc lv (vB b :: r) h o := by
  subst hb
  exact ev_ifF e (by simp only [ick, w32, cond_true]; omega) k
end ZB
-- State: at, put, size, isAllGood, addChainTo, addUnlikeTo, placeOf, with, the constructor
set_option maxHeartbeats 1000000 in
theorem c_at {h : AH} {s p : Nat} {f : Nat → Option Nat} (hs : h.2.2 s = some (cSt p)) (hp : h.2.2 p = some (cEa 23 f)) {i : Nat} (hi : i < 23) : Em mState_at 0 [vR s, .inl (i : Int)] h (some (.inr (.inr (f i)))) h := by
  show Ev tState_at 0 [some (vR s), some (.inl (i : Int))] [] h _
  repeat (first | refine ev_st rfl rfl ?_ | refine ev_getf rfl (by first | assumption | exact ah_eq | (refine ah_ne (by omega) ?_; first | assumption | exact ah_eq | (refine ah_ne (by omega) ?_; first | assumption | exact ah_eq | (refine ah_ne (by omega) ?_; first | assumption | exact ah_eq)))) (by rfl) ?_ | refine ev_laldN rfl (by first | assumption | exact ah_eq | (refine ah_ne (by omega) ?_; first | assumption | exact ah_eq | (refine ah_ne (by omega) ?_; first | assumption | exact ah_eq | (refine ah_ne (by omega) ?_; first | assumption | exact ah_eq)))) (by omega) (by omega) ?_ | refine ev_ialdN rfl (by first | assumption | exact ah_eq | (refine ah_ne (by omega) ?_; first | assumption | exact ah_eq | (refine ah_ne (by omega) ?_; first | assumption | exact ah_eq | (refine ah_ne (by omega) ?_; first | assumption | exact ah_eq)))) (by omega) (by omega) ?_ | refine ev_aaldN rfl (by first | assumption | exact ah_eq | (refine ah_ne (by omega) ?_; first | assumption | exact ah_eq | (refine ah_ne (by omega) ?_; first | assumption | exact ah_eq | (refine ah_ne (by omega) ?_; first | assumption | exact ah_eq)))) (by omega) (by omega) ?_ | refine ev_ifT rfl (by simp only [ick, w32]; omega) ?_ | refine ev_ifF rfl (by simp only [ick, w32]; omega) ?_ | refine ev_icT rfl (by simp only [ick, w32]; omega) ?_ | refine ev_icF rfl (by simp only [ick, w32]; omega) ?_)
  exact ev_rt rfl rfl rfl
set_option maxHeartbeats 1000000 in
theorem c_atN {h : AH} {s : Nat} : Em mState_at 0 [vR s, .inl (-1)] h (some (.inr (.inr none))) h := by
  show Ev tState_at 0 [some (vR s), some (.inl (-1))] [] h _
  repeat (first | refine ev_st rfl rfl ?_ | refine ev_getf rfl (by first | assumption | exact ah_eq | (refine ah_ne (by omega) ?_; first | assumption | exact ah_eq | (refine ah_ne (by omega) ?_; first | assumption | exact ah_eq | (refine ah_ne (by omega) ?_; first | assumption | exact ah_eq)))) (by rfl) ?_ | refine ev_ifT rfl (by simp only [ick, w32]; omega) ?_ | refine ev_ifF rfl (by simp only [ick, w32]; omega) ?_ | refine ev_icT rfl (by simp only [ick, w32]; omega) ?_ | refine ev_icF rfl (by simp only [ick, w32]; omega) ?_)
  exact ev_rt rfl rfl rfl
set_option maxHeartbeats 1000000 in
theorem c_putN {h : AH} {s : Nat} : Em mState_put 0 [vR s, .inr (.inr none)] h none h := by
  show Ev tState_put 0 [some (vR s), some (.inr (.inr none))] [] h _
  repeat (first | refine ev_st rfl rfl ?_ | refine ev_getf rfl (by first | assumption | exact ah_eq | (refine ah_ne (by omega) ?_; first | assumption | exact ah_eq | (refine ah_ne (by omega) ?_; first | assumption | exact ah_eq | (refine ah_ne (by omega) ?_; first | assumption | exact ah_eq)))) (by rfl) ?_ | refine ev_ifT rfl (by simp only [ick, w32]; omega) ?_ | refine ev_ifF rfl (by simp only [ick, w32]; omega) ?_ | refine ev_icT rfl (by simp only [ick, w32]; omega) ?_ | refine ev_icF rfl (by simp only [ick, w32]; omega) ?_)
  exact ev_rt rfl rfl rfl
set_option maxHeartbeats 1000000 in
theorem c_putS {h : AH} {s p v : Nat} {f : Nat → Option Nat} {fs : List AV} {cp : Nat} (hs : h.2.2 s = some (cSt p)) (hp : h.2.2 p = some (cEa 23 f)) (hv : h.2.2 v = some (.inr (1, fs))) (h7 : fs[7]? = some (.inl (cp : Int))) (hcp : cp < 23) : Em mState_put 0 [vR s, vR v] h none (ah_put h p (cEa 23 (va_up f cp (some v)))) := by
  show Ev tState_put 0 [some (vR s), some (vR v)] [] h _
  repeat (refine ev_st rfl rfl ?_)
  refine ev_getf rfl hv h7 ?_
  repeat (first | refine ev_st rfl rfl ?_ | refine ev_getf rfl (by first | assumption | exact ah_eq | (refine ah_ne (by omega) ?_; first | assumption | exact ah_eq | (refine ah_ne (by omega) ?_; first | assumption | exact ah_eq | (refine ah_ne (by omega) ?_; first | assumption | exact ah_eq)))) (by rfl) ?_ | refine ev_ifT rfl (by simp only [ick, w32]; omega) ?_ | refine ev_ifF rfl (by simp only [ick, w32]; omega) ?_ | refine ev_icT rfl (by simp only [ick, w32]; omega) ?_ | refine ev_icF rfl (by simp only [ick, w32]; omega) ?_)
  refine ev_getf rfl hv h7 ?_
  repeat (refine ev_st rfl rfl ?_)
  refine ev_aastS rfl hp hv hcp (by omega) ?_
  exact ev_rt rfl rfl rfl
set_option maxHeartbeats 1000000 in
theorem l_stsize {h : AH} {s p : Nat} {f : Nat → Option Nat} (hs : h.2.2 s = some (cSt p)) (hp : h.2.2 p = some (cEa 23 f)) : ∀ (k i : Nat), i + k = 23 → Ev tState_size 4 [some (vR s), some (.inl ((b_cnt i (fun j => (f j).isSome) : Nat) : Int)), some (.inl (i : Int))] [] h (some (.inl ((b_cnt 23 (fun j => (f j).isSome) : Nat) : Int)), h) := by
  intro k
  induction k with
  | zero =>
    intro i hi
    obtain rfl : i = 23 := by omega
    repeat (first | refine ev_st rfl rfl ?_ | refine ev_getf rfl (by first | assumption | exact ah_eq | (refine ah_ne (by omega) ?_; first | assumption | exact ah_eq | (refine ah_ne (by omega) ?_; first | assumption | exact ah_eq | (refine ah_ne (by omega) ?_; first | assumption | exact ah_eq)))) (by rfl) ?_ | refine ev_ifT rfl (by simp only [ick, w32]; omega) ?_ | refine ev_ifF rfl (by simp only [ick, w32]; omega) ?_ | refine ev_icT rfl (by simp only [ick, w32]; omega) ?_ | refine ev_icF rfl (by simp only [ick, w32]; omega) ?_)
    exact ev_rt rfl rfl rfl
  | succ k ih =>
    intro i hi
    have e : ((b_cnt (i + 1) (fun j => (f j).isSome) : Nat) : Int) = ((b_cnt i (fun j => (f j).isSome) : Nat) : Int) + (bif (f i).isSome then 1 else 0) := by
      simp only [b_cnt]
      cases (f i).isSome <;> simp
    have ih := ih (i + 1) (by omega)
    rw [e] at ih
    generalize ((b_cnt i (fun j => (f j).isSome) : Nat) : Int) = B at ih ⊢
    generalize ((b_cnt 23 (fun j => (f j).isSome) : Nat) : Int) = B2 at ih ⊢
    repeat (first | refine ev_st rfl rfl ?_ | refine ev_getf rfl (by first | assumption | exact ah_eq | (refine ah_ne (by omega) ?_; first | assumption | exact ah_eq | (refine ah_ne (by omega) ?_; first | assumption | exact ah_eq | (refine ah_ne (by omega) ?_; first | assumption | exact ah_eq)))) (by rfl) ?_ | refine ev_laldN rfl (by first | assumption | exact ah_eq | (refine ah_ne (by omega) ?_; first | assumption | exact ah_eq | (refine ah_ne (by omega) ?_; first | assumption | exact ah_eq | (refine ah_ne (by omega) ?_; first | assumption | exact ah_eq)))) (by omega) (by omega) ?_ | refine ev_ialdN rfl (by first | assumption | exact ah_eq | (refine ah_ne (by omega) ?_; first | assumption | exact ah_eq | (refine ah_ne (by omega) ?_; first | assumption | exact ah_eq | (refine ah_ne (by omega) ?_; first | assumption | exact ah_eq)))) (by omega) (by omega) ?_ | refine ev_aaldN rfl (by first | assumption | exact ah_eq | (refine ah_ne (by omega) ?_; first | assumption | exact ah_eq | (refine ah_ne (by omega) ?_; first | assumption | exact ah_eq | (refine ah_ne (by omega) ?_; first | assumption | exact ah_eq)))) (by omega) (by omega) ?_ | refine ev_ifT rfl (by simp only [ick, w32]; omega) ?_ | refine ev_ifF rfl (by simp only [ick, w32]; omega) ?_ | refine ev_icT rfl (by simp only [ick, w32]; omega) ?_ | refine ev_icF rfl (by simp only [ick, w32]; omega) ?_)
    cases hf : f i with
    | none =>
      rw [hf] at ih
      refine ev_nnF rfl rfl ?_
      iterate 6 (refine ev_st rfl rfl ?_)
      rw [nat_1]
      exact ih
    | some x =>
      rw [hf] at ih
      refine ev_nnT rfl (by intro q; cases q) ?_
      iterate 5 (refine ev_st rfl rfl ?_)
      rw [nat_1]
      exact ih
theorem c_stsize {h : AH} {s p : Nat} {f : Nat → Option Nat} (hs : h.2.2 s = some (cSt p)) (hp : h.2.2 p = some (cEa 23 f)) : Em mState_size 2 [vR s] h (some (.inl ((b_cnt 23 (fun j => (f j).isSome) : Nat) : Int))) h := by
  show Ev tState_size 0 [some (vR s), none, none] [] h _
  iterate 4 (refine ev_st rfl rfl ?_)
  exact l_stsize hs hp 23 0 rfl
set_option maxHeartbeats 1000000 in
theorem l_allGood {h : AH} {R : Nat → Prop} {ad : Nat → Nat} {N : Nat} {E : EL} {σ : SS} {s p : Nat} {f : Nat → Option Nat} (hs : h.2.2 s = some (cSt p)) (hp : h.2.2 p = some (cEa 23 f)) (hf : ∀ i, i < 23 → f i = oa ad (σ (pi_ i))) (hL : LG h R ad N E) (hσ : sOK N E σ) (B : Bool) (hB : B = b_all 23 (fun i => decide (σ (pi_ i) < 0) || e_gd (E (σ (pi_ i)).toNat))) : ∀ (k i : Nat), i + k = 23 → b_all i (fun i => decide (σ (pi_ i) < 0) || e_gd (E (σ (pi_ i)).toNat)) = true → Ev tState_isAllGood 2 [some (vR s), some (.inl (i : Int))] [] h (some (vB B), h) := by
  intro k
  induction k with
  | zero =>
    intro i hi hb
    obtain rfl : i = 23 := by omega
    rw [← hB] at hb
    rw [hb]
    clear hb hB
    repeat (first | refine ev_st rfl rfl ?_ | refine ev_getf rfl (by first | assumption | exact ah_eq | (refine ah_ne (by omega) ?_; first | assumption | exact ah_eq | (refine ah_ne (by omega) ?_; first | assumption | exact ah_eq | (refine ah_ne (by omega) ?_; first | assumption | exact ah_eq)))) (by rfl) ?_ | refine ev_ifT rfl (by simp only [ick, w32]; omega) ?_ | refine ev_ifF rfl (by simp only [ick, w32]; omega) ?_ | refine ev_icT rfl (by simp only [ick, w32]; omega) ?_ | refine ev_icF rfl (by simp only [ick, w32]; omega) ?_)
    exact ev_rt rfl rfl rfl
  | succ k ih =>
    intro i hi hb
    have ih := ih (i + 1) (by omega)
    simp only [b_all, hb, Bool.true_and] at ih
    clear hb
    repeat (first | refine ev_st rfl rfl ?_ | refine ev_getf rfl (by first | assumption | exact ah_eq | (refine ah_ne (by omega) ?_; first | assumption | exact ah_eq | (refine ah_ne (by omega) ?_; first | assumption | exact ah_eq | (refine ah_ne (by omega) ?_; first | assumption | exact ah_eq)))) (by rfl) ?_ | refine ev_ifT rfl (by simp only [ick, w32]; omega) ?_ | refine ev_ifF rfl (by simp only [ick, w32]; omega) ?_ | refine ev_icT rfl (by simp only [ick, w32]; omega) ?_ | refine ev_icF rfl (by simp only [ick, w32]; omega) ?_)
    refine ev_aaldN rfl (by first | assumption | exact ah_eq | (refine ah_ne (by omega) ?_; first | assumption | exact ah_eq | (refine ah_ne (by omega) ?_; first | assumption | exact ah_eq | (refine ah_ne (by omega) ?_; first | assumption | exact ah_eq)))) (by omega) (by omega) ?_
    rw [hf i (by omega)]
    rcases hσ.at (pi_ i) with h1 | ⟨n, hn, h1, hpl⟩
    · rw [oa_none h1]
      have ih := ih (by rw [h1]; rfl)
      iterate 3 (refine ev_st rfl rfl ?_)
      rw [nat_1]
      exact ih
    · rw [oa_some h1]
      obtain ⟨c, pa, gr, lv, er, bh, hc, -⟩ := evR.cell hL hn
      rw [h1, Int.toNat_natCast, decide_eq_false (show ¬ ((n : Int) < 0) by omega), Bool.false_or] at ih
      repeat (refine ev_st rfl rfl ?_)
      refine ev_getf rfl hs (by rfl) ?_
      repeat (refine ev_st rfl rfl ?_)
      refine ev_aaldN rfl (by first | assumption | exact ah_eq | (refine ah_ne (by omega) ?_; first | assumption | exact ah_eq | (refine ah_ne (by omega) ?_; first | assumption | exact ah_eq | (refine ah_ne (by omega) ?_; first | assumption | exact ah_eq)))) (by omega) (by omega) ?_
      rw [hf i (by omega), oa_some h1]
      refine ev_getf rfl hc (by rfl) ?_
      cases hg : e_gd (E n) with
      | true =>
        have ih := ih hg
        refine ev_zneT rfl rfl ?_
        iterate 2 (refine ev_st rfl rfl ?_)
        rw [nat_1]
        exact ih
      | false =>
        have hBf : B = false := by
          rw [hB, ← Bool.not_eq_true, b_all_iff]
          intro hall
          have := hall i (by omega)
          rw [h1, Int.toNat_natCast, hg] at this
          simp at this
          omega
        rw [hBf]
        refine ev_zneF rfl rfl ?_
        repeat (refine ev_st rfl rfl ?_)
        exact ev_rt rfl rfl rfl
theorem c_allGood {h : AH} {R : Nat → Prop} {ad : Nat → Nat} {N : Nat} {E : EL} {σ : SS} {s : Nat} (hS : stR h ad s σ) (hL : LG h R ad N E) (hσ : sOK N E σ) : Em mState_isAllGood 1 [vR s] h (some (vB (b_all 23 (fun i => decide (σ (pi_ i) < 0) || e_gd (E (σ (pi_ i)).toNat))))) h := by
  obtain ⟨p, f, hs, hp, hf⟩ := hS
  show Ev tState_isAllGood 0 [some (vR s), none] [] h _
  iterate 2 (refine ev_st rfl rfl ?_)
  exact l_allGood hs hp hf hL hσ _ rfl 23 0 rfl rfl
set_option maxHeartbeats 1000000 in
theorem c_stinit {h : AH} {o : Nat} {x : AV} (ho : h.2.2 o = some (.inr (6, [x]))) (hlt : o < h.1) : Em mState_init 0 [vR o] h none (ah_put (ah_new h 23 (cEa 23 fun _ => none)) o (cSt h.1)) := by
  show Ev tState_init 0 [some (vR o)] [] h _
  repeat (refine ev_st rfl rfl ?_)
  refine ev_newa 23 rfl (by decide) (by decide) ?_
  repeat (refine ev_st rfl rfl ?_)
  refine ev_putf rfl (ah_nne (by omega) ho) (Nat.le_refl 1) rfl ?_
  exact ev_rt rfl rfl rfl

-- the chain of the first i places
def ch_i (E : EL) (σ : SS) (i : Nat) : Nat → Bool := fun y => b_any i fun q => decide (0 ≤ σ (pi_ q)) && (decide (σ (pi_ q) = y) || e_ch (E (σ (pi_ q)).toNat) y)
set_option maxHeartbeats 2000000 in
theorem l_addChain {h : AH} {R : Nat → Prop} {ad : Nat → Nat} {N : Nat} {E : EL} {σ : SS} {s p : Nat} {f : Nat → Option Nat} (hs : h.2.2 s = some (cSt p)) (hp : h.2.2 p = some (cEa 23 f)) (hf : ∀ i, i < 23 → f i = oa ad (σ (pi_ i))) (hL : LG h R ad N E) (hN : N ≤ 400) (hσ : sOK N E σ) {o w : Nat} (hw0 : ¬ R w) (ho : h.2.2 o = some (cSet w)) (g0 : Nat → Bool) (np : p ≠ w) (ns : s ≠ w) (no : o ≠ w) : ∀ (k i : Nat) (j3 : Option AV) (g : Nat → BitVec 64), i + k = 23 → (∀ y, bS g y = (g0 y || ch_i E σ i y)) → ∃ g', Ev tState_addChainTo 2 [some (vR s), some (vR o), some (.inl (i : Int)), j3] [] (ah_put h w (cLng g)) (none, ah_put h w (cLng g')) ∧ ∀ y, bS g' y = (g0 y || ch_i E σ 23 y) := by
  intro k
  induction k with
  | zero =>
    intro i j3 g hi hg
    obtain rfl : i = 23 := by omega
    refine ⟨g, ?_, hg⟩
    clear hg
    repeat (first | refine ev_st rfl rfl ?_ | refine ev_getf rfl (by first | assumption | exact ah_eq | (refine ah_ne (by omega) ?_; first | assumption | exact ah_eq | (refine ah_ne (by omega) ?_; first | assumption | exact ah_eq | (refine ah_ne (by omega) ?_; first | assumption | exact ah_eq)))) (by rfl) ?_ | refine ev_ifT rfl (by simp only [ick, w32]; omega) ?_ | refine ev_ifF rfl (by simp only [ick, w32]; omega) ?_ | refine ev_icT rfl (by simp only [ick, w32]; omega) ?_ | refine ev_icF rfl (by simp only [ick, w32]; omega) ?_)
    exact ev_rt rfl rfl rfl
  | succ k ih =>
    intro i j3 g hi hg
    rcases hσ.at (pi_ i) with h1 | ⟨n, hn, h1, hpl⟩
    · have hg' : ∀ y, bS g y = (g0 y || ch_i E σ (i + 1) y) := by
        intro y
        rw [hg y]
        simp only [ch_i, b_any, h1]
        simp
      obtain ⟨g', hE, hg'⟩ := ih (i + 1) (some (.inr (.inr none))) g (by omega) hg'
      refine ⟨g', ?_, hg'⟩
      clear hg hg'
      repeat (first | refine ev_st rfl rfl ?_ | refine ev_getf rfl (by first | assumption | exact ah_eq | (refine ah_ne (by omega) ?_; first | assumption | exact ah_eq | (refine ah_ne (by omega) ?_; first | assumption | exact ah_eq | (refine ah_ne (by omega) ?_; first | assumption | exact ah_eq)))) (by rfl) ?_ | refine ev_ifT rfl (by simp only [ick, w32]; omega) ?_ | refine ev_ifF rfl (by simp only [ick, w32]; omega) ?_ | refine ev_icT rfl (by simp only [ick, w32]; omega) ?_ | refine ev_icF rfl (by simp only [ick, w32]; omega) ?_)
      refine ev_aaldN rfl (by first | assumption | exact ah_eq | (refine ah_ne (by omega) ?_; first | assumption | exact ah_eq | (refine ah_ne (by omega) ?_; first | assumption | exact ah_eq | (refine ah_ne (by omega) ?_; first | assumption | exact ah_eq)))) (by omega) (by omega) ?_
      rw [hf i (by omega), oa_none h1]
      iterate 5 (refine ev_st rfl rfl ?_)
      rw [nat_1]
      exact hE
    · obtain ⟨c, pa, gr, lv, er, bh, hc, ⟨wc, gc, ⟨rc, rwc⟩, hcc, hwc, hgc⟩, -⟩ := evR.cell hL hn
      have n1 : ad n ≠ w := fun q => hw0 (q ▸ (hL n hn).1)
      have n2 : c ≠ w := fun q => hw0 (q ▸ rc)
      have n3 : wc ≠ w := fun q => hw0 (q ▸ rwc)
      obtain ⟨g1, hE1, hg1⟩ := c_add (h := ah_put h w (cLng g)) (o := o) (w := w) (g := g) (n := n) (ah_ne no ho) ah_eq (by omega)
      rw [ah_putput] at hE1
      obtain ⟨g2, hE2, hg2⟩ := c_addAll (h := ah_put h w (cLng g1)) (o := o) (w := w) (g := g1) (ah_ne no ho) ah_eq (o2 := c) (w2 := wc) (g2 := gc) (ah_ne n2 hcc) (ah_ne n3 hwc) n3
      rw [ah_putput] at hE2
      have hg2' : ∀ y, bS g2 y = (g0 y || ch_i E σ (i + 1) y) := by
        intro y
        rw [hg2 y, hg1, f_on_d, hgc y, hg y]
        simp only [ch_i, b_any, h1, Int.toNat_natCast]
        have e1 : decide ((0 : Int) ≤ (n : Int)) = true := decide_eq_true (by omega)
        have e2 : decide ((n : Int) = (y : Int)) = decide (y = n) := by
          by_cases hq : y = n
          · subst hq; simp
          · rw [decide_eq_false hq, decide_eq_false (by omega)]
        rw [e1, e2]
        cases decide (y = n) <;> cases g0 y <;> cases e_ch (E n) y <;> simp
      obtain ⟨g', hE, hg'⟩ := ih (i + 1) (some (vR (ad n))) g2 (by omega) hg2'
      refine ⟨g', ?_, hg'⟩
      clear hg hg' hg1 hg2 hg2'
      repeat (first | refine ev_st rfl rfl ?_ | refine ev_getf rfl (by first | assumption | exact ah_eq | (refine ah_ne (by omega) ?_; first | assumption | exact ah_eq | (refine ah_ne (by omega) ?_; first | assumption | exact ah_eq | (refine ah_ne (by omega) ?_; first | assumption | exact ah_eq)))) (by rfl) ?_ | refine ev_ifT rfl (by simp only [ick, w32]; omega) ?_ | refine ev_ifF rfl (by simp only [ick, w32]; omega) ?_ | refine ev_icT rfl (by simp only [ick, w32]; omega) ?_ | refine ev_icF rfl (by simp only [ick, w32]; omega) ?_)
      refine ev_aaldN rfl (by first | assumption | exact ah_eq | (refine ah_ne (by omega) ?_; first | assumption | exact ah_eq | (refine ah_ne (by omega) ?_; first | assumption | exact ah_eq | (refine ah_ne (by omega) ?_; first | assumption | exact ah_eq)))) (by omega) (by omega) ?_
      rw [hf i (by omega), oa_some h1]
      iterate 5 (refine ev_st rfl rfl ?_)
      refine ev_getf rfl (ah_ne n1 hc) (by rfl) ?_
      refine ev_callV rfl rfl (ah_ne no ho) rfl hE1 ?_
      iterate 2 (refine ev_st rfl rfl ?_)
      refine ev_getf rfl (ah_ne n1 hc) (by rfl) ?_
      refine ev_callV rfl rfl (ah_ne no ho) rfl hE2 ?_
      iterate 2 (refine ev_st rfl rfl ?_)
      rw [nat_1]
      exact hE
