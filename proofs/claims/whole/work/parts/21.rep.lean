-- what a state and an event are in the heap
theorem ev_aastO {t : AT} {pc nx a b n q k : Nat} {z : Int} {ts : List (Int × Nat)} {lv : AL} {r : List AV} {h : AH} {o : Option AV × AH} {f : Nat → Option Nat} {v : Option Nat} (e : am_at t pc = (48, z, a, b, nx, ts)) (hh : h.2.2 q = some (.inl (a, n, .inr (.inr f)))) (hx : ∀ x, v = some x → ∃ fs, h.2.2 x = some (.inr (b, fs))) (hk : k < n) (hn : n ≤ 1000000) (kk : Ev t nx lv r (ah_put h q (.inl (a, n, .inr (.inr (va_up f k v))))) o) : Ev t pc lv (.inr (.inr v) :: .inl (k : Int) :: .inr (.inr (some q)) :: r) h o := by
  cases v with
  | none => exact ev_aastNN e hh hk hn kk
  | some x =>
    obtain ⟨fs, hfs⟩ := hx x rfl
    exact ev_aastS e hh hfs hk hn kk
abbrev cSt (p : Nat) : AE := .inr (6, [.inr (.inr (some p))])
abbrev cEa (n : Nat) (f : Nat → Option Nat) : AE := .inl (3, n, .inr (.inr f))
abbrev cIa (n : Nat) (f : Nat → Int) : AE := .inl (0, n, .inl f)
def isE (h : AH) (x : Nat) : Prop := ∃ fs, h.2.2 x = some (.inr (1, fs))
theorem ne_ao {h : AH} {x p : Nat} {a : Nat × Nat × AC} {b : Nat × List AV} (hx : h.2.2 x = some (.inr b)) (hp : h.2.2 p = some (.inl a)) : x ≠ p := by
  rintro rfl
  rw [hx] at hp
  cases hp
theorem isE.put {h : AH} {x p : Nat} {a : Nat × Nat × AC} {e : AE} (hx : isE h x) (hp : h.2.2 p = some (.inl a)) : isE (ah_put h p e) x := by
  obtain ⟨fs, hfs⟩ := hx
  exact ⟨fs, ah_ne (ne_ao hfs hp) hfs⟩
theorem fill_keep {α : Type} {i : Nat} {F g : Nat → α} (h : g i = F i) : fill i F g = fill (i + 1) F g := by
  funext j
  simp only [fill]
  by_cases h1 : j < i
  · rw [if_pos h1, if_pos (by omega)]
  · by_cases h2 : j = i
    · subst h2; rw [if_neg h1, if_pos (by omega)]; exact h
    · rw [if_neg h1, if_neg (by omega)]
-- State.copy, fillFrom, overlay, keepSame: place by place

set_option maxHeartbeats 1000000 in
theorem l_stcopy {h : AH} {s p s2 p2 : Nat} {f f2 : Nat → Option Nat} (hs : h.2.2 s = some (cSt p)) (hp : h.2.2 p = some (cEa 23 f)) (hs2 : h.2.2 s2 = some (cSt p2)) (hp2 : h.2.2 p2 = some (cEa 23 f2)) (hne : p2 ≠ p) (hE : ∀ i, i < 23 → ∀ x, f2 i = some x → isE h x) (n1 : s ≠ p) (n2 : s2 ≠ p) : ∀ (k i : Nat), i + k = 23 → Ev tState_copy 2 [some (vR s), some (vR s2), some (.inl (i : Int))] [] (ah_put h p (cEa 23 (fill i (fun j => f2 j) f))) (none, ah_put h p (cEa 23 (fill 23 (fun j => f2 j) f))) := by
  intro k
  induction k with
  | zero =>
    intro i hi
    obtain rfl : i = 23 := by omega
    repeat (first | refine ev_st rfl rfl ?_ | refine ev_getf rfl (by first | assumption | exact ah_eq | (refine ah_ne (by omega) ?_; first | assumption | exact ah_eq | (refine ah_ne (by omega) ?_; first | assumption | exact ah_eq | (refine ah_ne (by omega) ?_; first | assumption | exact ah_eq)))) (by rfl) ?_ | refine ev_ifT rfl (by simp only [ick, w32]; omega) ?_ | refine ev_ifF rfl (by simp only [ick, w32]; omega) ?_ | refine ev_icT rfl (by simp only [ick, w32]; omega) ?_ | refine ev_icF rfl (by simp only [ick, w32]; omega) ?_)
    exact ev_rt rfl rfl rfl
  | succ k ih =>
    intro i hi
    repeat (first | refine ev_st rfl rfl ?_ | refine ev_getf rfl (by first | assumption | exact ah_eq | (refine ah_ne (by omega) ?_; first | assumption | exact ah_eq | (refine ah_ne (by omega) ?_; first | assumption | exact ah_eq | (refine ah_ne (by omega) ?_; first | assumption | exact ah_eq)))) (by rfl) ?_ | refine ev_laldN rfl (by first | assumption | exact ah_eq | (refine ah_ne (by omega) ?_; first | assumption | exact ah_eq | (refine ah_ne (by omega) ?_; first | assumption | exact ah_eq | (refine ah_ne (by omega) ?_; first | assumption | exact ah_eq)))) (by omega) (by omega) ?_ | refine ev_ialdN rfl (by first | assumption | exact ah_eq | (refine ah_ne (by omega) ?_; first | assumption | exact ah_eq | (refine ah_ne (by omega) ?_; first | assumption | exact ah_eq | (refine ah_ne (by omega) ?_; first | assumption | exact ah_eq)))) (by omega) (by omega) ?_ | refine ev_aaldN rfl (by first | assumption | exact ah_eq | (refine ah_ne (by omega) ?_; first | assumption | exact ah_eq | (refine ah_ne (by omega) ?_; first | assumption | exact ah_eq | (refine ah_ne (by omega) ?_; first | assumption | exact ah_eq)))) (by omega) (by omega) ?_ | refine ev_ifT rfl (by simp only [ick, w32]; omega) ?_ | refine ev_ifF rfl (by simp only [ick, w32]; omega) ?_ | refine ev_icT rfl (by simp only [ick, w32]; omega) ?_ | refine ev_icF rfl (by simp only [ick, w32]; omega) ?_)
    refine ev_aastO rfl (by first | assumption | exact ah_eq | (refine ah_ne (by omega) ?_; first | assumption | exact ah_eq | (refine ah_ne (by omega) ?_; first | assumption | exact ah_eq | (refine ah_ne (by omega) ?_; first | assumption | exact ah_eq)))) (fun x hx => (hE i (by omega) x hx).put hp) (by omega) (by omega) ?_
    rw [ah_putput, fill_up i (fun j => f2 j) f]
    iterate 2 (refine ev_st rfl rfl ?_)
    rw [nat_1]
    exact ih (i + 1) (by omega)
theorem c_stcopy {h : AH} {s p s2 p2 : Nat} {f f2 : Nat → Option Nat} (hs : h.2.2 s = some (cSt p)) (hp : h.2.2 p = some (cEa 23 f)) (hs2 : h.2.2 s2 = some (cSt p2)) (hp2 : h.2.2 p2 = some (cEa 23 f2)) (hne : p2 ≠ p) (hE : ∀ i, i < 23 → ∀ x, f2 i = some x → isE h x) : Em mState_copy 1 [vR s, vR s2] h none (ah_put h p (cEa 23 (fill 23 (fun j => f2 j) f))) := by
  show Ev tState_copy 0 [some (vR s), some (vR s2), none] [] h _
  iterate 2 (refine ev_st rfl rfl ?_)
  have := l_stcopy hs hp hs2 hp2 hne hE (ne_ao hs hp) (ne_ao hs2 hp) 23 0 rfl
  rw [fill_0, ah_same hp] at this
  exact this

set_option maxHeartbeats 1000000 in
theorem l_stfillFrom {h : AH} {s p s2 p2 : Nat} {f f2 : Nat → Option Nat} (hs : h.2.2 s = some (cSt p)) (hp : h.2.2 p = some (cEa 23 f)) (hs2 : h.2.2 s2 = some (cSt p2)) (hp2 : h.2.2 p2 = some (cEa 23 f2)) (hne : p2 ≠ p) (hE : ∀ i, i < 23 → ∀ x, f2 i = some x → isE h x) (n1 : s ≠ p) (n2 : s2 ≠ p) : ∀ (k i : Nat), i + k = 23 → Ev tState_fillFrom 2 [some (vR s), some (vR s2), some (.inl (i : Int))] [] (ah_put h p (cEa 23 (fill i (fun j => if f j = none then f2 j else f j) f))) (none, ah_put h p (cEa 23 (fill 23 (fun j => if f j = none then f2 j else f j) f))) := by
  intro k
  induction k with
  | zero =>
    intro i hi
    obtain rfl : i = 23 := by omega
    repeat (first | refine ev_st rfl rfl ?_ | refine ev_getf rfl (by first | assumption | exact ah_eq | (refine ah_ne (by omega) ?_; first | assumption | exact ah_eq | (refine ah_ne (by omega) ?_; first | assumption | exact ah_eq | (refine ah_ne (by omega) ?_; first | assumption | exact ah_eq)))) (by rfl) ?_ | refine ev_ifT rfl (by simp only [ick, w32]; omega) ?_ | refine ev_ifF rfl (by simp only [ick, w32]; omega) ?_ | refine ev_icT rfl (by simp only [ick, w32]; omega) ?_ | refine ev_icF rfl (by simp only [ick, w32]; omega) ?_)
    exact ev_rt rfl rfl rfl
  | succ k ih =>
    intro i hi
    repeat (first | refine ev_st rfl rfl ?_ | refine ev_getf rfl (by first | assumption | exact ah_eq | (refine ah_ne (by omega) ?_; first | assumption | exact ah_eq | (refine ah_ne (by omega) ?_; first | assumption | exact ah_eq | (refine ah_ne (by omega) ?_; first | assumption | exact ah_eq)))) (by rfl) ?_ | refine ev_laldN rfl (by first | assumption | exact ah_eq | (refine ah_ne (by omega) ?_; first | assumption | exact ah_eq | (refine ah_ne (by omega) ?_; first | assumption | exact ah_eq | (refine ah_ne (by omega) ?_; first | assumption | exact ah_eq)))) (by omega) (by omega) ?_ | refine ev_ialdN rfl (by first | assumption | exact ah_eq | (refine ah_ne (by omega) ?_; first | assumption | exact ah_eq | (refine ah_ne (by omega) ?_; first | assumption | exact ah_eq | (refine ah_ne (by omega) ?_; first | assumption | exact ah_eq)))) (by omega) (by omega) ?_ | refine ev_aaldN rfl (by first | assumption | exact ah_eq | (refine ah_ne (by omega) ?_; first | assumption | exact ah_eq | (refine ah_ne (by omega) ?_; first | assumption | exact ah_eq | (refine ah_ne (by omega) ?_; first | assumption | exact ah_eq)))) (by omega) (by omega) ?_ | refine ev_ifT rfl (by simp only [ick, w32]; omega) ?_ | refine ev_ifF rfl (by simp only [ick, w32]; omega) ?_ | refine ev_icT rfl (by simp only [ick, w32]; omega) ?_ | refine ev_icF rfl (by simp only [ick, w32]; omega) ?_)
    rw [fill_at]
    have hstep : ∀ v, v = (fun j => if f j = none then f2 j else f j) i → ah_put (ah_put h p (cEa 23 (fill i (fun j => if f j = none then f2 j else f j) f))) p (cEa 23 (va_up (fill i (fun j => if f j = none then f2 j else f j) f) i v)) = ah_put h p (cEa 23 (fill (i + 1) (fun j => if f j = none then f2 j else f j) f)) := by
      intro v hv
      subst hv
      rw [ah_putput, fill_up i (fun j => if f j = none then f2 j else f j) f]
    have hsame : f i = (fun j => if f j = none then f2 j else f j) i → ah_put h p (cEa 23 (fill i (fun j => if f j = none then f2 j else f j) f)) = ah_put h p (cEa 23 (fill (i + 1) (fun j => if f j = none then f2 j else f j) f)) := by
      intro hv
      rw [fill_keep hv]
    by_cases hc : f i = none
    · refine ev_nnF rfl hc ?_
      repeat (first | refine ev_st rfl rfl ?_ | refine ev_getf rfl (by first | assumption | exact ah_eq | (refine ah_ne (by omega) ?_; first | assumption | exact ah_eq | (refine ah_ne (by omega) ?_; first | assumption | exact ah_eq | (refine ah_ne (by omega) ?_; first | assumption | exact ah_eq)))) (by rfl) ?_ | refine ev_laldN rfl (by first | assumption | exact ah_eq | (refine ah_ne (by omega) ?_; first | assumption | exact ah_eq | (refine ah_ne (by omega) ?_; first | assumption | exact ah_eq | (refine ah_ne (by omega) ?_; first | assumption | exact ah_eq)))) (by omega) (by omega) ?_ | refine ev_ialdN rfl (by first | assumption | exact ah_eq | (refine ah_ne (by omega) ?_; first | assumption | exact ah_eq | (refine ah_ne (by omega) ?_; first | assumption | exact ah_eq | (refine ah_ne (by omega) ?_; first | assumption | exact ah_eq)))) (by omega) (by omega) ?_ | refine ev_aaldN rfl (by first | assumption | exact ah_eq | (refine ah_ne (by omega) ?_; first | assumption | exact ah_eq | (refine ah_ne (by omega) ?_; first | assumption | exact ah_eq | (refine ah_ne (by omega) ?_; first | assumption | exact ah_eq)))) (by omega) (by omega) ?_ | refine ev_ifT rfl (by simp only [ick, w32]; omega) ?_ | refine ev_ifF rfl (by simp only [ick, w32]; omega) ?_ | refine ev_icT rfl (by simp only [ick, w32]; omega) ?_ | refine ev_icF rfl (by simp only [ick, w32]; omega) ?_)
      refine ev_aastO rfl (by first | assumption | exact ah_eq | (refine ah_ne (by omega) ?_; first | assumption | exact ah_eq | (refine ah_ne (by omega) ?_; first | assumption | exact ah_eq | (refine ah_ne (by omega) ?_; first | assumption | exact ah_eq)))) (fun x hx => (hE i (by omega) x hx).put hp) (by omega) (by omega) ?_
      rw [hstep _ (by simp [hc])]
      iterate 2 (refine ev_st rfl rfl ?_)
      rw [nat_1]
      exact ih (i + 1) (by omega)
    · refine ev_nnT rfl hc ?_
      rw [hsame (by simp [hc])]
      iterate 2 (refine ev_st rfl rfl ?_)
      rw [nat_1]
      exact ih (i + 1) (by omega)
theorem c_stfillFrom {h : AH} {s p s2 p2 : Nat} {f f2 : Nat → Option Nat} (hs : h.2.2 s = some (cSt p)) (hp : h.2.2 p = some (cEa 23 f)) (hs2 : h.2.2 s2 = some (cSt p2)) (hp2 : h.2.2 p2 = some (cEa 23 f2)) (hne : p2 ≠ p) (hE : ∀ i, i < 23 → ∀ x, f2 i = some x → isE h x) : Em mState_fillFrom 1 [vR s, vR s2] h none (ah_put h p (cEa 23 (fill 23 (fun j => if f j = none then f2 j else f j) f))) := by
  show Ev tState_fillFrom 0 [some (vR s), some (vR s2), none] [] h _
  iterate 2 (refine ev_st rfl rfl ?_)
  have := l_stfillFrom hs hp hs2 hp2 hne hE (ne_ao hs hp) (ne_ao hs2 hp) 23 0 rfl
  rw [fill_0, ah_same hp] at this
  exact this

set_option maxHeartbeats 1000000 in
theorem l_stoverlay {h : AH} {s p s2 p2 : Nat} {f f2 : Nat → Option Nat} (hs : h.2.2 s = some (cSt p)) (hp : h.2.2 p = some (cEa 23 f)) (hs2 : h.2.2 s2 = some (cSt p2)) (hp2 : h.2.2 p2 = some (cEa 23 f2)) (hne : p2 ≠ p) (hE : ∀ i, i < 23 → ∀ x, f2 i = some x → isE h x) (n1 : s ≠ p) (n2 : s2 ≠ p) : ∀ (k i : Nat), i + k = 23 → Ev tState_overlay 2 [some (vR s), some (vR s2), some (.inl (i : Int))] [] (ah_put h p (cEa 23 (fill i (fun j => if f2 j = none then f j else f2 j) f))) (none, ah_put h p (cEa 23 (fill 23 (fun j => if f2 j = none then f j else f2 j) f))) := by
  intro k
  induction k with
  | zero =>
    intro i hi
    obtain rfl : i = 23 := by omega
    repeat (first | refine ev_st rfl rfl ?_ | refine ev_getf rfl (by first | assumption | exact ah_eq | (refine ah_ne (by omega) ?_; first | assumption | exact ah_eq | (refine ah_ne (by omega) ?_; first | assumption | exact ah_eq | (refine ah_ne (by omega) ?_; first | assumption | exact ah_eq)))) (by rfl) ?_ | refine ev_ifT rfl (by simp only [ick, w32]; omega) ?_ | refine ev_ifF rfl (by simp only [ick, w32]; omega) ?_ | refine ev_icT rfl (by simp only [ick, w32]; omega) ?_ | refine ev_icF rfl (by simp only [ick, w32]; omega) ?_)
    exact ev_rt rfl rfl rfl
  | succ k ih =>
    intro i hi
    repeat (first | refine ev_st rfl rfl ?_ | refine ev_getf rfl (by first | assumption | exact ah_eq | (refine ah_ne (by omega) ?_; first | assumption | exact ah_eq | (refine ah_ne (by omega) ?_; first | assumption | exact ah_eq | (refine ah_ne (by omega) ?_; first | assumption | exact ah_eq)))) (by rfl) ?_ | refine ev_laldN rfl (by first | assumption | exact ah_eq | (refine ah_ne (by omega) ?_; first | assumption | exact ah_eq | (refine ah_ne (by omega) ?_; first | assumption | exact ah_eq | (refine ah_ne (by omega) ?_; first | assumption | exact ah_eq)))) (by omega) (by omega) ?_ | refine ev_ialdN rfl (by first | assumption | exact ah_eq | (refine ah_ne (by omega) ?_; first | assumption | exact ah_eq | (refine ah_ne (by omega) ?_; first | assumption | exact ah_eq | (refine ah_ne (by omega) ?_; first | assumption | exact ah_eq)))) (by omega) (by omega) ?_ | refine ev_aaldN rfl (by first | assumption | exact ah_eq | (refine ah_ne (by omega) ?_; first | assumption | exact ah_eq | (refine ah_ne (by omega) ?_; first | assumption | exact ah_eq | (refine ah_ne (by omega) ?_; first | assumption | exact ah_eq)))) (by omega) (by omega) ?_ | refine ev_ifT rfl (by simp only [ick, w32]; omega) ?_ | refine ev_ifF rfl (by simp only [ick, w32]; omega) ?_ | refine ev_icT rfl (by simp only [ick, w32]; omega) ?_ | refine ev_icF rfl (by simp only [ick, w32]; omega) ?_)
    have hstep : ∀ v, v = (fun j => if f2 j = none then f j else f2 j) i → ah_put (ah_put h p (cEa 23 (fill i (fun j => if f2 j = none then f j else f2 j) f))) p (cEa 23 (va_up (fill i (fun j => if f2 j = none then f j else f2 j) f) i v)) = ah_put h p (cEa 23 (fill (i + 1) (fun j => if f2 j = none then f j else f2 j) f)) := by
      intro v hv
      subst hv
      rw [ah_putput, fill_up i (fun j => if f2 j = none then f j else f2 j) f]
    have hsame : f i = (fun j => if f2 j = none then f j else f2 j) i → ah_put h p (cEa 23 (fill i (fun j => if f2 j = none then f j else f2 j) f)) = ah_put h p (cEa 23 (fill (i + 1) (fun j => if f2 j = none then f j else f2 j) f)) := by
      intro hv
      rw [fill_keep hv]
    by_cases hc : f2 i = none
    · refine ev_nT rfl hc ?_
      rw [hsame (by simp [hc])]
      iterate 2 (refine ev_st rfl rfl ?_)
      rw [nat_1]
      exact ih (i + 1) (by omega)
    · refine ev_nF rfl hc ?_
      repeat (first | refine ev_st rfl rfl ?_ | refine ev_getf rfl (by first | assumption | exact ah_eq | (refine ah_ne (by omega) ?_; first | assumption | exact ah_eq | (refine ah_ne (by omega) ?_; first | assumption | exact ah_eq | (refine ah_ne (by omega) ?_; first | assumption | exact ah_eq)))) (by rfl) ?_ | refine ev_laldN rfl (by first | assumption | exact ah_eq | (refine ah_ne (by omega) ?_; first | assumption | exact ah_eq | (refine ah_ne (by omega) ?_; first | assumption | exact ah_eq | (refine ah_ne (by omega) ?_; first | assumption | exact ah_eq)))) (by omega) (by omega) ?_ | refine ev_ialdN rfl (by first | assumption | exact ah_eq | (refine ah_ne (by omega) ?_; first | assumption | exact ah_eq | (refine ah_ne (by omega) ?_; first | assumption | exact ah_eq | (refine ah_ne (by omega) ?_; first | assumption | exact ah_eq)))) (by omega) (by omega) ?_ | refine ev_aaldN rfl (by first | assumption | exact ah_eq | (refine ah_ne (by omega) ?_; first | assumption | exact ah_eq | (refine ah_ne (by omega) ?_; first | assumption | exact ah_eq | (refine ah_ne (by omega) ?_; first | assumption | exact ah_eq)))) (by omega) (by omega) ?_ | refine ev_ifT rfl (by simp only [ick, w32]; omega) ?_ | refine ev_ifF rfl (by simp only [ick, w32]; omega) ?_ | refine ev_icT rfl (by simp only [ick, w32]; omega) ?_ | refine ev_icF rfl (by simp only [ick, w32]; omega) ?_)
      refine ev_aastO rfl (by first | assumption | exact ah_eq | (refine ah_ne (by omega) ?_; first | assumption | exact ah_eq | (refine ah_ne (by omega) ?_; first | assumption | exact ah_eq | (refine ah_ne (by omega) ?_; first | assumption | exact ah_eq)))) (fun x hx => (hE i (by omega) x hx).put hp) (by omega) (by omega) ?_
      rw [hstep _ (by simp [hc])]
      iterate 2 (refine ev_st rfl rfl ?_)
      rw [nat_1]
      exact ih (i + 1) (by omega)
theorem c_stoverlay {h : AH} {s p s2 p2 : Nat} {f f2 : Nat → Option Nat} (hs : h.2.2 s = some (cSt p)) (hp : h.2.2 p = some (cEa 23 f)) (hs2 : h.2.2 s2 = some (cSt p2)) (hp2 : h.2.2 p2 = some (cEa 23 f2)) (hne : p2 ≠ p) (hE : ∀ i, i < 23 → ∀ x, f2 i = some x → isE h x) : Em mState_overlay 1 [vR s, vR s2] h none (ah_put h p (cEa 23 (fill 23 (fun j => if f2 j = none then f j else f2 j) f))) := by
  show Ev tState_overlay 0 [some (vR s), some (vR s2), none] [] h _
  iterate 2 (refine ev_st rfl rfl ?_)
  have := l_stoverlay hs hp hs2 hp2 hne hE (ne_ao hs hp) (ne_ao hs2 hp) 23 0 rfl
  rw [fill_0, ah_same hp] at this
  exact this

set_option maxHeartbeats 1000000 in
theorem l_stkeepSame {h : AH} {s p s2 p2 : Nat} {f f2 : Nat → Option Nat} (hs : h.2.2 s = some (cSt p)) (hp : h.2.2 p = some (cEa 23 f)) (hs2 : h.2.2 s2 = some (cSt p2)) (hp2 : h.2.2 p2 = some (cEa 23 f2)) (hne : p2 ≠ p) (hE : ∀ i, i < 23 → ∀ x, f2 i = some x → isE h x) (n1 : s ≠ p) (n2 : s2 ≠ p) : ∀ (k i : Nat), i + k = 23 → Ev tState_keepSame 2 [some (vR s), some (vR s2), some (.inl (i : Int))] [] (ah_put h p (cEa 23 (fill i (fun j => if f j = f2 j then f j else none) f))) (none, ah_put h p (cEa 23 (fill 23 (fun j => if f j = f2 j then f j else none) f))) := by
  intro k
  induction k with
  | zero =>
    intro i hi
    obtain rfl : i = 23 := by omega
    repeat (first | refine ev_st rfl rfl ?_ | refine ev_getf rfl (by first | assumption | exact ah_eq | (refine ah_ne (by omega) ?_; first | assumption | exact ah_eq | (refine ah_ne (by omega) ?_; first | assumption | exact ah_eq | (refine ah_ne (by omega) ?_; first | assumption | exact ah_eq)))) (by rfl) ?_ | refine ev_ifT rfl (by simp only [ick, w32]; omega) ?_ | refine ev_ifF rfl (by simp only [ick, w32]; omega) ?_ | refine ev_icT rfl (by simp only [ick, w32]; omega) ?_ | refine ev_icF rfl (by simp only [ick, w32]; omega) ?_)
    exact ev_rt rfl rfl rfl
  | succ k ih =>
    intro i hi
    repeat (first | refine ev_st rfl rfl ?_ | refine ev_getf rfl (by first | assumption | exact ah_eq | (refine ah_ne (by omega) ?_; first | assumption | exact ah_eq | (refine ah_ne (by omega) ?_; first | assumption | exact ah_eq | (refine ah_ne (by omega) ?_; first | assumption | exact ah_eq)))) (by rfl) ?_ | refine ev_laldN rfl (by first | assumption | exact ah_eq | (refine ah_ne (by omega) ?_; first | assumption | exact ah_eq | (refine ah_ne (by omega) ?_; first | assumption | exact ah_eq | (refine ah_ne (by omega) ?_; first | assumption | exact ah_eq)))) (by omega) (by omega) ?_ | refine ev_ialdN rfl (by first | assumption | exact ah_eq | (refine ah_ne (by omega) ?_; first | assumption | exact ah_eq | (refine ah_ne (by omega) ?_; first | assumption | exact ah_eq | (refine ah_ne (by omega) ?_; first | assumption | exact ah_eq)))) (by omega) (by omega) ?_ | refine ev_aaldN rfl (by first | assumption | exact ah_eq | (refine ah_ne (by omega) ?_; first | assumption | exact ah_eq | (refine ah_ne (by omega) ?_; first | assumption | exact ah_eq | (refine ah_ne (by omega) ?_; first | assumption | exact ah_eq)))) (by omega) (by omega) ?_ | refine ev_ifT rfl (by simp only [ick, w32]; omega) ?_ | refine ev_ifF rfl (by simp only [ick, w32]; omega) ?_ | refine ev_icT rfl (by simp only [ick, w32]; omega) ?_ | refine ev_icF rfl (by simp only [ick, w32]; omega) ?_)
    rw [fill_at]
    have hstep : ∀ v, v = (fun j => if f j = f2 j then f j else none) i → ah_put (ah_put h p (cEa 23 (fill i (fun j => if f j = f2 j then f j else none) f))) p (cEa 23 (va_up (fill i (fun j => if f j = f2 j then f j else none) f) i v)) = ah_put h p (cEa 23 (fill (i + 1) (fun j => if f j = f2 j then f j else none) f)) := by
      intro v hv
      subst hv
      rw [ah_putput, fill_up i (fun j => if f j = f2 j then f j else none) f]
    have hsame : f i = (fun j => if f j = f2 j then f j else none) i → ah_put h p (cEa 23 (fill i (fun j => if f j = f2 j then f j else none) f)) = ah_put h p (cEa 23 (fill (i + 1) (fun j => if f j = f2 j then f j else none) f)) := by
      intro hv
      rw [fill_keep hv]
    by_cases hc : f i = f2 i
    · refine ev_aeT rfl hc ?_
      rw [hsame (by simp [hc])]
      iterate 2 (refine ev_st rfl rfl ?_)
      rw [nat_1]
      exact ih (i + 1) (by omega)
    · refine ev_aeF rfl hc ?_
      repeat (first | refine ev_st rfl rfl ?_ | refine ev_getf rfl (by first | assumption | exact ah_eq | (refine ah_ne (by omega) ?_; first | assumption | exact ah_eq | (refine ah_ne (by omega) ?_; first | assumption | exact ah_eq | (refine ah_ne (by omega) ?_; first | assumption | exact ah_eq)))) (by rfl) ?_ | refine ev_laldN rfl (by first | assumption | exact ah_eq | (refine ah_ne (by omega) ?_; first | assumption | exact ah_eq | (refine ah_ne (by omega) ?_; first | assumption | exact ah_eq | (refine ah_ne (by omega) ?_; first | assumption | exact ah_eq)))) (by omega) (by omega) ?_ | refine ev_ialdN rfl (by first | assumption | exact ah_eq | (refine ah_ne (by omega) ?_; first | assumption | exact ah_eq | (refine ah_ne (by omega) ?_; first | assumption | exact ah_eq | (refine ah_ne (by omega) ?_; first | assumption | exact ah_eq)))) (by omega) (by omega) ?_ | refine ev_aaldN rfl (by first | assumption | exact ah_eq | (refine ah_ne (by omega) ?_; first | assumption | exact ah_eq | (refine ah_ne (by omega) ?_; first | assumption | exact ah_eq | (refine ah_ne (by omega) ?_; first | assumption | exact ah_eq)))) (by omega) (by omega) ?_ | refine ev_ifT rfl (by simp only [ick, w32]; omega) ?_ | refine ev_ifF rfl (by simp only [ick, w32]; omega) ?_ | refine ev_icT rfl (by simp only [ick, w32]; omega) ?_ | refine ev_icF rfl (by simp only [ick, w32]; omega) ?_)
      refine ev_aastNN rfl (by first | assumption | exact ah_eq | (refine ah_ne (by omega) ?_; first | assumption | exact ah_eq | (refine ah_ne (by omega) ?_; first | assumption | exact ah_eq | (refine ah_ne (by omega) ?_; first | assumption | exact ah_eq)))) (by omega) (by omega) ?_
      rw [hstep _ (by simp [hc])]
      iterate 2 (refine ev_st rfl rfl ?_)
      rw [nat_1]
      exact ih (i + 1) (by omega)
theorem c_stkeepSame {h : AH} {s p s2 p2 : Nat} {f f2 : Nat → Option Nat} (hs : h.2.2 s = some (cSt p)) (hp : h.2.2 p = some (cEa 23 f)) (hs2 : h.2.2 s2 = some (cSt p2)) (hp2 : h.2.2 p2 = some (cEa 23 f2)) (hne : p2 ≠ p) (hE : ∀ i, i < 23 → ∀ x, f2 i = some x → isE h x) : Em mState_keepSame 1 [vR s, vR s2] h none (ah_put h p (cEa 23 (fill 23 (fun j => if f j = f2 j then f j else none) f))) := by
  show Ev tState_keepSame 0 [some (vR s), some (vR s2), none] [] h _
  iterate 2 (refine ev_st rfl rfl ?_)
  have := l_stkeepSame hs hp hs2 hp2 hne hE (ne_ao hs hp) (ne_ao hs2 hp) 23 0 rfl
  rw [fill_0, ah_same hp] at this
  exact this

