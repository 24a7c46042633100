-- array rows at an index that is a natural number
section EV3
variable {t : AT} {pc nx a b n q k : Nat} {z x : Int} {ts : List (Int × Nat)} {lv : AL} {r : List AV} {h : AH} {o : Option AV × AH} {fs : List AV}
theorem w32_n {k n : Nat} (h : k < n) (hn : n ≤ 1000000) : w32 (k : Int) = k := w32_id (by omega) (by omega)
theorem ev_ialdN {f : Nat → Int} (e : am_at t pc = (42, z, a, b, nx, ts)) (hh : h.2.2 q = some (.inl (a, n, .inl f))) (hk : k < n) (hn : n ≤ 1000000) (kk : Ev t nx lv (.inl (f k) :: r) h o) : Ev t pc lv (.inl (k : Int) :: .inr (.inr (some q)) :: r) h o := ev_iald k e hh (w32_n hk hn) hk kk
theorem ev_laldN {f : Nat → BitVec 64} (e : am_at t pc = (43, z, a, b, nx, ts)) (hh : h.2.2 q = some (.inl (a, n, .inr (.inl f)))) (hk : k < n) (hn : n ≤ 1000000) (kk : Ev t nx lv (.inr (.inl (f k)) :: r) h o) : Ev t pc lv (.inl (k : Int) :: .inr (.inr (some q)) :: r) h o := ev_lald k e hh (w32_n hk hn) hk kk
theorem ev_aaldN {f : Nat → Option Nat} (e : am_at t pc = (44, z, a, b, nx, ts)) (hh : h.2.2 q = some (.inl (a, n, .inr (.inr f)))) (hk : k < n) (hn : n ≤ 1000000) (kk : Ev t nx lv (.inr (.inr (f k)) :: r) h o) : Ev t pc lv (.inl (k : Int) :: .inr (.inr (some q)) :: r) h o := ev_aald k e hh (w32_n hk hn) hk kk
theorem ev_iastN {f : Nat → Int} (e : am_at t pc = (46, z, a, b, nx, ts)) (hh : h.2.2 q = some (.inl (a, n, .inl f))) (hk : k < n) (hn : n ≤ 1000000) (kk : Ev t nx lv r (ah_put h q (.inl (a, n, .inl (va_up f k x)))) o) : Ev t pc lv (.inl x :: .inl (k : Int) :: .inr (.inr (some q)) :: r) h o := ev_iast k e hh (w32_n hk hn) hk kk
theorem ev_lastN {f : Nat → BitVec 64} {x : BitVec 64} (e : am_at t pc = (47, z, a, b, nx, ts)) (hh : h.2.2 q = some (.inl (a, n, .inr (.inl f)))) (hk : k < n) (hn : n ≤ 1000000) (kk : Ev t nx lv r (ah_put h q (.inl (a, n, .inr (.inl (va_up f k x))))) o) : Ev t pc lv (.inr (.inl x) :: .inl (k : Int) :: .inr (.inr (some q)) :: r) h o := ev_last k e hh (w32_n hk hn) hk kk
theorem ev_aastNN {f : Nat → Option Nat} (e : am_at t pc = (48, z, a, b, nx, ts)) (hh : h.2.2 q = some (.inl (a, n, .inr (.inr f)))) (hk : k < n) (hn : n ≤ 1000000) (kk : Ev t nx lv r (ah_put h q (.inl (a, n, .inr (.inr (va_up f k none))))) o) : Ev t pc lv (.inr (.inr none) :: .inl (k : Int) :: .inr (.inr (some q)) :: r) h o := ev_aastN k e hh (w32_n hk hn) hk kk
theorem ev_aastS {f : Nat → Option Nat} {x : Nat} (e : am_at t pc = (48, z, a, b, nx, ts)) (hh : h.2.2 q = some (.inl (a, n, .inr (.inr f)))) (hx : h.2.2 x = some (.inr (b, fs))) (hk : k < n) (hn : n ≤ 1000000) (kk : Ev t nx lv r (ah_put h q (.inl (a, n, .inr (.inr (va_up f k (some x)))))) o) : Ev t pc lv (.inr (.inr (some x)) :: .inl (k : Int) :: .inr (.inr (some q)) :: r) h o := ev_aast k e hh hx (w32_n hk hn) hk kk
theorem ev_bastN {f : Nat → Int} (e : am_at t pc = (49, z, a, b, nx, ts)) (hh : h.2.2 q = some (.inl (a, n, .inl f))) (hk : k < n) (hn : n ≤ 1000000) (hx : x = 0 ∨ x = 1) (kk : Ev t nx lv r (ah_put h q (.inl (a, n, .inl (va_up f k x)))) o) : Ev t pc lv (.inl x :: .inl (k : Int) :: .inr (.inr (some q)) :: r) h o := ev_bast k e hh (w32_n hk hn) hk hx kk
end EV3
-- a heap with the cell that it has
theorem ah_same {h : AH} {w : Nat} {e : AE} (hw : h.2.2 w = some e) : ah_put h w e = h := by
  obtain ⟨n, k, f⟩ := h
  have : va_up f w (some e) = f := by
    funext j
    by_cases hj : j = w
    · subst hj; simp [va_up]; exact hw.symm
    · simp [va_up, hj]
  simp only [ah_put, this]
-- filling an array from below
def fill {α : Type} (i : Nat) (F g : Nat → α) : Nat → α := fun j => if j < i then F j else g j
theorem fill_0 {α : Type} (F g : Nat → α) : fill 0 F g = g := by funext j; simp [fill]
theorem fill_at {α : Type} (i : Nat) (F g : Nat → α) : fill i F g i = g i := by simp [fill]
theorem fill_up {α : Type} (i : Nat) (F g : Nat → α) : va_up (fill i F g) i (F i) = fill (i + 1) F g := by
  funext j
  by_cases hj : j = i
  · subst hj; simp [va_up, fill]
  · simp only [va_up, fill, if_neg hj]
    by_cases h : j < i
    · rw [if_pos h, if_pos (by omega)]
    · rw [if_neg h, if_neg (by omega)]
theorem nat_1 (i : Nat) : (i : Int) + 1 = ((i + 1 : Nat) : Int) := by omega
theorem nat_0 : (0 : Int) = ((0 : Nat) : Int) := rfl
