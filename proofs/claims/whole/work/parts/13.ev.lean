-- rows of the pure machine for what needs a fact: the heap, branches, calls
theorem xe_30 {z : Int} {a b nx : Nat} {ts : List (Int × Nat)} {lv : AL} {st : List AV} {h : AH} : am_exec (30, z, a, b, nx, ts) lv st h = xo_30 z a b nx ts lv st h := rfl
theorem xe_31 {z : Int} {a b nx : Nat} {ts : List (Int × Nat)} {lv : AL} {st : List AV} {h : AH} : am_exec (31, z, a, b, nx, ts) lv st h = xo_31 z a b nx ts lv st h := rfl
theorem xe_32 {z : Int} {a b nx : Nat} {ts : List (Int × Nat)} {lv : AL} {st : List AV} {h : AH} : am_exec (32, z, a, b, nx, ts) lv st h = xo_32 z a b nx ts lv st h := rfl
theorem xe_33 {z : Int} {a b nx : Nat} {ts : List (Int × Nat)} {lv : AL} {st : List AV} {h : AH} : am_exec (33, z, a, b, nx, ts) lv st h = xo_33 z a b nx ts lv st h := rfl
theorem xe_34 {z : Int} {a b nx : Nat} {ts : List (Int × Nat)} {lv : AL} {st : List AV} {h : AH} : am_exec (34, z, a, b, nx, ts) lv st h = xo_34 z a b nx ts lv st h := rfl
theorem xe_40 {z : Int} {a b nx : Nat} {ts : List (Int × Nat)} {lv : AL} {st : List AV} {h : AH} : am_exec (40, z, a, b, nx, ts) lv st h = xo_40 z a b nx ts lv st h := rfl
theorem xe_41 {z : Int} {a b nx : Nat} {ts : List (Int × Nat)} {lv : AL} {st : List AV} {h : AH} : am_exec (41, z, a, b, nx, ts) lv st h = xo_41 z a b nx ts lv st h := rfl
theorem xe_42 {z : Int} {a b nx : Nat} {ts : List (Int × Nat)} {lv : AL} {st : List AV} {h : AH} : am_exec (42, z, a, b, nx, ts) lv st h = xo_42 z a b nx ts lv st h := rfl
theorem xe_43 {z : Int} {a b nx : Nat} {ts : List (Int × Nat)} {lv : AL} {st : List AV} {h : AH} : am_exec (43, z, a, b, nx, ts) lv st h = xo_43 z a b nx ts lv st h := rfl
theorem xe_44 {z : Int} {a b nx : Nat} {ts : List (Int × Nat)} {lv : AL} {st : List AV} {h : AH} : am_exec (44, z, a, b, nx, ts) lv st h = xo_44 z a b nx ts lv st h := rfl
theorem xe_46 {z : Int} {a b nx : Nat} {ts : List (Int × Nat)} {lv : AL} {st : List AV} {h : AH} : am_exec (46, z, a, b, nx, ts) lv st h = xo_46 z a b nx ts lv st h := rfl
theorem xe_47 {z : Int} {a b nx : Nat} {ts : List (Int × Nat)} {lv : AL} {st : List AV} {h : AH} : am_exec (47, z, a, b, nx, ts) lv st h = xo_47 z a b nx ts lv st h := rfl
theorem xe_48 {z : Int} {a b nx : Nat} {ts : List (Int × Nat)} {lv : AL} {st : List AV} {h : AH} : am_exec (48, z, a, b, nx, ts) lv st h = xo_48 z a b nx ts lv st h := rfl
theorem xe_49 {z : Int} {a b nx : Nat} {ts : List (Int × Nat)} {lv : AL} {st : List AV} {h : AH} : am_exec (49, z, a, b, nx, ts) lv st h = xo_49 z a b nx ts lv st h := rfl
theorem xe_50 {z : Int} {a b nx : Nat} {ts : List (Int × Nat)} {lv : AL} {st : List AV} {h : AH} : am_exec (50, z, a, b, nx, ts) lv st h = xo_50 z a b nx ts lv st h := rfl
theorem xe_52 {z : Int} {a b nx : Nat} {ts : List (Int × Nat)} {lv : AL} {st : List AV} {h : AH} : am_exec (52, z, a, b, nx, ts) lv st h = xo_52 z a b nx ts lv st h := rfl
theorem xe_61 {z : Int} {a b nx : Nat} {ts : List (Int × Nat)} {lv : AL} {st : List AV} {h : AH} : am_exec (61, z, a, b, nx, ts) lv st h = xo_61 z a b nx ts lv st h := rfl
section ROWS
variable {t : AT} {pc nx a b n q c0 : Nat} {z i x y : Int} {ts : List (Int × Nat)} {lv : AL} {r st : List AV} {h : AH} {o : Option AV × AH} {fs : List AV} {v : AV}
theorem ev_exec {j : AI} {pc' : Nat} {lv' : AL} {st' : List AV} {h' : AH} (e : am_at t pc = j) (e2 : am_exec j lv st h = some (.inl (pc', lv', st', h'))) (k : Ev t pc' lv' st' h' o) : Ev t pc lv st h o := ev_step (by rw [e]; exact e2) k
theorem ev_getf (e : am_at t pc = (40, z, a, b, nx, ts)) (hh : h.2.2 q = some (.inr (a, fs))) (hv : fs[b]? = some v) (k : Ev t nx lv (v :: r) h o) : Ev t pc lv (.inr (.inr (some q)) :: r) h o := by
  refine ev_exec e ?_ k
  rw [xe_40]
  simp [xo_40, hh, hv]
theorem ev_putf (e : am_at t pc = (41, z, a, b, nx, ts)) (hh : h.2.2 q = some (.inr (a, fs))) (hb : b < fs.length) (hv : av_okb z.toNat v = true) (k : Ev t nx lv r (ah_put h q (.inr (a, fs.set b v))) o) : Ev t pc lv (v :: .inr (.inr (some q)) :: r) h o := by
  refine ev_exec e ?_ k
  rw [xe_41]
  have h2 : Nat.blt b fs.length = true := by simpa [Nat.blt_eq] using hb
  simp [xo_41, hh, hv, h2]
theorem ev_iald {f : Nat → Int} (k : Nat) (e : am_at t pc = (42, z, a, b, nx, ts)) (hh : h.2.2 q = some (.inl (a, n, .inl f))) (hi : w32 i = k) (hk : k < n) (kk : Ev t nx lv (.inl (f k) :: r) h o) : Ev t pc lv (.inl i :: .inr (.inr (some q)) :: r) h o := by
  refine ev_exec e ?_ kk
  rw [xe_42]
  have h2 : a_in i n = true := by simp [a_in, hi, hk]
  simp [xo_42, hh, h2, hi]
theorem ev_lald {f : Nat → BitVec 64} (k : Nat) (e : am_at t pc = (43, z, a, b, nx, ts)) (hh : h.2.2 q = some (.inl (a, n, .inr (.inl f)))) (hi : w32 i = k) (hk : k < n) (kk : Ev t nx lv (.inr (.inl (f k)) :: r) h o) : Ev t pc lv (.inl i :: .inr (.inr (some q)) :: r) h o := by
  refine ev_exec e ?_ kk
  rw [xe_43]
  have h2 : a_in i n = true := by simp [a_in, hi, hk]
  simp [xo_43, hh, h2, hi]
theorem ev_aald {f : Nat → Option Nat} (k : Nat) (e : am_at t pc = (44, z, a, b, nx, ts)) (hh : h.2.2 q = some (.inl (a, n, .inr (.inr f)))) (hi : w32 i = k) (hk : k < n) (kk : Ev t nx lv (.inr (.inr (f k)) :: r) h o) : Ev t pc lv (.inl i :: .inr (.inr (some q)) :: r) h o := by
  refine ev_exec e ?_ kk
  rw [xe_44]
  have h2 : a_in i n = true := by simp [a_in, hi, hk]
  simp [xo_44, hh, h2, hi]
theorem ev_iast {f : Nat → Int} (k : Nat) (e : am_at t pc = (46, z, a, b, nx, ts)) (hh : h.2.2 q = some (.inl (a, n, .inl f))) (hi : w32 i = k) (hk : k < n) (kk : Ev t nx lv r (ah_put h q (.inl (a, n, .inl (va_up f k x)))) o) : Ev t pc lv (.inl x :: .inl i :: .inr (.inr (some q)) :: r) h o := by
  refine ev_exec e ?_ kk
  rw [xe_46]
  have h2 : a_in i n = true := by simp [a_in, hi, hk]
  simp [xo_46, hh, h2, hi]
theorem ev_last {f : Nat → BitVec 64} {x : BitVec 64} (k : Nat) (e : am_at t pc = (47, z, a, b, nx, ts)) (hh : h.2.2 q = some (.inl (a, n, .inr (.inl f)))) (hi : w32 i = k) (hk : k < n) (kk : Ev t nx lv r (ah_put h q (.inl (a, n, .inr (.inl (va_up f k x))))) o) : Ev t pc lv (.inr (.inl x) :: .inl i :: .inr (.inr (some q)) :: r) h o := by
  refine ev_exec e ?_ kk
  rw [xe_47]
  have h2 : a_in i n = true := by simp [a_in, hi, hk]
  simp [xo_47, hh, h2, hi]
theorem ev_aastN {f : Nat → Option Nat} (k : Nat) (e : am_at t pc = (48, z, a, b, nx, ts)) (hh : h.2.2 q = some (.inl (a, n, .inr (.inr f)))) (hi : w32 i = k) (hk : k < n) (kk : Ev t nx lv r (ah_put h q (.inl (a, n, .inr (.inr (va_up f k none))))) o) : Ev t pc lv (.inr (.inr none) :: .inl i :: .inr (.inr (some q)) :: r) h o := by
  refine ev_exec e ?_ kk
  rw [xe_48]
  have h2 : a_in i n = true := by simp [a_in, hi, hk]
  simp [xo_48, hh, h2, hi]
theorem ev_aast {f : Nat → Option Nat} {x : Nat} (k : Nat) (e : am_at t pc = (48, z, a, b, nx, ts)) (hh : h.2.2 q = some (.inl (a, n, .inr (.inr f)))) (hx : h.2.2 x = some (.inr (b, fs))) (hi : w32 i = k) (hk : k < n) (kk : Ev t nx lv r (ah_put h q (.inl (a, n, .inr (.inr (va_up f k (some x)))))) o) : Ev t pc lv (.inr (.inr (some x)) :: .inl i :: .inr (.inr (some q)) :: r) h o := by
  refine ev_exec e ?_ kk
  rw [xe_48]
  have h2 : a_in i n = true := by simp [a_in, hi, hk]
  simp [xo_48, hh, hx, h2, hi]
theorem ev_bast {f : Nat → Int} (k : Nat) (e : am_at t pc = (49, z, a, b, nx, ts)) (hh : h.2.2 q = some (.inl (a, n, .inl f))) (hi : w32 i = k) (hk : k < n) (hx : x = 0 ∨ x = 1) (kk : Ev t nx lv r (ah_put h q (.inl (a, n, .inl (va_up f k x)))) o) : Ev t pc lv (.inl x :: .inl i :: .inr (.inr (some q)) :: r) h o := by
  refine ev_exec e ?_ kk
  rw [xe_49]
  have h2 : a_in i n = true := by simp [a_in, hi, hk]
  have h3 : av_okb 3 (.inl x) = true := by rcases hx with rfl | rfl <;> rfl
  simp [xo_49, hh, h2, h3, hi]
theorem ev_alen {f : AC} (e : am_at t pc = (50, z, a, b, nx, ts)) (hh : h.2.2 q = some (.inl (c0, n, f))) (kk : Ev t nx lv (.inl (n : Int) :: r) h o) : Ev t pc lv (.inr (.inr (some q)) :: r) h o := by
  refine ev_exec e ?_ kk
  rw [xe_50]
  simp [xo_50, hh]
theorem ev_newa (k : Nat) (e : am_at t pc = (52, z, a, b, nx, ts)) (hi : w32 i = k) (hk : k ≤ 1000000) (kk : Ev t nx lv (.inr (.inr (some h.1)) :: r) (ah_new h k (.inl (a, k, ac_0 b))) o) : Ev t pc lv (.inl i :: r) h o := by
  refine ev_exec e ?_ kk
  rw [xe_52]
  have h1 : (k : Int) ≤ 1000000 := by omega
  simp [xo_52, hi, h1]
-- branches
theorem ev_if (e : am_at t pc = (30, z, a, b, nx, ts)) (kT : ick b (w32 x) 0 → Ev t a lv r h o) (kF : ¬ ick b (w32 x) 0 → Ev t nx lv r h o) : Ev t pc lv (.inl x :: r) h o := by
  by_cases hc : ick b (w32 x) 0
  · refine ev_exec e ?_ (kT hc)
    rw [xe_30]
    simp [xo_30, ickb_T hc]
  · refine ev_exec e ?_ (kF hc)
    rw [xe_30]
    simp [xo_30, ickb_F hc]
theorem ev_ifT (e : am_at t pc = (30, z, a, b, nx, ts)) (hc : ick b (w32 x) 0) (k : Ev t a lv r h o) : Ev t pc lv (.inl x :: r) h o := ev_if e (fun _ => k) (fun q => absurd hc q)
theorem ev_ifF (e : am_at t pc = (30, z, a, b, nx, ts)) (hc : ¬ ick b (w32 x) 0) (k : Ev t nx lv r h o) : Ev t pc lv (.inl x :: r) h o := ev_if e (fun q => absurd q hc) (fun _ => k)
theorem ev_ic (e : am_at t pc = (31, z, a, b, nx, ts)) (kT : ick b (w32 x) (w32 y) → Ev t a lv r h o) (kF : ¬ ick b (w32 x) (w32 y) → Ev t nx lv r h o) : Ev t pc lv (.inl y :: .inl x :: r) h o := by
  by_cases hc : ick b (w32 x) (w32 y)
  · refine ev_exec e ?_ (kT hc)
    rw [xe_31]
    simp [xo_31, ickb_T hc]
  · refine ev_exec e ?_ (kF hc)
    rw [xe_31]
    simp [xo_31, ickb_F hc]
theorem ev_icT (e : am_at t pc = (31, z, a, b, nx, ts)) (hc : ick b (w32 x) (w32 y)) (k : Ev t a lv r h o) : Ev t pc lv (.inl y :: .inl x :: r) h o := ev_ic e (fun _ => k) (fun q => absurd hc q)
theorem ev_icF (e : am_at t pc = (31, z, a, b, nx, ts)) (hc : ¬ ick b (w32 x) (w32 y)) (k : Ev t nx lv r h o) : Ev t pc lv (.inl y :: .inl x :: r) h o := ev_ic e (fun q => absurd q hc) (fun _ => k)
theorem ev_aeT {u w : Option Nat} (e : am_at t pc = (32, z, a, b, nx, ts)) (hc : u = w) (k : Ev t a lv r h o) : Ev t pc lv (.inr (.inr w) :: .inr (.inr u) :: r) h o := by
  refine ev_exec e ?_ k
  rw [xe_32]
  simp [xo_32, hc]
theorem ev_aeF {u w : Option Nat} (e : am_at t pc = (32, z, a, b, nx, ts)) (hc : u ≠ w) (k : Ev t nx lv r h o) : Ev t pc lv (.inr (.inr w) :: .inr (.inr u) :: r) h o := by
  refine ev_exec e ?_ k
  rw [xe_32]
  simp [xo_32, hc]
theorem ev_anT {u w : Option Nat} (e : am_at t pc = (33, z, a, b, nx, ts)) (hc : u ≠ w) (k : Ev t a lv r h o) : Ev t pc lv (.inr (.inr w) :: .inr (.inr u) :: r) h o := by
  refine ev_exec e ?_ k
  rw [xe_33]
  simp [xo_33, hc]
theorem ev_anF {u w : Option Nat} (e : am_at t pc = (33, z, a, b, nx, ts)) (hc : u = w) (k : Ev t nx lv r h o) : Ev t pc lv (.inr (.inr w) :: .inr (.inr u) :: r) h o := by
  refine ev_exec e ?_ k
  rw [xe_33]
  simp [xo_33, hc]
theorem ev_sw {pc' : Nat} (e : am_at t pc = (34, z, a, b, nx, ts)) (ht : ai_sw ts (w32 x) a = pc') (h0 : Nat.beq pc' 0 = false) (k : Ev t pc' lv r h o) : Ev t pc lv (.inl x :: r) h o := by
  refine ev_exec e ?_ k
  rw [xe_34]
  simp only [xo_34, ht, h0]
  rfl
-- null
theorem ev_nT {u : Option Nat} (e : am_at t pc = (27, z, a, b, nx, ts)) (hc : u = none) (k : Ev t a lv r h o) : Ev t pc lv (.inr (.inr u) :: r) h o := by
  subst hc
  exact ev_exec e rfl k
theorem ev_nF {u : Option Nat} (e : am_at t pc = (27, z, a, b, nx, ts)) (hc : u ≠ none) (k : Ev t nx lv r h o) : Ev t pc lv (.inr (.inr u) :: r) h o := by
  cases u with
  | none => exact absurd rfl hc
  | some u => exact ev_exec e rfl k
theorem ev_nnT {u : Option Nat} (e : am_at t pc = (28, z, a, b, nx, ts)) (hc : u ≠ none) (k : Ev t a lv r h o) : Ev t pc lv (.inr (.inr u) :: r) h o := by
  cases u with
  | none => exact absurd rfl hc
  | some u => exact ev_exec e rfl k
theorem ev_nnF {u : Option Nat} (e : am_at t pc = (28, z, a, b, nx, ts)) (hc : u = none) (k : Ev t nx lv r h o) : Ev t pc lv (.inr (.inr u) :: r) h o := by
  subst hc
  exact ev_exec e rfl k
-- calls of objects
theorem ev_callV {tl : List AV} {r0 : Option AV} {h' : AH} (e : am_at t pc = (61, z, a, b, nx, ts)) (hr : (st.take b).reverse = .inr (.inr (some q)) :: tl) (hh : h.2.2 q = some (.inr (c0, fs))) (hc : (Nat.beq c0 ((ts.map fun x => x.2).headD 0) && (Nat.ble b st.length && (Nat.ble (av_sum (st.drop b)) 8 && (st.take b).all (fun v => !av_two v)))) = true) (c : Em a z.toNat (.inr (.inr (some q)) :: tl) h r0 h') (k : Ev t nx lv (r0.toList ++ st.drop b) h' o) : Ev t pc lv st h o := by
  refine ev_call (M' := a) (pad := z.toNat) (as := .inr (.inr (some q)) :: tl) (pc' := nx) (st' := st.drop b) ?_ c k
  rw [e]
  rw [xe_61]
  unfold xo_61
  rw [hr]
  simp only [hh]
  rw [hc]
  rfl
theorem ev_retT {r0 : Option AV} (e : am_exec (am_at t pc) lv st h = some (.inr (.inr r0))) (he : (r0, h) = o) : Ev t pc lv st h o := by
  subst he
  exact ev_ret e
theorem ev_zret (e : am_at t pc = (72, z, a, b, nx, ts)) (hx : x = 0 ∨ x = 1) (he : (some (.inl x), h) = o) : Ev t pc lv [.inl x] h o := by
  subst he
  refine ev_ret ?_
  rw [e]
  rcases hx with rfl | rfl <;> rfl
end ROWS
theorem ah_eq {h : AH} {a : Nat} {e : AE} : (ah_put h a e).2.2 a = some e := by simp [ah_put, va_up]
theorem ah_ne {h : AH} {a b : Nat} {e : AE} {x : Option AE} (hn : b ≠ a) (hx : h.2.2 b = x) : (ah_put h a e).2.2 b = x := by simp [ah_put, va_up, hn, hx]
theorem ah_neq {h : AH} {k : Nat} {e : AE} : (ah_new h k e).2.2 h.1 = some e := by simp [ah_new, va_up]
theorem ah_nne {h : AH} {k b : Nat} {e : AE} {x : Option AE} (hn : b ≠ h.1) (hx : h.2.2 b = x) : (ah_new h k e).2.2 b = x := by simp [ah_new, va_up, hn, hx]
theorem ah_putput {h : AH} {a : Nat} {e e' : AE} : ah_put (ah_put h a e) a e' = ah_put h a e' := by
  simp only [ah_put, bx_uu]
