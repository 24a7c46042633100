-- cells made one after another; the constructors
def hX (h : AH) (L : List AE) (n : Nat) : AH := (h.1 + L.length, h.2.1 + n, fun a => if a < h.1 then h.2.2 a else L[a - h.1]?)
theorem hX_0 {h : AH} (hO : hOK h) : hX h [] 0 = h := by
  refine Prod.ext rfl (Prod.ext rfl ?_)
  funext a
  show (if a < h.1 then h.2.2 a else ([] : List AE)[a - h.1]?) = h.2.2 a
  by_cases ha : a < h.1
  · rw [if_pos ha]
  · rw [if_neg ha]
    cases hc : h.2.2 a with
    | none => rfl
    | some e => exact absurd (hO _ _ hc) ha
theorem hX_at {h : AH} {L : List AE} {n i : Nat} : (hX h L n).2.2 (h.1 + i) = L[i]? := by
  show (if h.1 + i < h.1 then h.2.2 (h.1 + i) else L[h.1 + i - h.1]?) = _
  rw [if_neg (by omega), Nat.add_sub_cancel_left]
theorem hX_lo {h : AH} {L : List AE} {n a : Nat} (ha : a < h.1) : (hX h L n).2.2 a = h.2.2 a := if_pos ha
theorem hX_new {h : AH} {L : List AE} {n k : Nat} {e : AE} : ah_new (hX h L n) k e = hX h (L ++ [e]) (n + k) := by
  refine Prod.ext ?_ (Prod.ext ?_ ?_)
  · show h.1 + L.length + 1 = h.1 + (L ++ [e]).length
    rw [List.length_append]; rfl
  · show h.2.1 + n + k = h.2.1 + (n + k)
    omega
  · funext a
    show va_up (hX h L n).2.2 (h.1 + L.length) (some e) a = if a < h.1 then h.2.2 a else (L ++ [e])[a - h.1]?
    simp only [va_up]
    by_cases ha : a = h.1 + L.length
    · rw [if_pos ha, if_neg (by omega), ha, Nat.add_sub_cancel_left]
      simp
    · rw [if_neg ha]
      show (if a < h.1 then h.2.2 a else L[a - h.1]?) = _
      by_cases hb : a < h.1
      · rw [if_pos hb, if_pos hb]
      · rw [if_neg hb, if_neg hb]
        by_cases hc : a - h.1 < L.length
        · rw [List.getElem?_append_left hc]
        · rw [List.getElem?_eq_none (by omega), List.getElem?_eq_none (by rw [List.length_append]; simp; omega)]
theorem hX_put {h : AH} {L : List AE} {n i : Nat} {e : AE} (hi : i < L.length) : ah_put (hX h L n) (h.1 + i) e = hX h (L.set i e) n := by
  refine Prod.ext ?_ (Prod.ext rfl ?_)
  · show h.1 + L.length = h.1 + (L.set i e).length
    rw [List.length_set]
  · funext a
    show va_up (hX h L n).2.2 (h.1 + i) (some e) a = if a < h.1 then h.2.2 a else (L.set i e)[a - h.1]?
    simp only [va_up]
    by_cases ha : a = h.1 + i
    · rw [if_pos ha, if_neg (by omega), ha, Nat.add_sub_cancel_left, List.getElem?_set_self hi]
    · rw [if_neg ha]
      show (if a < h.1 then h.2.2 a else L[a - h.1]?) = _
      by_cases hb : a < h.1
      · rw [if_pos hb, if_pos hb]
      · rw [if_neg hb, if_neg hb, List.getElem?_set_ne (by omega)]
theorem hX_hX {h : AH} {L L' : List AE} {n n' : Nat} : hX (hX h L n) L' n' = hX h (L ++ L') (n + n') := by
  refine Prod.ext ?_ (Prod.ext ?_ ?_)
  · show h.1 + L.length + L'.length = h.1 + (L ++ L').length
    rw [List.length_append]; omega
  · show h.2.1 + n + n' = h.2.1 + (n + n')
    omega
  · funext a
    show (if a < h.1 + L.length then (hX h L n).2.2 a else L'[a - (h.1 + L.length)]?) = if a < h.1 then h.2.2 a else (L ++ L')[a - h.1]?
    by_cases hb : a < h.1
    · rw [if_pos (by omega), if_pos hb]
      exact hX_lo hb
    · rw [if_neg hb]
      by_cases hc : a < h.1 + L.length
      · rw [if_pos hc, List.getElem?_append_left (by omega)]
        show (if a < h.1 then h.2.2 a else L[a - h.1]?) = _
        rw [if_neg hb]
      · rw [if_neg hc, List.getElem?_append_right (by omega)]
        congr 1
        omega
theorem hX_ok {h : AH} {L : List AE} {n : Nat} (hO : hOK h) : hOK (hX h L n) := by
  intro a e ha
  show a < h.1 + L.length
  by_cases hb : a < h.1
  · omega
  · have : (hX h L n).2.2 a = L[a - h.1]? := if_neg hb
    rw [this] at ha
    have := (List.getElem?_eq_some_iff.1 ha).1
    omega
theorem hX_1 {h : AH} {k : Nat} {e : AE} (hO : hOK h) : ah_new h k e = hX h [e] k := by
  have := hX_new (h := h) (L := []) (n := 0) (k := k) (e := e)
  rw [hX_0 hO, Nat.zero_add] at this
  exact this
theorem evX_newa {t : AT} {pc a b nx n : Nat} {z i : Int} {ts : List (Int × Nat)} {lv : AL} {r : List AV} {X : AH} {L : List AE} {o : Option AV × AH} (k : Nat) (e : am_at t pc = (52, z, a, b, nx, ts)) (hi : w32 i = k) (hk : k ≤ 1000000) (kk : Ev t nx lv (vR (X.1 + L.length) :: r) (hX X (L ++ [.inl (a, k, ac_0 b)]) (n + k)) o) : Ev t pc lv (.inl i :: r) (hX X L n) o := by
  refine ev_newa k e hi hk ?_
  rw [hX_new]
  exact kk
theorem evX_putf {t : AT} {pc a b nx n : Nat} {z : Int} {ts : List (Int × Nat)} {lv : AL} {r : List AV} {X : AH} {L : List AE} {o : Option AV × AH} {fs : List AV} {v : AV} (i : Nat) (e : am_at t pc = (41, z, a, b, nx, ts)) (hh : L[i]? = some (.inr (a, fs))) (hb : b < fs.length) (hv : av_okb z.toNat v = true) (k : Ev t nx lv r (hX X (L.set i (.inr (a, fs.set b v))) n) o) : Ev t pc lv (v :: vR (X.1 + i) :: r) (hX X L n) o := by
  refine ev_putf e (hX_at.trans hh) hb hv ?_
  rw [hX_put (List.getElem?_eq_some_iff.1 hh).1]
  exact k
theorem c_loginit {X : AH} {n : Nat} {x0 x1 : AV} : Em mLog_init 0 [vR X.1] (hX X [.inr (3, [x0, x1])] n) none (hX X [cLog (X.1 + 1) 0, cEa 400 fun _ => none] (n + 400)) := by
  show Ev tLog_init 0 [some (vR (X.1 + 0))] [] _ _
  iterate 4 (refine ev_st rfl rfl ?_)
  refine evX_newa 400 rfl (by decide) (by decide) ?_
  refine evX_putf 0 rfl rfl (Nat.le_of_ble_eq_true rfl) rfl ?_
  iterate 2 (refine ev_st rfl rfl ?_)
  refine evX_putf 0 rfl rfl (Nat.le_of_ble_eq_true rfl) rfl ?_
  exact ev_rt rfl rfl rfl
theorem c_setX {X : AH} {n : Nat} {x0 : AV} {L : List AE} : Em mEventSet_init 0 [vR (X.1 + L.length)] (hX X (L ++ [.inr (2, [x0])]) n) none (hX X (L ++ [cSet (X.1 + L.length + 1), cLng fun _ => 0]) (n + 7)) := by
  have := c_setinit (h := hX X (L ++ [.inr (2, [x0])]) n) (o := X.1 + L.length) (x := x0) (hX_at.trans (by simp)) (by show _ < X.1 + (L ++ [_]).length; rw [List.length_append]; simp)
  rw [hX_new, hX_put (by simp)] at this
  have e1 : (L ++ [(.inr (2, [x0]) : AE)] ++ [cLng fun _ => 0]).set L.length (cSet (hX X (L ++ [(.inr (2, [x0]) : AE)]) n).1) = L ++ [cSet (X.1 + L.length + 1), cLng fun _ => 0] := by
    rw [List.append_assoc, List.set_append_right _ _ (Nat.le_refl _), Nat.sub_self]
    show L ++ [cSet (X.1 + (L ++ [_]).length), _] = _
    rw [List.length_append]
    rfl
  rw [e1] at this
  exact this
theorem c_stX {X : AH} {n : Nat} {x0 : AV} {L : List AE} : Em mState_init 0 [vR (X.1 + L.length)] (hX X (L ++ [.inr (6, [x0])]) n) none (hX X (L ++ [cSt (X.1 + L.length + 1), cEa 23 fun _ => none]) (n + 23)) := by
  have := c_stinit (h := hX X (L ++ [.inr (6, [x0])]) n) (o := X.1 + L.length) (x := x0) (hX_at.trans (by simp)) (by show _ < X.1 + (L ++ [_]).length; rw [List.length_append]; simp)
  rw [hX_new, hX_put (by simp)] at this
  have e1 : (L ++ [(.inr (6, [x0]) : AE)] ++ [cEa 23 fun _ => none]).set L.length (cSt (hX X (L ++ [(.inr (6, [x0]) : AE)]) n).1) = L ++ [cSt (X.1 + L.length + 1), cEa 23 fun _ => none] := by
    rw [List.append_assoc, List.set_append_right _ _ (Nat.le_refl _), Nat.sub_self]
    show L ++ [cSt (X.1 + (L ++ [_]).length), _] = _
    rw [List.length_append]
    rfl
  rw [e1] at this
  exact this
theorem c_svinit {X : AH} {n : Nat} {x0 x1 x2 x3 : AV} : Em mServer_init 0 [vR X.1] (hX X [.inr (5, [x0, x1, x2, x3])] n) none (hX X [cSv (X.1 + 1) (X.1 + 3) (X.1 + 5) none, cSet (X.1 + 2), cLng fun _ => 0, cSet (X.1 + 4), cLng fun _ => 0, cSet (X.1 + 6), cLng fun _ => 0] (n + 24)) := by
  show Ev tServer_init 0 [some (vR (X.1 + 0))] [] _ _
  iterate 2 (refine ev_st rfl rfl ?_)
  iterate 3 (refine ev_st rfl rfl ?_)
  rw [hX_new]
  refine ev_callV rfl rfl ((hX_at (i := 1)).trans rfl) rfl c_setX ?_
  refine evX_putf 0 rfl rfl (Nat.le_of_ble_eq_true rfl) rfl ?_
  iterate 3 (refine ev_st rfl rfl ?_)
  rw [hX_new]
  refine ev_callV rfl rfl ((hX_at (i := 3)).trans rfl) rfl c_setX ?_
  refine evX_putf 0 rfl rfl (Nat.le_of_ble_eq_true rfl) rfl ?_
  iterate 3 (refine ev_st rfl rfl ?_)
  rw [hX_new]
  refine ev_callV rfl rfl ((hX_at (i := 5)).trans rfl) rfl c_setX ?_
  refine evX_putf 0 rfl rfl (Nat.le_of_ble_eq_true rfl) rfl ?_
  iterate 2 (refine ev_st rfl rfl ?_)
  refine evX_putf 0 rfl rfl (Nat.le_of_ble_eq_true rfl) rfl ?_
  exact ev_rt rfl rfl rfl
theorem c_rsinit {X : AH} {n : Nat} {x0 x1 x2 x3 x4 x5 x6 x7 x8 x9 x10 : AV} : Em mResolver_init 0 [vR X.1] (hX X [.inr (4, [x0, x1, x2, x3, x4, x5, x6, x7, x8, x9, x10])] n) none (hX X [cRes X.1, cSt (X.1 + 2), cEa 23 fun _ => none, cSt (X.1 + 4), cEa 23 fun _ => none, cSt (X.1 + 6), cEa 23 fun _ => none, cSet (X.1 + 8), cLng fun _ => 0, cSet (X.1 + 10), cLng fun _ => 0, cSet (X.1 + 12), cLng fun _ => 0, cSet (X.1 + 14), cLng fun _ => 0, cEa 400 fun _ => none, cEa 400 fun _ => none, cEa 400 fun _ => none, cIa 400 fun _ => 0] (n + 1704)) := by
  show Ev tResolver_init 0 [some (vR (X.1 + 0))] [] _ _
  iterate 2 (refine ev_st rfl rfl ?_)
  iterate 3 (refine ev_st rfl rfl ?_)
  rw [hX_new]
  refine ev_callV rfl rfl ((hX_at (i := 1)).trans rfl) rfl c_stX ?_
  refine evX_putf 0 rfl rfl (Nat.le_of_ble_eq_true rfl) rfl ?_
  simp only [List.set, List.cons_append, List.nil_append, List.length_cons, List.length_nil, Nat.reduceAdd, List.map]
  iterate 3 (refine ev_st rfl rfl ?_)
  rw [hX_new]
  refine ev_callV rfl rfl ((hX_at (i := 3)).trans rfl) rfl c_stX ?_
  refine evX_putf 0 rfl rfl (Nat.le_of_ble_eq_true rfl) rfl ?_
  simp only [List.set, List.cons_append, List.nil_append, List.length_cons, List.length_nil, Nat.reduceAdd, List.map]
  iterate 3 (refine ev_st rfl rfl ?_)
  rw [hX_new]
  refine ev_callV rfl rfl ((hX_at (i := 5)).trans rfl) rfl c_stX ?_
  refine evX_putf 0 rfl rfl (Nat.le_of_ble_eq_true rfl) rfl ?_
  simp only [List.set, List.cons_append, List.nil_append, List.length_cons, List.length_nil, Nat.reduceAdd, List.map]
  iterate 3 (refine ev_st rfl rfl ?_)
  rw [hX_new]
  refine ev_callV rfl rfl ((hX_at (i := 7)).trans rfl) rfl c_setX ?_
  refine evX_putf 0 rfl rfl (Nat.le_of_ble_eq_true rfl) rfl ?_
  simp only [List.set, List.cons_append, List.nil_append, List.length_cons, List.length_nil, Nat.reduceAdd, List.map]
  iterate 3 (refine ev_st rfl rfl ?_)
  rw [hX_new]
  refine ev_callV rfl rfl ((hX_at (i := 9)).trans rfl) rfl c_setX ?_
  refine evX_putf 0 rfl rfl (Nat.le_of_ble_eq_true rfl) rfl ?_
  simp only [List.set, List.cons_append, List.nil_append, List.length_cons, List.length_nil, Nat.reduceAdd, List.map]
  iterate 3 (refine ev_st rfl rfl ?_)
  rw [hX_new]
  refine ev_callV rfl rfl ((hX_at (i := 11)).trans rfl) rfl c_setX ?_
  refine evX_putf 0 rfl rfl (Nat.le_of_ble_eq_true rfl) rfl ?_
  simp only [List.set, List.cons_append, List.nil_append, List.length_cons, List.length_nil, Nat.reduceAdd, List.map]
  iterate 3 (refine ev_st rfl rfl ?_)
  rw [hX_new]
  refine ev_callV rfl rfl ((hX_at (i := 13)).trans rfl) rfl c_setX ?_
  refine evX_putf 0 rfl rfl (Nat.le_of_ble_eq_true rfl) rfl ?_
  simp only [List.set, List.cons_append, List.nil_append, List.length_cons, List.length_nil, Nat.reduceAdd, List.map]
  iterate 2 (refine ev_st rfl rfl ?_)
  refine evX_newa 400 rfl (by decide) (by decide) ?_
  refine evX_putf 0 rfl rfl (Nat.le_of_ble_eq_true rfl) rfl ?_
  simp only [List.set, List.cons_append, List.nil_append, List.length_cons, List.length_nil, Nat.reduceAdd, List.map]
  iterate 2 (refine ev_st rfl rfl ?_)
  refine evX_newa 400 rfl (by decide) (by decide) ?_
  refine evX_putf 0 rfl rfl (Nat.le_of_ble_eq_true rfl) rfl ?_
  simp only [List.set, List.cons_append, List.nil_append, List.length_cons, List.length_nil, Nat.reduceAdd, List.map]
  iterate 2 (refine ev_st rfl rfl ?_)
  refine evX_newa 400 rfl (by decide) (by decide) ?_
  refine evX_putf 0 rfl rfl (Nat.le_of_ble_eq_true rfl) rfl ?_
  simp only [List.set, List.cons_append, List.nil_append, List.length_cons, List.length_nil, Nat.reduceAdd, List.map]
  iterate 2 (refine ev_st rfl rfl ?_)
  refine evX_newa 400 rfl (by decide) (by decide) ?_
  refine evX_putf 0 rfl rfl (Nat.le_of_ble_eq_true rfl) rfl ?_
  simp only [List.set, List.cons_append, List.nil_append, List.length_cons, List.length_nil, Nat.reduceAdd, List.map]
  exact ev_rt rfl rfl rfl
