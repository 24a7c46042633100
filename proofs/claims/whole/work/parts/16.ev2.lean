-- steps whose numbers come out plain
def am_ex2 (op : Nat) (z : Int) (a b nx : Nat) (ts : List (Int × Nat)) : AS := bif Nat.ble op 12 then ax_0 op z a b nx ts else bif Nat.ble op 28 then ax_1 op z a b nx ts else bif Nat.ble op 34 then ax_2 op z a b nx ts else bif Nat.ble op 50 then ax_3 op z a b nx ts else ax_4 op z a b nx ts
-- instructions that need no question
def am_smp (op : Nat) : Bool := (Nat.ble op 10 || (Nat.ble 13 op && Nat.ble op 28)) || (Nat.beq op 51 || (Nat.ble 62 op && Nat.ble op 64))
def am_at2 (t : AT) (pc : Nat) : Bool × AI := (am_smp (am_at t pc).1, am_at t pc)
section EV2
variable {t : AT} {op pc nx a b : Nat} {z : Int} {ts : List (Int × Nat)} {lv : AL} {st : List AV} {h : AH} {o : Option AV × AH}
theorem ev_st {pc' : Nat} {lv' : AL} {st' : List AV} {h' : AH} (e : am_at2 t pc = (true, op, z, a, b, nx, ts)) (e2 : am_ex2 op z a b nx ts lv st h = some (.inl (pc', lv', st', h'))) (k : Ev t pc' lv' st' h' o) : Ev t pc lv st h o := ev_step (by rw [show am_at t pc = (op, z, a, b, nx, ts) from (Prod.mk.inj e).2]; exact e2) k
theorem ev_cl {M' pad pc' : Nat} {st' as : List AV} {h' : AH} {r : Option AV} (e : am_at t pc = (op, z, a, b, nx, ts)) (e2 : am_ex2 op z a b nx ts lv st h = some (.inr (.inl (M', as, pad, pc', st')))) (c : Em M' pad as h r h') (k : Ev t pc' lv (r.toList ++ st') h' o) : Ev t pc lv st h o := ev_call (by rw [e]; exact e2) c k
theorem ev_rt {r : Option AV} (e : am_at t pc = (op, z, a, b, nx, ts)) (e2 : am_ex2 op z a b nx ts lv st h = some (.inr (.inr r))) (he : (r, h) = o) : Ev t pc lv st h o := by
  subst he
  exact ev_ret (by rw [e]; exact e2)
theorem ev_div {x y : Int} {r : List AV} (q : Int) (e : am_at t pc = (11, z, a, b, nx, ts)) (hy : w32 y ≠ 0) (hq : Int.tdiv (w32 x) (w32 y) = q) (k : Ev t nx lv (.inl q :: r) h o) : Ev t pc lv (.inl y :: .inl x :: r) h o := by
  subst hq
  refine ev_exec e ?_ k
  show xo_11 z a b nx ts lv (.inl y :: .inl x :: r) h = some (.inl (nx, lv, .inl (Int.tdiv (w32 x) (w32 y)) :: r, h))
  simp [xo_11, hy]
theorem ev_rem {x y : Int} {r : List AV} (q : Int) (e : am_at t pc = (12, z, a, b, nx, ts)) (hy : w32 y ≠ 0) (hq : Int.tmod (w32 x) (w32 y) = q) (k : Ev t nx lv (.inl q :: r) h o) : Ev t pc lv (.inl y :: .inl x :: r) h o := by
  subst hq
  refine ev_exec e ?_ k
  show xo_12 z a b nx ts lv (.inl y :: .inl x :: r) h = some (.inl (nx, lv, .inl (Int.tmod (w32 x) (w32 y)) :: r, h))
  simp [xo_12, hy]
end EV2
