-- what one instruction does
abbrev AS : Type := AL → List AV → AH → Option AO
def ick : Nat → Int → Int → Prop
  | 0, x, y => x = y
  | 1, x, y => ¬ x = y
  | 2, x, y => x < y
  | 3, x, y => y ≤ x
  | 4, x, y => y < x
  | 5, x, y => x ≤ y
  | _, _, _ => False
def ickb : Nat → Int → Int → Bool
  | 0, x, y => decide (x = y)
  | 1, x, y => !decide (x = y)
  | 2, x, y => decide (x < y)
  | 3, x, y => decide (y ≤ x)
  | 4, x, y => decide (y < x)
  | 5, x, y => decide (x ≤ y)
  | _, _, _ => false
theorem ickb_T {k : Nat} {x y : Int} (h : ick k x y) : ickb k x y = true := by
  unfold ick at h
  split at h <;> simp_all [ickb]
theorem ickb_F {k : Nat} {x y : Int} (h : ¬ ick k x y) : ickb k x y = false := by
  unfold ickb
  split <;> simp_all [ick]
def ai_sw : List (Int × Nat) → Int → Nat → Nat
  | [], _, d => d
  | q :: r, x, d => if x = q.1 then q.2 else ai_sw r x d
-- 0 push an int, 1 iload, 2 aload, 3 istore, 4 astore, 5 iinc, 6 add, 7 sub, 8 mul, 9 neg, 10 and, 11 div, 12 rem
def xo_0 (z : Int) (_a _b nx : Nat) (_ts : List (Int × Nat)) : AS := fun lv st h => some (.inl (nx, lv, .inl z :: st, h))
def xo_1 (_z : Int) (a _b nx : Nat) (_ts : List (Int × Nat)) : AS := fun lv st h => match lv[a]? with
  | some (some (.inl x)) => some (.inl (nx, lv, .inl x :: st, h))
  | _ => none
def xo_2 (_z : Int) (a _b nx : Nat) (_ts : List (Int × Nat)) : AS := fun lv st h => match lv[a]? with
  | some (some (.inr (.inr x))) => some (.inl (nx, lv, .inr (.inr x) :: st, h))
  | _ => none
def xo_3 (_z : Int) (a _b nx : Nat) (_ts : List (Int × Nat)) : AS := fun lv st h => match st with
  | .inl x :: r => bif Nat.blt a lv.length then some (.inl (nx, lv.set a (some (.inl x)), r, h)) else none
  | _ => none
def xo_4 (_z : Int) (a _b nx : Nat) (_ts : List (Int × Nat)) : AS := fun lv st h => match st with
  | .inr (.inr x) :: r => bif Nat.blt a lv.length then some (.inl (nx, lv.set a (some (.inr (.inr x))), r, h)) else none
  | _ => none
def xo_5 (z : Int) (a _b nx : Nat) (_ts : List (Int × Nat)) : AS := fun lv st h => match lv[a]? with
  | some (some (.inl x)) => some (.inl (nx, lv.set a (some (.inl (x + z))), st, h))
  | _ => none
def xo_6 (_z : Int) (_a _b nx : Nat) (_ts : List (Int × Nat)) : AS := fun lv st h => match st with
  | .inl y :: .inl x :: r => some (.inl (nx, lv, .inl (x + y) :: r, h))
  | _ => none
def xo_7 (_z : Int) (_a _b nx : Nat) (_ts : List (Int × Nat)) : AS := fun lv st h => match st with
  | .inl y :: .inl x :: r => some (.inl (nx, lv, .inl (x - y) :: r, h))
  | _ => none
def xo_8 (_z : Int) (_a _b nx : Nat) (_ts : List (Int × Nat)) : AS := fun lv st h => match st with
  | .inl y :: .inl x :: r => some (.inl (nx, lv, .inl (x * y) :: r, h))
  | _ => none
def xo_9 (_z : Int) (_a _b nx : Nat) (_ts : List (Int × Nat)) : AS := fun lv st h => match st with
  | .inl x :: r => some (.inl (nx, lv, .inl (-x) :: r, h))
  | _ => none
def xo_10 (_z : Int) (_a _b nx : Nat) (_ts : List (Int × Nat)) : AS := fun lv st h => match st with
  | .inl y :: .inl x :: r => some (.inl (nx, lv, .inl (a_and x y) :: r, h))
  | _ => none
def xo_11 (_z : Int) (_a _b nx : Nat) (_ts : List (Int × Nat)) : AS := fun lv st h => match st with
  | .inl y :: .inl x :: r => bif decide (w32 y = 0) then none else some (.inl (nx, lv, .inl (Int.tdiv (w32 x) (w32 y)) :: r, h))
  | _ => none
def xo_12 (_z : Int) (_a _b nx : Nat) (_ts : List (Int × Nat)) : AS := fun lv st h => match st with
  | .inl y :: .inl x :: r => bif decide (w32 y = 0) then none else some (.inl (nx, lv, .inl (Int.tmod (w32 x) (w32 y)) :: r, h))
  | _ => none
def ax_0 (op : Nat) (z : Int) (a b nx : Nat) (ts : List (Int × Nat)) : AS := match op with
  | 0 => xo_0 z a b nx ts
  | 1 => xo_1 z a b nx ts
  | 2 => xo_2 z a b nx ts
  | 3 => xo_3 z a b nx ts
  | 4 => xo_4 z a b nx ts
  | 5 => xo_5 z a b nx ts
  | 6 => xo_6 z a b nx ts
  | 7 => xo_7 z a b nx ts
  | 8 => xo_8 z a b nx ts
  | 9 => xo_9 z a b nx ts
  | 10 => xo_10 z a b nx ts
  | 11 => xo_11 z a b nx ts
  | 12 => xo_12 z a b nx ts
  | _ => fun _ _ _ => none
-- 13 dup, 14 dup_x1, 15 dup2, 16 pop, 17 dup_x2, 18 null, 19 push a long, 20 land, 21 lor, 22 lxor, 23 lshl, 24 lushr, 25 lcmp, 26 goto, 27 ifnull, 28 ifnonnull
def xo_13 (_z : Int) (_a _b nx : Nat) (_ts : List (Int × Nat)) : AS := fun lv st h => match st with
  | v :: r => bif av_two v then none else some (.inl (nx, lv, v :: v :: r, h))
  | _ => none
def xo_14 (_z : Int) (_a _b nx : Nat) (_ts : List (Int × Nat)) : AS := fun lv st h => match st with
  | v :: w :: r => bif av_two v || av_two w then none else some (.inl (nx, lv, v :: w :: v :: r, h))
  | _ => none
def xo_15 (_z : Int) (_a _b nx : Nat) (_ts : List (Int × Nat)) : AS := fun lv st h => match st with
  | v :: w :: r => bif av_two v || av_two w then none else some (.inl (nx, lv, v :: w :: v :: w :: r, h))
  | _ => none
def xo_16 (_z : Int) (_a _b nx : Nat) (_ts : List (Int × Nat)) : AS := fun lv st h => match st with
  | v :: r => bif av_two v then none else some (.inl (nx, lv, r, h))
  | _ => none
def xo_17 (_z : Int) (_a _b nx : Nat) (_ts : List (Int × Nat)) : AS := fun lv st h => match st with
  | v :: w :: x :: r => bif av_two v || (av_two w || av_two x) then none else some (.inl (nx, lv, v :: w :: x :: v :: r, h))
  | _ => none
def xo_18 (_z : Int) (_a _b nx : Nat) (_ts : List (Int × Nat)) : AS := fun lv st h => some (.inl (nx, lv, .inr (.inr none) :: st, h))
def xo_19 (z : Int) (_a _b nx : Nat) (_ts : List (Int × Nat)) : AS := fun lv st h => some (.inl (nx, lv, .inr (.inl (BitVec.ofInt 64 z)) :: st, h))
def xo_20 (_z : Int) (_a _b nx : Nat) (_ts : List (Int × Nat)) : AS := fun lv st h => match st with
  | .inr (.inl y) :: .inr (.inl x) :: r => some (.inl (nx, lv, .inr (.inl (x &&& y)) :: r, h))
  | _ => none
def xo_21 (_z : Int) (_a _b nx : Nat) (_ts : List (Int × Nat)) : AS := fun lv st h => match st with
  | .inr (.inl y) :: .inr (.inl x) :: r => some (.inl (nx, lv, .inr (.inl (x ||| y)) :: r, h))
  | _ => none
def xo_22 (_z : Int) (_a _b nx : Nat) (_ts : List (Int × Nat)) : AS := fun lv st h => match st with
  | .inr (.inl y) :: .inr (.inl x) :: r => some (.inl (nx, lv, .inr (.inl (x ^^^ y)) :: r, h))
  | _ => none
def xo_23 (_z : Int) (_a _b nx : Nat) (_ts : List (Int × Nat)) : AS := fun lv st h => match st with
  | .inl y :: .inr (.inl x) :: r => some (.inl (nx, lv, .inr (.inl (a_shl x y)) :: r, h))
  | _ => none
def xo_24 (_z : Int) (_a _b nx : Nat) (_ts : List (Int × Nat)) : AS := fun lv st h => match st with
  | .inl y :: .inr (.inl x) :: r => some (.inl (nx, lv, .inr (.inl (a_ushr x y)) :: r, h))
  | _ => none
def xo_25 (_z : Int) (_a _b nx : Nat) (_ts : List (Int × Nat)) : AS := fun lv st h => match st with
  | .inr (.inl y) :: .inr (.inl x) :: r => some (.inl (nx, lv, .inl (a_lcmp x y) :: r, h))
  | _ => none
def xo_26 (_z : Int) (a _b _nx : Nat) (_ts : List (Int × Nat)) : AS := fun lv st h => some (.inl (a, lv, st, h))
def xo_27 (_z : Int) (a _b nx : Nat) (_ts : List (Int × Nat)) : AS := fun lv st h => match st with
  | .inr (.inr none) :: r => some (.inl (a, lv, r, h))
  | .inr (.inr (some _)) :: r => some (.inl (nx, lv, r, h))
  | _ => none
def xo_28 (_z : Int) (a _b nx : Nat) (_ts : List (Int × Nat)) : AS := fun lv st h => match st with
  | .inr (.inr none) :: r => some (.inl (nx, lv, r, h))
  | .inr (.inr (some _)) :: r => some (.inl (a, lv, r, h))
  | _ => none
def ax_1 (op : Nat) (z : Int) (a b nx : Nat) (ts : List (Int × Nat)) : AS := match op with
  | 13 => xo_13 z a b nx ts
  | 14 => xo_14 z a b nx ts
  | 15 => xo_15 z a b nx ts
  | 16 => xo_16 z a b nx ts
  | 17 => xo_17 z a b nx ts
  | 18 => xo_18 z a b nx ts
  | 19 => xo_19 z a b nx ts
  | 20 => xo_20 z a b nx ts
  | 21 => xo_21 z a b nx ts
  | 22 => xo_22 z a b nx ts
  | 23 => xo_23 z a b nx ts
  | 24 => xo_24 z a b nx ts
  | 25 => xo_25 z a b nx ts
  | 26 => xo_26 z a b nx ts
  | 27 => xo_27 z a b nx ts
  | 28 => xo_28 z a b nx ts
  | _ => fun _ _ _ => none
-- 30 an int against 0, 31 two ints, 32 two references alike, 33 unlike, 34 a switch (a: where else)
def xo_30 (_z : Int) (a b nx : Nat) (_ts : List (Int × Nat)) : AS := fun lv st h => match st with
  | .inl x :: r => bif ickb b (w32 x) 0 then some (.inl (a, lv, r, h)) else some (.inl (nx, lv, r, h))
  | _ => none
def xo_31 (_z : Int) (a b nx : Nat) (_ts : List (Int × Nat)) : AS := fun lv st h => match st with
  | .inl y :: .inl x :: r => bif ickb b (w32 x) (w32 y) then some (.inl (a, lv, r, h)) else some (.inl (nx, lv, r, h))
  | _ => none
def xo_32 (_z : Int) (a _b nx : Nat) (_ts : List (Int × Nat)) : AS := fun lv st h => match st with
  | .inr (.inr y) :: .inr (.inr x) :: r => bif decide (x = y) then some (.inl (a, lv, r, h)) else some (.inl (nx, lv, r, h))
  | _ => none
def xo_33 (_z : Int) (a _b nx : Nat) (_ts : List (Int × Nat)) : AS := fun lv st h => match st with
  | .inr (.inr y) :: .inr (.inr x) :: r => bif decide (x = y) then some (.inl (nx, lv, r, h)) else some (.inl (a, lv, r, h))
  | _ => none
def xo_34 (_z : Int) (a _b _nx : Nat) (ts : List (Int × Nat)) : AS := fun lv st h => match st with
  | .inl x :: r => bif Nat.beq (ai_sw ts (w32 x) a) 0 then none else some (.inl (ai_sw ts (w32 x) a, lv, r, h))
  | _ => none
def ax_2 (op : Nat) (z : Int) (a b nx : Nat) (ts : List (Int × Nat)) : AS := match op with
  | 30 => xo_30 z a b nx ts
  | 31 => xo_31 z a b nx ts
  | 32 => xo_32 z a b nx ts
  | 33 => xo_33 z a b nx ts
  | 34 => xo_34 z a b nx ts
  | _ => fun _ _ _ => none
def a_in (i : Int) (n : Nat) : Bool := decide (0 ≤ w32 i) && decide (w32 i < n)
def av_okb (ty : Nat) (v : AV) : Bool := match ty, v with
  | 0, .inl _ => true
  | 1, .inr (.inl _) => true
  | 2, .inr (.inr _) => true
  | 3, .inl x => decide (x = 0) || decide (x = 1)
  | _, _ => false
-- 40 getfield (a: class, b: field), 41 putfield (z: kind of the type), 42 iaload, baload (a: type), 43 laload, 44 aaload, 46 iastore, 47 lastore, 48 aastore (b: class), 49 bastore, 50 arraylength
def xo_40 (_z : Int) (a b nx : Nat) (_ts : List (Int × Nat)) : AS := fun lv st h => match st with
  | .inr (.inr (some q)) :: r => match h.2.2 q with
    | some (.inr (c, fs)) => bif Nat.beq c a then (match fs[b]? with
      | some v => some (.inl (nx, lv, v :: r, h))
      | none => none) else none
    | _ => none
  | _ => none
def xo_41 (z : Int) (a b nx : Nat) (_ts : List (Int × Nat)) : AS := fun lv st h => match st with
  | v :: .inr (.inr (some q)) :: r => match h.2.2 q with
    | some (.inr (c, fs)) => bif Nat.beq c a && (Nat.blt b fs.length && av_okb z.toNat v) then some (.inl (nx, lv, r, ah_put h q (.inr (a, fs.set b v)))) else none
    | _ => none
  | _ => none
def xo_42 (_z : Int) (a _b nx : Nat) (_ts : List (Int × Nat)) : AS := fun lv st h => match st with
  | .inl i :: .inr (.inr (some q)) :: r => match h.2.2 q with
    | some (.inl (t, n, .inl f)) => bif Nat.beq t a && a_in i n then some (.inl (nx, lv, .inl (f (w32 i).toNat) :: r, h)) else none
    | _ => none
  | _ => none
def xo_43 (_z : Int) (a _b nx : Nat) (_ts : List (Int × Nat)) : AS := fun lv st h => match st with
  | .inl i :: .inr (.inr (some q)) :: r => match h.2.2 q with
    | some (.inl (t, n, .inr (.inl f))) => bif Nat.beq t a && a_in i n then some (.inl (nx, lv, .inr (.inl (f (w32 i).toNat)) :: r, h)) else none
    | _ => none
  | _ => none
def xo_44 (_z : Int) (a _b nx : Nat) (_ts : List (Int × Nat)) : AS := fun lv st h => match st with
  | .inl i :: .inr (.inr (some q)) :: r => match h.2.2 q with
    | some (.inl (t, n, .inr (.inr f))) => bif Nat.beq t a && a_in i n then some (.inl (nx, lv, .inr (.inr (f (w32 i).toNat)) :: r, h)) else none
    | _ => none
  | _ => none
def xo_46 (_z : Int) (a _b nx : Nat) (_ts : List (Int × Nat)) : AS := fun lv st h => match st with
  | .inl x :: .inl i :: .inr (.inr (some q)) :: r => match h.2.2 q with
    | some (.inl (t, n, .inl f)) => bif Nat.beq t a && a_in i n then some (.inl (nx, lv, r, ah_put h q (.inl (a, n, .inl (va_up f (w32 i).toNat x))))) else none
    | _ => none
  | _ => none
def xo_47 (_z : Int) (a _b nx : Nat) (_ts : List (Int × Nat)) : AS := fun lv st h => match st with
  | .inr (.inl x) :: .inl i :: .inr (.inr (some q)) :: r => match h.2.2 q with
    | some (.inl (t, n, .inr (.inl f))) => bif Nat.beq t a && a_in i n then some (.inl (nx, lv, r, ah_put h q (.inl (a, n, .inr (.inl (va_up f (w32 i).toNat x)))))) else none
    | _ => none
  | _ => none
def xo_48 (_z : Int) (a b nx : Nat) (_ts : List (Int × Nat)) : AS := fun lv st h => match st with
  | .inr (.inr none) :: .inl i :: .inr (.inr (some q)) :: r => match h.2.2 q with
    | some (.inl (t, n, .inr (.inr f))) => bif Nat.beq t a && a_in i n then some (.inl (nx, lv, r, ah_put h q (.inl (a, n, .inr (.inr (va_up f (w32 i).toNat none)))))) else none
    | _ => none
  | .inr (.inr (some x)) :: .inl i :: .inr (.inr (some q)) :: r => match h.2.2 q, h.2.2 x with
    | some (.inl (t, n, .inr (.inr f))), some (.inr (c, _)) => bif Nat.beq t a && (Nat.beq c b && a_in i n) then some (.inl (nx, lv, r, ah_put h q (.inl (a, n, .inr (.inr (va_up f (w32 i).toNat (some x))))))) else none
    | _, _ => none
  | _ => none
def xo_49 (_z : Int) (a _b nx : Nat) (_ts : List (Int × Nat)) : AS := fun lv st h => match st with
  | .inl x :: .inl i :: .inr (.inr (some q)) :: r => match h.2.2 q with
    | some (.inl (t, n, .inl f)) => bif Nat.beq t a && (a_in i n && av_okb 3 (.inl x)) then some (.inl (nx, lv, r, ah_put h q (.inl (a, n, .inl (va_up f (w32 i).toNat x))))) else none
    | _ => none
  | _ => none
def xo_50 (_z : Int) (_a _b nx : Nat) (_ts : List (Int × Nat)) : AS := fun lv st h => match st with
  | .inr (.inr (some q)) :: r => match h.2.2 q with
    | some (.inl (_, n, _)) => some (.inl (nx, lv, .inl n :: r, h))
    | _ => none
  | _ => none
def ax_3 (op : Nat) (z : Int) (a b nx : Nat) (ts : List (Int × Nat)) : AS := match op with
  | 40 => xo_40 z a b nx ts
  | 41 => xo_41 z a b nx ts
  | 42 => xo_42 z a b nx ts
  | 43 => xo_43 z a b nx ts
  | 44 => xo_44 z a b nx ts
  | 46 => xo_46 z a b nx ts
  | 47 => xo_47 z a b nx ts
  | 48 => xo_48 z a b nx ts
  | 49 => xo_49 z a b nx ts
  | 50 => xo_50 z a b nx ts
  | _ => fun _ _ _ => none
def av_0 : Nat → AV
  | 0 => .inl 0
  | 1 => .inr (.inl 0)
  | 2 => .inr (.inr none)
  | _ => .inl 0
def ac_0 : Nat → AC
  | 0 => .inl (fun _ => 0)
  | 1 => .inr (.inl (fun _ => 0))
  | _ => .inr (.inr (fun _ => none))
-- 51 new (a: class, its fields' kinds in the table), 52 newarray, anewarray (a: type, b: kind), 60 a call (a: method, b: how many arguments), 61 of an object of class z, 62 Object's constructor, 63 bitCount, 64 min
-- 70 return, 71 ireturn, 72 ireturn of a boolean, 73 areturn
def xo_51 (_z : Int) (a _b nx : Nat) (ts : List (Int × Nat)) : AS := fun lv st h => some (.inl (nx, lv, .inr (.inr (some h.1)) :: st, ah_new h ts.length (.inr (a, ts.map fun q => av_0 q.2))))
def xo_52 (_z : Int) (a b nx : Nat) (_ts : List (Int × Nat)) : AS := fun lv st h => match st with
  | .inl n :: r => bif decide (0 ≤ w32 n) && decide (w32 n ≤ 1000000) then some (.inl (nx, lv, .inr (.inr (some h.1)) :: r, ah_new h (w32 n).toNat (.inl (a, (w32 n).toNat, ac_0 b)))) else none
  | _ => none
def xo_60 (z : Int) (a b nx : Nat) (_ts : List (Int × Nat)) : AS := fun _lv st _h => bif Nat.ble b st.length && (Nat.ble (av_sum (st.drop b)) 8 && (st.take b).all (fun v => !av_two v)) then some (.inr (.inl (a, (st.take b).reverse, z.toNat, nx, st.drop b))) else none
def xo_61 (z : Int) (a b nx : Nat) (ts : List (Int × Nat)) : AS := fun _lv st h => match (st.take b).reverse with
  | .inr (.inr (some q)) :: _ => match h.2.2 q with
    | some (.inr (c, _)) => bif Nat.beq c ((ts.map fun x => x.2).headD 0) && (Nat.ble b st.length && (Nat.ble (av_sum (st.drop b)) 8 && (st.take b).all (fun v => !av_two v))) then some (.inr (.inl (a, (st.take b).reverse, z.toNat, nx, st.drop b))) else none
    | _ => none
  | _ => none
def xo_62 (_z : Int) (_a _b nx : Nat) (_ts : List (Int × Nat)) : AS := fun lv st h => match st with
  | .inr (.inr (some _)) :: r => bif Nat.ble (av_sum r) 8 then some (.inl (nx, lv, r, h)) else none
  | _ => none
def xo_63 (_z : Int) (_a _b nx : Nat) (_ts : List (Int × Nat)) : AS := fun lv st h => match st with
  | .inr (.inl x) :: r => bif Nat.ble (av_sum r) 8 then some (.inl (nx, lv, .inl (a_pop x) :: r, h)) else none
  | _ => none
def xo_64 (_z : Int) (_a _b nx : Nat) (_ts : List (Int × Nat)) : AS := fun lv st h => match st with
  | .inl y :: .inl x :: r => bif Nat.ble (av_sum r) 8 then some (.inl (nx, lv, .inl (if w32 y < w32 x then y else x) :: r, h)) else none
  | _ => none
def xo_70 (_z : Int) (_a _b _nx : Nat) (_ts : List (Int × Nat)) : AS := fun _lv st _h => match st with
  | [] => some (.inr (.inr none))
  | _ => none
def xo_71 (_z : Int) (_a _b _nx : Nat) (_ts : List (Int × Nat)) : AS := fun _lv st _h => match st with
  | [.inl x] => some (.inr (.inr (some (.inl x))))
  | _ => none
def xo_72 (_z : Int) (_a _b _nx : Nat) (_ts : List (Int × Nat)) : AS := fun _lv st _h => match st with
  | [.inl x] => bif av_okb 3 (.inl x) then some (.inr (.inr (some (.inl x)))) else none
  | _ => none
def xo_73 (_z : Int) (_a _b _nx : Nat) (_ts : List (Int × Nat)) : AS := fun _lv st _h => match st with
  | [.inr (.inr x)] => some (.inr (.inr (some (.inr (.inr x)))))
  | _ => none
def ax_4 (op : Nat) (z : Int) (a b nx : Nat) (ts : List (Int × Nat)) : AS := match op with
  | 51 => xo_51 z a b nx ts
  | 52 => xo_52 z a b nx ts
  | 60 => xo_60 z a b nx ts
  | 61 => xo_61 z a b nx ts
  | 62 => xo_62 z a b nx ts
  | 63 => xo_63 z a b nx ts
  | 64 => xo_64 z a b nx ts
  | 70 => xo_70 z a b nx ts
  | 71 => xo_71 z a b nx ts
  | 72 => xo_72 z a b nx ts
  | 73 => xo_73 z a b nx ts
  | _ => fun _ _ _ => none
def am_exec (i : AI) : AS := bif Nat.ble i.1 12 then ax_0 i.1 i.2.1 i.2.2.1 i.2.2.2.1 i.2.2.2.2.1 i.2.2.2.2.2 else bif Nat.ble i.1 28 then ax_1 i.1 i.2.1 i.2.2.1 i.2.2.2.1 i.2.2.2.2.1 i.2.2.2.2.2 else bif Nat.ble i.1 34 then ax_2 i.1 i.2.1 i.2.2.1 i.2.2.2.1 i.2.2.2.2.1 i.2.2.2.2.2 else bif Nat.ble i.1 50 then ax_3 i.1 i.2.1 i.2.2.1 i.2.2.2.1 i.2.2.2.2.1 i.2.2.2.2.2 else ax_4 i.1 i.2.1 i.2.2.1 i.2.2.2.1 i.2.2.2.2.1 i.2.2.2.2.2
def am_at : AT → Nat → AI
  | [], _ => (99, 0, 0, 0, 0, [])
  | q :: r, pc => bif Nat.beq q.1 pc then q.2 else am_at r pc
def al_in (as : List AV) (pad : Nat) : AL := as.map some ++ List.replicate pad none
-- runs; pT gives each method's instructions
def am_run : Nat → AT → Nat → AL → List AV → AH → Option (Option AV × AH)
  | 0, _, _, _, _, _ => none
  | n + 1, t, pc, lv, st, h => match am_exec (am_at t pc) lv st h with
    | none => none
    | some (.inl (pc', lv', st', h')) => am_run n t pc' lv' st' h'
    | some (.inr (.inl (M', as, pad, pc', st'))) => (match am_run n (pT M') 0 (al_in as pad) [] h with
      | none => none
      | some (r, h') => am_run n t pc' lv (r.toList ++ st') h')
    | some (.inr (.inr r)) => some (r, h)
theorem am_run_more : ∀ (n : Nat) {t : AT} {pc : Nat} {lv : AL} {st : List AV} {h : AH} {o : Option AV × AH}, am_run n t pc lv st h = some o → ∀ k, n ≤ k → am_run k t pc lv st h = some o := by
  intro n
  induction n with
  | zero => intro t pc lv st h o e; cases e
  | succ n ih =>
    intro t pc lv st h o e k hk
    obtain ⟨k, rfl⟩ : ∃ j, k = j + 1 := ⟨k - 1, by omega⟩
    simp only [am_run] at e ⊢
    split at e
    · cases e
    · exact ih e k (by omega)
    · split at e
      · cases e
      · rename_i e2
        rw [ih e2 k (by omega)]
        exact ih e k (by omega)
    · exact e
def Ev (t : AT) (pc : Nat) (lv : AL) (st : List AV) (h : AH) (o : Option AV × AH) : Prop := ∃ n, am_run n t pc lv st h = some o
/-- method M of the arguments as (pad places behind them) answers r, and the heap is h' then -/
def Em (M pad : Nat) (as : List AV) (h : AH) (r : Option AV) (h' : AH) : Prop := Ev (pT M) 0 (al_in as pad) [] h (r, h')
theorem ev_step {t : AT} {pc pc' : Nat} {lv lv' : AL} {st st' : List AV} {h h' : AH} {o : Option AV × AH} (e : am_exec (am_at t pc) lv st h = some (.inl (pc', lv', st', h'))) (k : Ev t pc' lv' st' h' o) : Ev t pc lv st h o := by
  obtain ⟨n, k⟩ := k
  exact ⟨n + 1, by simp only [am_run, e]; exact k⟩
theorem ev_call {t : AT} {pc M' pad pc' : Nat} {lv : AL} {st st' as : List AV} {h h' : AH} {r : Option AV} {o : Option AV × AH} (e : am_exec (am_at t pc) lv st h = some (.inr (.inl (M', as, pad, pc', st')))) (c : Em M' pad as h r h') (k : Ev t pc' lv (r.toList ++ st') h' o) : Ev t pc lv st h o := by
  obtain ⟨n1, c⟩ := c
  obtain ⟨n2, k⟩ := k
  refine ⟨max n1 n2 + 1, ?_⟩
  simp only [am_run, e]
  rw [am_run_more n1 c _ (Nat.le_max_left _ _)]
  exact am_run_more n2 k _ (Nat.le_max_right _ _)
theorem ev_ret {t : AT} {pc : Nat} {lv : AL} {st : List AV} {h : AH} {r : Option AV} (e : am_exec (am_at t pc) lv st h = some (.inr (.inr r))) : Ev t pc lv st h (r, h) := ⟨1, by simp only [am_run, e]⟩
