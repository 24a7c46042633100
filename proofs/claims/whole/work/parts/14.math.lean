-- THE VALUE OF A RUN: events, states, what is resolved of states (places are numbered as the reference has them: 0 CREATE, 1..12 MEMBER, 13 POWER, 14 RULE, 15..22 TOPIC; -1: nothing)
def b_any : Nat → (Nat → Bool) → Bool
  | 0, _ => false
  | n + 1, f => b_any n f || f n
def b_all : Nat → (Nat → Bool) → Bool
  | 0, _ => true
  | n + 1, f => b_all n f && f n
theorem b_any_iff {n : Nat} {f : Nat → Bool} : b_any n f = true ↔ ∃ i, i < n ∧ f i = true := by
  induction n with
  | zero => simp [b_any]
  | succ n ih =>
    simp only [b_any, Bool.or_eq_true, ih]
    constructor
    · rintro (⟨i, h1, h2⟩ | h)
      · exact ⟨i, by omega, h2⟩
      · exact ⟨n, by omega, h⟩
    · rintro ⟨i, h1, h2⟩
      by_cases h : i = n
      · subst h; exact Or.inr h2
      · exact Or.inl ⟨i, by omega, h2⟩
theorem b_all_iff {n : Nat} {f : Nat → Bool} : b_all n f = true ↔ ∀ i, i < n → f i = true := by
  induction n with
  | zero => simp [b_all]
  | succ n ih =>
    simp only [b_all, Bool.and_eq_true, ih]
    constructor
    · rintro ⟨h1, h2⟩ i hi
      by_cases h : i = n
      · subst h; exact h2
      · exact h1 i (by omega)
    · intro h
      exact ⟨fun i hi => h i (by omega), h n (by omega)⟩
-- how many below n
def b_cnt : Nat → (Nat → Bool) → Nat
  | 0, _ => 0
  | n + 1, f => b_cnt n f + (bif f n then 1 else 0)
abbrev SS : Type := Nat → Int
-- an event: sender, kind, a, b, time; parents; what its authorities make; levels; chain; the state before; whether it is good
abbrev ED : Type := (Int × Int × Int × Int × Int) × List Nat × SS × (Nat → Int) × (Nat → Bool) × SS × Bool
abbrev EL : Type := Nat → ED
def e_sd (x : ED) : Int := x.1.1
def e_kd (x : ED) : Int := x.1.2.1
def e_a (x : ED) : Int := x.1.2.2.1
def e_b (x : ED) : Int := x.1.2.2.2.1
def e_tm (x : ED) : Int := x.1.2.2.2.2
def e_pa (x : ED) : List Nat := x.2.1
def e_ow (x : ED) : SS := x.2.2.1
def e_lv (x : ED) : Nat → Int := x.2.2.2.1
def e_ch (x : ED) : Nat → Bool := x.2.2.2.2.1
def e_bf (x : ED) : SS := x.2.2.2.2.2.1
def e_gd (x : ED) : Bool := x.2.2.2.2.2.2
def m_pl (k a : Int) : Int := if k = 0 then 0 else if k = 1 then 1 + a else if k = 2 then 13 else if k = 3 then 14 else if k = 4 then 15 + a else -1
def e_pl (x : ED) : Int := m_pl (e_kd x) (e_a x)
def s_none : SS := fun _ => -1
def m_lev (E : EL) (s : SS) (u : Int) : Int := if 0 ≤ s 13 then e_lv (E (s 13).toNat) u.toNat else if 0 ≤ s 0 ∧ e_sd (E (s 0).toNat) = u then 100 else 0
def m_mem (E : EL) (s : SS) (u : Int) : Int := if s (1 + u.toNat) < 0 then 0 else e_b (E (s (1 + u.toNat)).toNat)
-- MEMBER by a state
def m_above (E : EL) (x : ED) (s : SS) : Bool := decide (m_mem E s (e_sd x) = 1) && (decide (50 ≤ m_lev E s (e_sd x)) && decide (m_lev E s (e_a x) < m_lev E s (e_sd x)))
def m_join (E : EL) (x : ED) (s : SS) : Bool := decide (e_sd x = e_a x) && (!decide (m_mem E s (e_a x) = 3) && (decide (s 14 < 0) || (decide (e_b (E (s 14).toNat) = 0) || (decide (m_mem E s (e_a x) = 1) || (decide (m_mem E s (e_a x) = 2) || (decide (s (1 + (e_a x).toNat) < 0) && (decide (s 13 < 0) && decide (e_sd (E (s 0).toNat) = e_sd x))))))))
def m_member (E : EL) (x : ED) (s : SS) : Bool :=
  if e_b x = 1 then m_join E x s
  else if e_b x = 2 then decide (m_mem E s (e_sd x) = 1) && (!decide (m_mem E s (e_a x) = 1) && !decide (m_mem E s (e_a x) = 3))
  else if e_b x = 0 then (if e_sd x = e_a x then decide (m_mem E s (e_a x) = 1) || decide (m_mem E s (e_a x) = 2) else m_above E x s && !decide (m_mem E s (e_a x) = 0))
  else if e_b x = 3 then m_above E x s
  else false
-- POWER by a state
def m_levels (E : EL) (x : ED) (s : SS) : Bool := b_all 12 fun u =>
  decide (m_lev E s u = e_lv x u) || (decide (m_lev E s u ≤ m_lev E s (e_sd x)) && (decide (e_lv x u ≤ m_lev E s (e_sd x)) && (decide ((u : Int) = e_sd x) || decide (m_lev E s u < m_lev E s (e_sd x)))))
def m_allow (E : EL) (x : ED) (s : SS) : Bool :=
  if e_kd x = 0 then decide ((e_pa x).length = 0)
  else if s 0 < 0 then false
  else if e_kd x = 1 then m_member E x s
  else if m_mem E s (e_sd x) = 1 then
    (if e_kd x = 5 then true
     else if m_lev E s (e_sd x) < 50 then false
     else if e_kd x = 2 then m_levels E x s
     else decide (e_kd x = 4) || (decide (e_b x = 0) || decide (e_b x = 1)))
  else false
-- what a state has of what an event needs
def m_need (s : SS) (k who whom : Int) : SS := fun p => if k = 0 then -1 else if p = 0 ∨ p = 13 ∨ (p : Int) = 1 + who ∨ (k = 1 ∧ ((p : Int) = 1 + whom ∨ p = 14)) then s p else -1
-- chain and levels out of the authorities
def m_ch (E : EL) (s : SS) : Nat → Bool := fun y => b_any 23 fun p => decide (0 ≤ s p) && (decide (s p = y) || e_ch (E (s p).toNat) y)
def m_lvs (E : EL) (s : SS) (a b : Int) : Nat → Int := fun u => if (u : Int) = a then b else m_lev E s u
def e_bh (E : EL) (n : Nat) : SS := fun p => if e_gd (E n) = true ∧ (p : Int) = e_pl (E n) then n else e_bf (E n) p
-- resolve: of the states behind these events
def r_agr (E : EL) : List Nat → SS
  | [] => s_none
  | i :: r => fun p => bif r.all (fun j => decide (e_bh E j p = e_bh E i p)) then e_bh E i p else -1
def r_full (E : EL) (i : Nat) : Nat → Bool := m_ch E (e_bh E i)
def r_conf (E : EL) (l : List Nat) : Nat → Bool := fun e => l.any (fun i => b_any 23 fun p => decide (e_bh E i p = e) && decide (r_agr E l p < 0)) || (l.any (fun i => r_full E i e) && l.any fun i => !r_full E i e)
def e_pow (x : ED) : Bool := decide (e_kd x = 2) || (decide (e_kd x = 3) || (decide (e_kd x = 1) && ((decide (e_b x = 0) || decide (e_b x = 3)) && !decide (e_sd x = e_a x))))
def r_pow (N : Nat) (E : EL) (cf : Nat → Bool) : Nat → Bool := fun e => cf e && b_any N fun f => cf f && (e_pow (E f) && (decide (e = f) || e_ch (E f) e))
def r_try (E : EL) (s : SS) (e : Nat) : SS := if m_allow E (E e) (fun p => if 0 ≤ s p then s p else e_ow (E e) p) = true then (fun p => if (p : Int) = e_pl (E e) then e else s p) else s
def e_id (n : Nat) : Int := ((n * 40503 % 65536 : Nat) : Int)
def e_sl (E : EL) (n : Nat) : Int := m_lev E (e_ow (E n)) (e_sd (E n))
-- older: time, then id
def r_old (E : EL) (e f : Nat) : Bool := if e_tm (E e) = e_tm (E f) then decide (e_id e < e_id f) else decide (e_tm (E e) < e_tm (E f))
def r_first (E : EL) (e f : Nat) : Bool := if e_sl E e = e_sl E f then r_old E e f else decide (e_sl E f < e_sl E e)
def r_free (N : Nat) (E : EL) (pw : Nat → Bool) (e : Nat) : Bool := b_all N fun y => !(pw y && e_ch (E e) y)
def r_best1 (N : Nat) (E : EL) (pw : Nat → Bool) : Nat → Option Nat
  | 0 => none
  | k + 1 => bif pw k && (r_free N E pw k && (match r_best1 N E pw k with | none => true | some f => r_first E k f)) then some k else r_best1 N E pw k
def f_off (f : Nat → Bool) (e : Nat) : Nat → Bool := fun y => bif Nat.beq y e then false else f y
def r_ord1 (N : Nat) (E : EL) : Nat → (Nat → Bool) → (Nat → Bool) → SS → (Nat → Bool) × SS
  | 0, _, cf, s => (cf, s)
  | n + 1, pw, cf, s => match r_best1 N E pw N with
    | none => (cf, s)
    | some e => r_ord1 N E n (f_off pw e) (f_off cf e) (r_try E s e)
-- the mainline: place of a POWER in it, from a POWER down the authorities
def r_main (E : EL) : Nat → Int → List Nat
  | 0, _ => []
  | n + 1, x => if x < 0 then [] else x.toNat :: r_main E n (e_ow (E x.toNat) 13)
def r_plc (E : EL) (ml : List Nat) : Nat → Int → Nat
  | 0, _ => 400
  | n + 1, x => if x < 0 then 400 else bif ml.contains x.toNat then ml.idxOf x.toNat else r_plc E ml n (e_ow (E x.toNat) 13)
def r_mp (E : EL) (ml : List Nat) (e : Nat) : Nat := r_plc E ml 401 (if e_kd (E e) = 2 then e else e_ow (E e) 13)
def r_sec (E : EL) (ml : List Nat) (e f : Nat) : Bool := if r_mp E ml e = r_mp E ml f then r_old E e f else decide (r_mp E ml f < r_mp E ml e)
def r_best2 (E : EL) (ml : List Nat) (cf : Nat → Bool) : Nat → Option Nat
  | 0 => none
  | k + 1 => bif cf k && (match r_best2 E ml cf k with | none => true | some f => r_sec E ml k f) then some k else r_best2 E ml cf k
def r_ord2 (N : Nat) (E : EL) (ml : List Nat) : Nat → (Nat → Bool) → SS → SS
  | 0, _, s => s
  | n + 1, cf, s => match r_best2 E ml cf N with
    | none => s
    | some e => r_ord2 N E ml n (f_off cf e) (r_try E s e)
def r_res (N : Nat) (E : EL) (l : List Nat) : SS :=
  if l.length < 2 then r_agr E l else
  let o1 := r_ord1 N E N (r_pow N E (r_conf E l)) (r_conf E l) (r_agr E l)
  let s2 := r_ord2 N E (r_main E 401 (o1.2 13)) N o1.1 o1.2
  fun p => if 0 ≤ r_agr E l p then r_agr E l p else s2 p
-- a server: what it knows, what it holds
def m_head (N : Nat) (E : EL) (kn : Nat → Bool) (e : Nat) : Bool := kn e && !b_any N (fun x => kn x && (e_pa (E x)).contains e)
def m_heads (N : Nat) (E : EL) (kn : Nat → Bool) : List Nat := (List.range N).filter (m_head N E kn)
def m_state (N : Nat) (E : EL) (kn : Nat → Bool) : SS := r_res N E (m_heads N E kn)
