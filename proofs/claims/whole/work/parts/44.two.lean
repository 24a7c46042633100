-- Resolver.orderTwo
-- an array with a hole at t: a list's events, from t on one place further
def hoR (ad : Nat → Nat) (Q : List Nat) (t : Nat) (f : Nat → Option Nat) : Prop := (∀ i, i < t → f i = some (ad (Q.getD i 0))) ∧ ∀ i, t < i → i ≤ Q.length → f i = some (ad (Q.getD (i - 1) 0))
-- e comes before a, by the ranks that stand
def c_bef (E : EL) (rk : Nat → Int) (own : Int) (e a : Nat) : Bool := if rk a = own then r_old E e a else decide (rk a < own)
set_option maxHeartbeats 4000000 in
theorem l_ins {R : Nat → Prop} {ad : Nat → Nat} {N Z : Nat} {E : EL} (hN : N ≤ 400) (hZR : rsN R Z) (hW : WE N E) {Q : List Nat} (hQ : ∀ n ∈ Q, n < N) (hQl : Q.length < 400) {e : Nat} (he : e < N) {own : Int} (ho : -1 ≤ own ∧ own ≤ 400) {fa ft tp ls : Nat → Option Nat} {gc gs gx gp : Nat → BitVec 64} {rk : Nat → Int} (hrk : ∀ n, n < 400 → -1 ≤ rk n ∧ rk n ≤ 400) {j1 j2 j3 j4 j5 : Option AV} : ∀ (t : Nat) (h : AH) (qu : Nat → Option Nat), t ≤ Q.length → rsR h Z fa ft gc gs gx gp tp ls qu rk → LG h R ad N E → hoR ad Q t qu → (∀ j, t ≤ j → j < Q.length → c_bef E rk own e (Q.getD j 0) = true) → ∃ t' h' qu', t' ≤ t ∧ rsR h' Z fa ft gc gs gx gp tp ls qu' rk ∧ rz Z h h' ∧ hoR ad Q t' qu' ∧ (∀ j, t' ≤ j → j < Q.length → c_bef E rk own e (Q.getD j 0) = true) ∧ (0 < t' → c_bef E rk own e (Q.getD (t' - 1) 0) = false) ∧ ∀ o, Ev tResolver_orderTwo 96 [some (vR Z), j1, j2, j3, j4, j5, some (vR (ad e)), some (.inl own), some (.inl (t' : Int))] [] h' o → Ev tResolver_orderTwo 49 [some (vR Z), j1, j2, j3, j4, j5, some (vR (ad e)), some (.inl own), some (.inl (t : Int))] [] h o := by
  intro t
  induction t with
  | zero =>
    intro h qu ht q hL hh hb
    refine ⟨0, h, qu, Nat.le_refl _, q, rz_rf, hh, hb, fun z => absurd z (Nat.lt_irrefl _), fun o K => ?_⟩
    clear hb hrk
    iterate 1 (refine ev_st rfl rfl ?_)
    refine ev_ifT rfl (by simp only [ick, w32]; omega) ?_
    exact K
  | succ t ih =>
    intro h qu ht q hL hh hb
    have htl : t < Q.length := by omega
    have hqn := hQ _ (getD_mem htl)
    have ef := hh.1 t (by omega)
    have cc := c_comesLater hN hW q.c0 q.c18 hrk hL hqn he ho
    have pre : ∀ o, Ev tResolver_orderTwo 71 [some (vR Z), j1, j2, j3, j4, j5, some (vR (ad e)), some (.inl own), some (.inl ((t + 1 : Nat) : Int))] [vB (c_bef E rk own e (Q.getD t 0))] h o → Ev tResolver_orderTwo 49 [some (vR Z), j1, j2, j3, j4, j5, some (vR (ad e)), some (.inl own), some (.inl ((t + 1 : Nat) : Int))] [] h o := by
      intro o K
      clear hb hrk hh ih
      iterate 1 (refine ev_st rfl rfl ?_)
      refine ev_ifF rfl (by simp only [ick, w32]; omega) ?_
      iterate 2 (refine ev_st rfl rfl ?_)
      refine ev_getf rfl q.c0 (by rfl) ?_
      iterate 3 (refine ev_st rfl rfl ?_)
      refine ev_aald t rfl q.c17 (by simp only [w32]; omega) (by omega) ?_
      rw [ef]
      iterate 2 (refine ev_st rfl rfl ?_)
      refine ev_callV rfl rfl q.c0 rfl cc ?_
      exact K
    cases hbf : c_bef E rk own e (Q.getD t 0) with
    | false =>
      refine ⟨t + 1, h, qu, Nat.le_refl _, q, rz_rf, hh, hb, fun _ => by rw [Nat.add_sub_cancel]; exact hbf, fun o K => pre o ?_⟩
      rw [hbf]
      refine ev_zeqT rfl rfl ?_
      exact K
    | true =>
      obtain ⟨fsE, hEt⟩ := hL.isE hqn
      have qq1 := q.u_qu (z := va_up qu (t + 1) (some (ad (Q.getD t 0))))
      have z1 := rz_put (Z := Z) (h := h) (i := 17) (e := cEa 400 (va_up qu (t + 1) (some (ad (Q.getD t 0))))) (by omega) (by omega) (by omega)
      obtain ⟨t', h', qu', a0, a1, a2, a3, a4, a5, ih⟩ := ih _ _ (by omega) qq1 (hL.fz (rz_fz z1 hZR)) ⟨fun i hi => by
        simp only [va_up]
        rw [if_neg (by omega)]
        exact hh.1 i (by omega), fun i hi hi2 => by
        simp only [va_up]
        by_cases hit : i = t + 1
        · rw [if_pos hit, hit, Nat.add_sub_cancel]
        · rw [if_neg hit]
          exact hh.2 i (by omega) hi2⟩ (fun j hj hj2 => by
        by_cases hjt : j = t
        · subst hjt; exact hbf
        · exact hb j (by omega) hj2)
      refine ⟨t', h', qu', by omega, a1, rz_tr z1 a2, a3, a4, a5, fun o K => pre o ?_⟩
      have ih := ih o K
      rw [hbf]
      clear hb hrk hh a4 a5 pre K
      refine ev_zeqF rfl rfl ?_
      iterate 1 (refine ev_st rfl rfl ?_)
      refine ev_getf rfl q.c0 (by rfl) ?_
      iterate 2 (refine ev_st rfl rfl ?_)
      refine ev_getf rfl q.c0 (by rfl) ?_
      iterate 3 (refine ev_st rfl rfl ?_)
      refine ev_aald t rfl q.c17 (by simp only [w32]; omega) (by omega) ?_
      rw [ef]
      refine ev_aastS rfl q.c17 hEt (by omega) (by omega) ?_
      iterate 2 (refine ev_st rfl rfl ?_)
      rw [show (((t + 1 : Nat) : Int) + -1) = (t : Int) by omega]
      exact ih
-- the list with e put in at t
def l_at (Q : List Nat) (t e : Nat) : List Nat := Q.take t ++ e :: Q.drop t
theorem l_at_len {Q : List Nat} {t e : Nat} (ht : t ≤ Q.length) : (l_at Q t e).length = Q.length + 1 := by
  simp [l_at]; omega
theorem l_at_getD {Q : List Nat} {t e i : Nat} (ht : t ≤ Q.length) : (l_at Q t e).getD i 0 = if i < t then Q.getD i 0 else if i = t then e else Q.getD (i - 1) 0 := by
  unfold l_at
  have hl : (Q.take t).length = t := by simp; omega
  rw [List.getD_eq_getElem?_getD]
  by_cases h1 : i < t
  · rw [if_pos h1, List.getElem?_append_left (by omega), List.getElem?_take_of_lt h1, ← List.getD_eq_getElem?_getD]
  · rw [if_neg h1, List.getElem?_append_right (by omega), hl]
    by_cases h2 : i = t
    · rw [if_pos h2, h2, Nat.sub_self]
      rfl
    · rw [if_neg h2, show i - t = (i - 1 - t) + 1 by omega, List.getElem?_cons_succ, List.getElem?_drop, show t + (i - 1 - t) = i - 1 by omega, ← List.getD_eq_getElem?_getD]
theorem l_at_lsR {ad : Nat → Nat} {Q : List Nat} {t e : Nat} {f : Nat → Option Nat} (ht : t ≤ Q.length) (h : hoR ad Q t f) : lsR ad (l_at Q t e) (va_up f t (some (ad e))) := by
  intro i hi
  rw [l_at_len ht] at hi
  rw [l_at_getD ht]
  by_cases h1 : i < t
  · rw [if_pos h1]
    simp only [va_up]
    rw [if_neg (by omega)]
    exact h.1 i h1
  · rw [if_neg h1]
    by_cases h2 : i = t
    · rw [if_pos h2]; simp [va_up, h2]
    · rw [if_neg h2]
      simp only [va_up, if_neg h2]
      exact h.2 i (by omega) (by omega)
