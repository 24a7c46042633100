-- the resolver: its object at Z, its rows behind it (Z + 1, Z + 2: the empty state, which stays)
abbrev cRes (Z : Nat) : AE := .inr (4, [.inr (.inr (some (Z + 1))), .inr (.inr (some (Z + 3))), .inr (.inr (some (Z + 5))), .inr (.inr (some (Z + 7))), .inr (.inr (some (Z + 9))), .inr (.inr (some (Z + 11))), .inr (.inr (some (Z + 13))), .inr (.inr (some (Z + 15))), .inr (.inr (some (Z + 16))), .inr (.inr (some (Z + 17))), .inr (.inr (some (Z + 18)))])
def rsR (h : AH) (Z : Nat) (fa ft : Nat → Option Nat) (gc gs gx gp : Nat → BitVec 64) (tp ls qu : Nat → Option Nat) (rk : Nat → Int) : Prop := h.2.2 Z = some (cRes Z) ∧ h.2.2 (Z + 3) = some (cSt (Z + 4)) ∧ h.2.2 (Z + 4) = some (cEa 23 fa) ∧ h.2.2 (Z + 5) = some (cSt (Z + 6)) ∧ h.2.2 (Z + 6) = some (cEa 23 ft) ∧ h.2.2 (Z + 7) = some (cSet (Z + 8)) ∧ h.2.2 (Z + 8) = some (cLng gc) ∧ h.2.2 (Z + 9) = some (cSet (Z + 10)) ∧ h.2.2 (Z + 10) = some (cLng gs) ∧ h.2.2 (Z + 11) = some (cSet (Z + 12)) ∧ h.2.2 (Z + 12) = some (cLng gx) ∧ h.2.2 (Z + 13) = some (cSet (Z + 14)) ∧ h.2.2 (Z + 14) = some (cLng gp) ∧ h.2.2 (Z + 15) = some (cEa 400 tp) ∧ h.2.2 (Z + 16) = some (cEa 400 ls) ∧ h.2.2 (Z + 17) = some (cEa 400 qu) ∧ h.2.2 (Z + 18) = some (cIa 400 rk)
theorem rsR.c0 {h : AH} {Z : Nat} {fa ft : Nat → Option Nat} {gc gs gx gp : Nat → BitVec 64} {tp ls qu : Nat → Option Nat} {rk : Nat → Int} (q : rsR h Z fa ft gc gs gx gp tp ls qu rk) : h.2.2 Z = some (cRes Z) := q.1
theorem rsR.c3 {h : AH} {Z : Nat} {fa ft : Nat → Option Nat} {gc gs gx gp : Nat → BitVec 64} {tp ls qu : Nat → Option Nat} {rk : Nat → Int} (q : rsR h Z fa ft gc gs gx gp tp ls qu rk) : h.2.2 (Z + 3) = some (cSt (Z + 4)) := q.2.1
theorem rsR.c4 {h : AH} {Z : Nat} {fa ft : Nat → Option Nat} {gc gs gx gp : Nat → BitVec 64} {tp ls qu : Nat → Option Nat} {rk : Nat → Int} (q : rsR h Z fa ft gc gs gx gp tp ls qu rk) : h.2.2 (Z + 4) = some (cEa 23 fa) := q.2.2.1
theorem rsR.c5 {h : AH} {Z : Nat} {fa ft : Nat → Option Nat} {gc gs gx gp : Nat → BitVec 64} {tp ls qu : Nat → Option Nat} {rk : Nat → Int} (q : rsR h Z fa ft gc gs gx gp tp ls qu rk) : h.2.2 (Z + 5) = some (cSt (Z + 6)) := q.2.2.2.1
theorem rsR.c6 {h : AH} {Z : Nat} {fa ft : Nat → Option Nat} {gc gs gx gp : Nat → BitVec 64} {tp ls qu : Nat → Option Nat} {rk : Nat → Int} (q : rsR h Z fa ft gc gs gx gp tp ls qu rk) : h.2.2 (Z + 6) = some (cEa 23 ft) := q.2.2.2.2.1
theorem rsR.c7 {h : AH} {Z : Nat} {fa ft : Nat → Option Nat} {gc gs gx gp : Nat → BitVec 64} {tp ls qu : Nat → Option Nat} {rk : Nat → Int} (q : rsR h Z fa ft gc gs gx gp tp ls qu rk) : h.2.2 (Z + 7) = some (cSet (Z + 8)) := q.2.2.2.2.2.1
theorem rsR.c8 {h : AH} {Z : Nat} {fa ft : Nat → Option Nat} {gc gs gx gp : Nat → BitVec 64} {tp ls qu : Nat → Option Nat} {rk : Nat → Int} (q : rsR h Z fa ft gc gs gx gp tp ls qu rk) : h.2.2 (Z + 8) = some (cLng gc) := q.2.2.2.2.2.2.1
theorem rsR.c9 {h : AH} {Z : Nat} {fa ft : Nat → Option Nat} {gc gs gx gp : Nat → BitVec 64} {tp ls qu : Nat → Option Nat} {rk : Nat → Int} (q : rsR h Z fa ft gc gs gx gp tp ls qu rk) : h.2.2 (Z + 9) = some (cSet (Z + 10)) := q.2.2.2.2.2.2.2.1
theorem rsR.c10 {h : AH} {Z : Nat} {fa ft : Nat → Option Nat} {gc gs gx gp : Nat → BitVec 64} {tp ls qu : Nat → Option Nat} {rk : Nat → Int} (q : rsR h Z fa ft gc gs gx gp tp ls qu rk) : h.2.2 (Z + 10) = some (cLng gs) := q.2.2.2.2.2.2.2.2.1
theorem rsR.c11 {h : AH} {Z : Nat} {fa ft : Nat → Option Nat} {gc gs gx gp : Nat → BitVec 64} {tp ls qu : Nat → Option Nat} {rk : Nat → Int} (q : rsR h Z fa ft gc gs gx gp tp ls qu rk) : h.2.2 (Z + 11) = some (cSet (Z + 12)) := q.2.2.2.2.2.2.2.2.2.1
theorem rsR.c12 {h : AH} {Z : Nat} {fa ft : Nat → Option Nat} {gc gs gx gp : Nat → BitVec 64} {tp ls qu : Nat → Option Nat} {rk : Nat → Int} (q : rsR h Z fa ft gc gs gx gp tp ls qu rk) : h.2.2 (Z + 12) = some (cLng gx) := q.2.2.2.2.2.2.2.2.2.2.1
theorem rsR.c13 {h : AH} {Z : Nat} {fa ft : Nat → Option Nat} {gc gs gx gp : Nat → BitVec 64} {tp ls qu : Nat → Option Nat} {rk : Nat → Int} (q : rsR h Z fa ft gc gs gx gp tp ls qu rk) : h.2.2 (Z + 13) = some (cSet (Z + 14)) := q.2.2.2.2.2.2.2.2.2.2.2.1
theorem rsR.c14 {h : AH} {Z : Nat} {fa ft : Nat → Option Nat} {gc gs gx gp : Nat → BitVec 64} {tp ls qu : Nat → Option Nat} {rk : Nat → Int} (q : rsR h Z fa ft gc gs gx gp tp ls qu rk) : h.2.2 (Z + 14) = some (cLng gp) := q.2.2.2.2.2.2.2.2.2.2.2.2.1
theorem rsR.c15 {h : AH} {Z : Nat} {fa ft : Nat → Option Nat} {gc gs gx gp : Nat → BitVec 64} {tp ls qu : Nat → Option Nat} {rk : Nat → Int} (q : rsR h Z fa ft gc gs gx gp tp ls qu rk) : h.2.2 (Z + 15) = some (cEa 400 tp) := q.2.2.2.2.2.2.2.2.2.2.2.2.2.1
theorem rsR.c16 {h : AH} {Z : Nat} {fa ft : Nat → Option Nat} {gc gs gx gp : Nat → BitVec 64} {tp ls qu : Nat → Option Nat} {rk : Nat → Int} (q : rsR h Z fa ft gc gs gx gp tp ls qu rk) : h.2.2 (Z + 16) = some (cEa 400 ls) := q.2.2.2.2.2.2.2.2.2.2.2.2.2.2.1
theorem rsR.c17 {h : AH} {Z : Nat} {fa ft : Nat → Option Nat} {gc gs gx gp : Nat → BitVec 64} {tp ls qu : Nat → Option Nat} {rk : Nat → Int} (q : rsR h Z fa ft gc gs gx gp tp ls qu rk) : h.2.2 (Z + 17) = some (cEa 400 qu) := q.2.2.2.2.2.2.2.2.2.2.2.2.2.2.2.1
theorem rsR.c18 {h : AH} {Z : Nat} {fa ft : Nat → Option Nat} {gc gs gx gp : Nat → BitVec 64} {tp ls qu : Nat → Option Nat} {rk : Nat → Int} (q : rsR h Z fa ft gc gs gx gp tp ls qu rk) : h.2.2 (Z + 18) = some (cIa 400 rk) := q.2.2.2.2.2.2.2.2.2.2.2.2.2.2.2.2
theorem rsR.u_fa {h : AH} {Z : Nat} {fa ft : Nat → Option Nat} {gc gs gx gp : Nat → BitVec 64} {tp ls qu : Nat → Option Nat} {rk : Nat → Int} (q : rsR h Z fa ft gc gs gx gp tp ls qu rk) {z : Nat → Option Nat} : rsR (ah_put h (Z + 4) (cEa 23 z)) Z z ft gc gs gx gp tp ls qu rk := ⟨ah_ne (by omega) q.c0, ah_ne (by omega) q.c3, ah_eq, ah_ne (by omega) q.c5, ah_ne (by omega) q.c6, ah_ne (by omega) q.c7, ah_ne (by omega) q.c8, ah_ne (by omega) q.c9, ah_ne (by omega) q.c10, ah_ne (by omega) q.c11, ah_ne (by omega) q.c12, ah_ne (by omega) q.c13, ah_ne (by omega) q.c14, ah_ne (by omega) q.c15, ah_ne (by omega) q.c16, ah_ne (by omega) q.c17, ah_ne (by omega) q.c18⟩
theorem rsR.u_ft {h : AH} {Z : Nat} {fa ft : Nat → Option Nat} {gc gs gx gp : Nat → BitVec 64} {tp ls qu : Nat → Option Nat} {rk : Nat → Int} (q : rsR h Z fa ft gc gs gx gp tp ls qu rk) {z : Nat → Option Nat} : rsR (ah_put h (Z + 6) (cEa 23 z)) Z fa z gc gs gx gp tp ls qu rk := ⟨ah_ne (by omega) q.c0, ah_ne (by omega) q.c3, ah_ne (by omega) q.c4, ah_ne (by omega) q.c5, ah_eq, ah_ne (by omega) q.c7, ah_ne (by omega) q.c8, ah_ne (by omega) q.c9, ah_ne (by omega) q.c10, ah_ne (by omega) q.c11, ah_ne (by omega) q.c12, ah_ne (by omega) q.c13, ah_ne (by omega) q.c14, ah_ne (by omega) q.c15, ah_ne (by omega) q.c16, ah_ne (by omega) q.c17, ah_ne (by omega) q.c18⟩
theorem rsR.u_gc {h : AH} {Z : Nat} {fa ft : Nat → Option Nat} {gc gs gx gp : Nat → BitVec 64} {tp ls qu : Nat → Option Nat} {rk : Nat → Int} (q : rsR h Z fa ft gc gs gx gp tp ls qu rk) {z : Nat → BitVec 64} : rsR (ah_put h (Z + 8) (cLng z)) Z fa ft z gs gx gp tp ls qu rk := ⟨ah_ne (by omega) q.c0, ah_ne (by omega) q.c3, ah_ne (by omega) q.c4, ah_ne (by omega) q.c5, ah_ne (by omega) q.c6, ah_ne (by omega) q.c7, ah_eq, ah_ne (by omega) q.c9, ah_ne (by omega) q.c10, ah_ne (by omega) q.c11, ah_ne (by omega) q.c12, ah_ne (by omega) q.c13, ah_ne (by omega) q.c14, ah_ne (by omega) q.c15, ah_ne (by omega) q.c16, ah_ne (by omega) q.c17, ah_ne (by omega) q.c18⟩
theorem rsR.u_gs {h : AH} {Z : Nat} {fa ft : Nat → Option Nat} {gc gs gx gp : Nat → BitVec 64} {tp ls qu : Nat → Option Nat} {rk : Nat → Int} (q : rsR h Z fa ft gc gs gx gp tp ls qu rk) {z : Nat → BitVec 64} : rsR (ah_put h (Z + 10) (cLng z)) Z fa ft gc z gx gp tp ls qu rk := ⟨ah_ne (by omega) q.c0, ah_ne (by omega) q.c3, ah_ne (by omega) q.c4, ah_ne (by omega) q.c5, ah_ne (by omega) q.c6, ah_ne (by omega) q.c7, ah_ne (by omega) q.c8, ah_ne (by omega) q.c9, ah_eq, ah_ne (by omega) q.c11, ah_ne (by omega) q.c12, ah_ne (by omega) q.c13, ah_ne (by omega) q.c14, ah_ne (by omega) q.c15, ah_ne (by omega) q.c16, ah_ne (by omega) q.c17, ah_ne (by omega) q.c18⟩
theorem rsR.u_gx {h : AH} {Z : Nat} {fa ft : Nat → Option Nat} {gc gs gx gp : Nat → BitVec 64} {tp ls qu : Nat → Option Nat} {rk : Nat → Int} (q : rsR h Z fa ft gc gs gx gp tp ls qu rk) {z : Nat → BitVec 64} : rsR (ah_put h (Z + 12) (cLng z)) Z fa ft gc gs z gp tp ls qu rk := ⟨ah_ne (by omega) q.c0, ah_ne (by omega) q.c3, ah_ne (by omega) q.c4, ah_ne (by omega) q.c5, ah_ne (by omega) q.c6, ah_ne (by omega) q.c7, ah_ne (by omega) q.c8, ah_ne (by omega) q.c9, ah_ne (by omega) q.c10, ah_ne (by omega) q.c11, ah_eq, ah_ne (by omega) q.c13, ah_ne (by omega) q.c14, ah_ne (by omega) q.c15, ah_ne (by omega) q.c16, ah_ne (by omega) q.c17, ah_ne (by omega) q.c18⟩
theorem rsR.u_gp {h : AH} {Z : Nat} {fa ft : Nat → Option Nat} {gc gs gx gp : Nat → BitVec 64} {tp ls qu : Nat → Option Nat} {rk : Nat → Int} (q : rsR h Z fa ft gc gs gx gp tp ls qu rk) {z : Nat → BitVec 64} : rsR (ah_put h (Z + 14) (cLng z)) Z fa ft gc gs gx z tp ls qu rk := ⟨ah_ne (by omega) q.c0, ah_ne (by omega) q.c3, ah_ne (by omega) q.c4, ah_ne (by omega) q.c5, ah_ne (by omega) q.c6, ah_ne (by omega) q.c7, ah_ne (by omega) q.c8, ah_ne (by omega) q.c9, ah_ne (by omega) q.c10, ah_ne (by omega) q.c11, ah_ne (by omega) q.c12, ah_ne (by omega) q.c13, ah_eq, ah_ne (by omega) q.c15, ah_ne (by omega) q.c16, ah_ne (by omega) q.c17, ah_ne (by omega) q.c18⟩
theorem rsR.u_tp {h : AH} {Z : Nat} {fa ft : Nat → Option Nat} {gc gs gx gp : Nat → BitVec 64} {tp ls qu : Nat → Option Nat} {rk : Nat → Int} (q : rsR h Z fa ft gc gs gx gp tp ls qu rk) {z : Nat → Option Nat} : rsR (ah_put h (Z + 15) (cEa 400 z)) Z fa ft gc gs gx gp z ls qu rk := ⟨ah_ne (by omega) q.c0, ah_ne (by omega) q.c3, ah_ne (by omega) q.c4, ah_ne (by omega) q.c5, ah_ne (by omega) q.c6, ah_ne (by omega) q.c7, ah_ne (by omega) q.c8, ah_ne (by omega) q.c9, ah_ne (by omega) q.c10, ah_ne (by omega) q.c11, ah_ne (by omega) q.c12, ah_ne (by omega) q.c13, ah_ne (by omega) q.c14, ah_eq, ah_ne (by omega) q.c16, ah_ne (by omega) q.c17, ah_ne (by omega) q.c18⟩
theorem rsR.u_ls {h : AH} {Z : Nat} {fa ft : Nat → Option Nat} {gc gs gx gp : Nat → BitVec 64} {tp ls qu : Nat → Option Nat} {rk : Nat → Int} (q : rsR h Z fa ft gc gs gx gp tp ls qu rk) {z : Nat → Option Nat} : rsR (ah_put h (Z + 16) (cEa 400 z)) Z fa ft gc gs gx gp tp z qu rk := ⟨ah_ne (by omega) q.c0, ah_ne (by omega) q.c3, ah_ne (by omega) q.c4, ah_ne (by omega) q.c5, ah_ne (by omega) q.c6, ah_ne (by omega) q.c7, ah_ne (by omega) q.c8, ah_ne (by omega) q.c9, ah_ne (by omega) q.c10, ah_ne (by omega) q.c11, ah_ne (by omega) q.c12, ah_ne (by omega) q.c13, ah_ne (by omega) q.c14, ah_ne (by omega) q.c15, ah_eq, ah_ne (by omega) q.c17, ah_ne (by omega) q.c18⟩
theorem rsR.u_qu {h : AH} {Z : Nat} {fa ft : Nat → Option Nat} {gc gs gx gp : Nat → BitVec 64} {tp ls qu : Nat → Option Nat} {rk : Nat → Int} (q : rsR h Z fa ft gc gs gx gp tp ls qu rk) {z : Nat → Option Nat} : rsR (ah_put h (Z + 17) (cEa 400 z)) Z fa ft gc gs gx gp tp ls z rk := ⟨ah_ne (by omega) q.c0, ah_ne (by omega) q.c3, ah_ne (by omega) q.c4, ah_ne (by omega) q.c5, ah_ne (by omega) q.c6, ah_ne (by omega) q.c7, ah_ne (by omega) q.c8, ah_ne (by omega) q.c9, ah_ne (by omega) q.c10, ah_ne (by omega) q.c11, ah_ne (by omega) q.c12, ah_ne (by omega) q.c13, ah_ne (by omega) q.c14, ah_ne (by omega) q.c15, ah_ne (by omega) q.c16, ah_eq, ah_ne (by omega) q.c18⟩
theorem rsR.u_rk {h : AH} {Z : Nat} {fa ft : Nat → Option Nat} {gc gs gx gp : Nat → BitVec 64} {tp ls qu : Nat → Option Nat} {rk : Nat → Int} (q : rsR h Z fa ft gc gs gx gp tp ls qu rk) {z : Nat → Int} : rsR (ah_put h (Z + 18) (cIa 400 z)) Z fa ft gc gs gx gp tp ls qu z := ⟨ah_ne (by omega) q.c0, ah_ne (by omega) q.c3, ah_ne (by omega) q.c4, ah_ne (by omega) q.c5, ah_ne (by omega) q.c6, ah_ne (by omega) q.c7, ah_ne (by omega) q.c8, ah_ne (by omega) q.c9, ah_ne (by omega) q.c10, ah_ne (by omega) q.c11, ah_ne (by omega) q.c12, ah_ne (by omega) q.c13, ah_ne (by omega) q.c14, ah_ne (by omega) q.c15, ah_ne (by omega) q.c16, ah_ne (by omega) q.c17, ah_eq⟩
-- who stays is not among the resolver's rows
def rsN (R : Nat → Prop) (Z : Nat) : Prop := ∀ i, i < 19 → i ≠ 1 → i ≠ 2 → ¬ R (Z + i)
theorem sm_fzr {Z : Nat} {h h' : AH} {R : Nat → Prop} (q : sm Z 19 h h') (h1 : h'.2.2 (Z + 1) = h.2.2 (Z + 1)) (h2 : h'.2.2 (Z + 2) = h.2.2 (Z + 2)) (hR : rsN R Z) : fz R h h' := by
  intro a ha
  by_cases hz : Z ≤ a ∧ a < Z + 19
  · obtain ⟨i, rfl⟩ : ∃ i, a = Z + i := ⟨a - Z, by omega⟩
    by_cases e1 : i = 1
    · subst e1; exact h1
    · by_cases e2 : i = 2
      · subst e2; exact h2
      · exact absurd ha (hR i (by omega) e1 e2)
  · exact q.2.2 a hz
set_option maxHeartbeats 2000000 in
theorem l_list {Z lo m o w : Nat} {g : Nat → BitVec 64} {R : Nat → Prop} {ad : Nat → Nat} {N : Nat} {E : EL} (hN : N ≤ 400) (nl : lo ≠ Z + 16) (nm : m ≠ Z + 16) (no : o ≠ Z + 16) (nw_ : w ≠ Z + 16) (rr : ¬ R (Z + 16)) : ∀ (k i : Nat) (h : AH) (f : Nat → Option Nat), i + k = N → h.2.2 Z = some (cRes Z) → h.2.2 o = some (cSet w) → h.2.2 w = some (cLng g) → lgR h lo m N ad → LG h R ad N E → h.2.2 (Z + 16) = some (cEa 400 f) → lsR ad (v_up (bS g) i) f → ∃ f', lsR ad (v_up (bS g) N) f' ∧ Ev tResolver_list 5 [some (vR Z), some (vR o), some (vR lo), some (.inl ((v_up (bS g) i).length : Int)), some (.inl (i : Int))] [] h (some (.inl ((v_up (bS g) N).length : Int)), ah_put h (Z + 16) (cEa 400 f')) := by
  intro k
  induction k with
  | zero =>
    intro i h f hi hZ ho hw hG hL hr hf
    obtain rfl : i = N := by omega
    refine ⟨f, hf, ?_⟩
    rw [ah_same hr]
    have hle : (v_up (bS g) i).length ≤ 400 := by rw [v_up_len]; have := b_cnt_le (bS g) i; omega
    generalize (v_up (bS g) i).length = L at *
    repeat (refine ev_st rfl rfl ?_)
    refine ev_callV rfl rfl hG.1 rfl (c_lsize hG.1) ?_
    refine ev_icT rfl (by simp only [ick, w32]; omega) ?_
    repeat (refine ev_st rfl rfl ?_)
    exact ev_rt rfl rfl rfl
  | succ k ih =>
    intro i h f hi hZ ho hw hG hL hr hf
    have ch := c_hasN ho hw (n := i) (by omega)
    cases hd : bS g i with
    | false =>
      have hl : v_up (bS g) (i + 1) = v_up (bS g) i := by simp [v_up, hd]
      obtain ⟨f', hf', ih⟩ := ih (i + 1) h f (by omega) hZ ho hw hG hL hr (by rw [hl]; exact hf)
      rw [hl] at ih
      refine ⟨f', hf', ?_⟩
      rw [hd] at ch
      clear hf'
      repeat (refine ev_st rfl rfl ?_)
      refine ev_callV rfl rfl hG.1 rfl (c_lsize hG.1) ?_
      refine ev_icF rfl (by simp only [ick, w32]; omega) ?_
      repeat (refine ev_st rfl rfl ?_)
      refine ev_callV rfl rfl ho rfl ch ?_
      refine ev_zeqT rfl rfl ?_
      iterate 2 (refine ev_st rfl rfl ?_)
      rw [nat_1]
      exact ih
    | true =>
      have hl : v_up (bS g) (i + 1) = v_up (bS g) i ++ [i] := by simp [v_up, hd]
      have hlen : (v_up (bS g) i).length < 400 := by rw [v_up_len]; have := b_cnt_le (bS g) i; omega
      have hll : (v_up (bS g) (i + 1)).length = (v_up (bS g) i).length + 1 := by rw [hl]; simp
      have cf := c_find hG hN (n := i) (by omega)
      obtain ⟨fsE, hE⟩ := hL.isE (n := i) (by omega)
      have hG' : lgR (ah_put h (Z + 16) (cEa 400 (va_up f (v_up (bS g) i).length (some (ad i))))) lo m N ad := by
        obtain ⟨a, mf, b, c⟩ := hG
        exact ⟨ah_ne nl a, mf, ah_ne nm b, c⟩
      obtain ⟨f', hf', ih⟩ := ih (i + 1) (ah_put h (Z + 16) (cEa 400 (va_up f (v_up (bS g) i).length (some (ad i))))) _ (by omega) (ah_ne (by omega) hZ) (ah_ne no ho) (ah_ne nw_ hw) hG' (hL.fz (fz.put rr)) ah_eq (by rw [hl]; exact hf.snoc)
      rw [ah_putput, hll] at ih
      refine ⟨f', hf', ?_⟩
      rw [hd] at ch
      clear hf' hll hl
      generalize (v_up (bS g) i).length = L at *
      repeat (refine ev_st rfl rfl ?_)
      refine ev_callV rfl rfl hG.1 rfl (c_lsize hG.1) ?_
      refine ev_icF rfl (by simp only [ick, w32]; omega) ?_
      repeat (refine ev_st rfl rfl ?_)
      refine ev_callV rfl rfl ho rfl ch ?_
      refine ev_zeqF rfl rfl ?_
      iterate 1 (refine ev_st rfl rfl ?_)
      refine ev_getf rfl hZ (by rfl) ?_
      iterate 3 (refine ev_st rfl rfl ?_)
      refine ev_callV rfl rfl hG.1 rfl cf ?_
      refine ev_aastS rfl hr hE hlen (by omega) ?_
      iterate 3 (refine ev_st rfl rfl ?_)
      rw [nat_1, nat_1]
      exact ih
theorem c_list {h : AH} {Z lo m o w : Nat} {g : Nat → BitVec 64} {f : Nat → Option Nat} {R : Nat → Prop} {ad : Nat → Nat} {N : Nat} {E : EL} (hN : N ≤ 400) (nl : lo ≠ Z + 16) (nm : m ≠ Z + 16) (no : o ≠ Z + 16) (nw_ : w ≠ Z + 16) (rr : ¬ R (Z + 16)) (hZ : h.2.2 Z = some (cRes Z)) (ho : h.2.2 o = some (cSet w)) (hw : h.2.2 w = some (cLng g)) (hG : lgR h lo m N ad) (hL : LG h R ad N E) (hr : h.2.2 (Z + 16) = some (cEa 400 f)) : ∃ f', lsR ad (v_up (bS g) N) f' ∧ Em mResolver_list 2 [vR Z, vR o, vR lo] h (some (.inl ((v_up (bS g) N).length : Int))) (ah_put h (Z + 16) (cEa 400 f')) := by
  obtain ⟨f', hf', hE⟩ := l_list hN nl nm no nw_ rr N 0 h f (Nat.zero_add _) hZ ho hw hG hL hr (fun i hi => absurd hi (Nat.not_lt_zero _))
  refine ⟨f', hf', ?_⟩
  show Ev tResolver_list 0 [some (vR Z), some (vR o), some (vR lo), none, none] [] h _
  iterate 4 (refine ev_st rfl rfl ?_)
  exact hE
set_option maxHeartbeats 2000000 in
theorem c_isAhead {h : AH} {R : Nat → Prop} {ad : Nat → Nat} {N : Nat} {E : EL} (hL : LG h R ad N E) (hW : WE N E) (hO : ∀ n, n < N → sOK N E (e_ow (E n))) {a b : Nat} (ha : a < N) (hb : b < N) : Em mResolver_isAhead 0 [vR (ad a), vR (ad b)] h (some (vB (r_first E a b))) h := by
  obtain ⟨c, pa, gr, lv, er, bh, hc, -⟩ := evR.cell hL ha
  obtain ⟨c', pa', gr', lv', er', bh', hc', -⟩ := evR.cell hL hb
  have co := c_isOlder hc (hW a ha).2.2.2.2.2.2.1 hc' (hW b hb).2.2.2.2.2.2.1
  have ra : -100 ≤ m_lev E (e_ow (E a)) (e_sd (E a)) ∧ m_lev E (e_ow (E a)) (e_sd (E a)) ≤ 100 := by
    have w := (hW a ha).1
    have := lev_rng hW (hO a ha) (u := (e_sd (E a)).toNat) (by omega)
    rw [show (((e_sd (E a)).toNat : Nat) : Int) = e_sd (E a) by omega] at this
    exact this
  have rb : -100 ≤ m_lev E (e_ow (E b)) (e_sd (E b)) ∧ m_lev E (e_ow (E b)) (e_sd (E b)) ≤ 100 := by
    have w := (hW b hb).1
    have := lev_rng hW (hO b hb) (u := (e_sd (E b)).toNat) (by omega)
    rw [show (((e_sd (E b)).toNat : Nat) : Int) = e_sd (E b) by omega] at this
    exact this
  unfold r_first r_old e_sl
  show Ev tResolver_isAhead 0 [some (vR (ad a)), some (vR (ad b))] [] h _
  repeat (first | refine ev_st rfl rfl ?_ | refine ev_getf rfl (by first | assumption | exact ah_eq | (refine ah_ne (by omega) ?_; first | assumption | exact ah_eq | (refine ah_ne (by omega) ?_; first | assumption | exact ah_eq | (refine ah_ne (by omega) ?_; first | assumption | exact ah_eq)))) (by rfl) ?_)
  generalize m_lev E (e_ow (E a)) (e_sd (E a)) = x at *
  generalize m_lev E (e_ow (E b)) (e_sd (E b)) = y at *
  by_cases h1 : x = y
  · rw [if_pos h1]
    refine ev_icT rfl (by simp only [ick, w32]; omega) ?_
    repeat (refine ev_st rfl rfl ?_)
    refine ev_callV rfl rfl hc rfl co ?_
    cases (if e_tm (E a) = e_tm (E b) then decide (e_id a < e_id b) else decide (e_tm (E a) < e_tm (E b))) <;> exact ev_rt rfl rfl rfl
  · rw [if_neg h1]
    by_cases h2 : y < x
    · rw [decide_eq_true h2]
      repeat (first | refine ev_st rfl rfl ?_ | refine ev_getf rfl (by first | assumption | exact ah_eq | (refine ah_ne (by omega) ?_; first | assumption | exact ah_eq | (refine ah_ne (by omega) ?_; first | assumption | exact ah_eq | (refine ah_ne (by omega) ?_; first | assumption | exact ah_eq)))) (by rfl) ?_ | refine ev_ifT rfl (by simp only [ick, w32]; omega) ?_ | refine ev_ifF rfl (by simp only [ick, w32]; omega) ?_ | refine ev_icT rfl (by simp only [ick, w32]; omega) ?_ | refine ev_icF rfl (by simp only [ick, w32]; omega) ?_)
      exact ev_rt rfl rfl rfl
    · rw [decide_eq_false h2]
      repeat (first | refine ev_st rfl rfl ?_ | refine ev_getf rfl (by first | assumption | exact ah_eq | (refine ah_ne (by omega) ?_; first | assumption | exact ah_eq | (refine ah_ne (by omega) ?_; first | assumption | exact ah_eq | (refine ah_ne (by omega) ?_; first | assumption | exact ah_eq)))) (by rfl) ?_ | refine ev_ifT rfl (by simp only [ick, w32]; omega) ?_ | refine ev_ifF rfl (by simp only [ick, w32]; omega) ?_ | refine ev_icT rfl (by simp only [ick, w32]; omega) ?_ | refine ev_icF rfl (by simp only [ick, w32]; omega) ?_)
      exact ev_rt rfl rfl rfl

