-- Resolver: findConflict's second loop and whole, partPowers
section CF2
variable {R : Nat → Prop} {ad : Nat → Nat} {N Z ra len : Nat} {E : EL} {L : List Nat} {rf : Nat → Option Nat}
set_option maxHeartbeats 4000000 in
theorem l_conf2 (hN : N ≤ 400) (hB : BW N E) (hZR : rsN R Z) (hl : ∀ n ∈ L, n < N) (hlen : L.length ≤ len) (hlen2 : len ≤ 400) (nr : ra ≠ Z + 8) (hrf : lsR ad L rf) {fa ft tp ls qu : Nat → Option Nat} {gs gx gp : Nat → BitVec 64} {rk : Nat → Int} {α : SS} (hfa : ∀ j, j < 23 → fa j = oa ad (α (pi_ j))) (g0 : Nat → Bool) : ∀ (k i : Nat) (h : AH) (gc : Nat → BitVec 64), i + k = L.length → rsR h Z fa ft gc gs gx gp tp ls qu rk → h.2.2 ra = some (cEa len rf) → LG h R ad N E → (∀ y, bS gc y = (g0 y || (L.take i).any (fun n => b_any 23 fun p => decide (e_bh E n p = y) && decide (α p < 0)))) → ∃ h' gc', rsR h' Z fa ft gc' gs gx gp tp ls qu rk ∧ rz Z h h' ∧ h'.2.2 ra = some (cEa len rf) ∧ (∀ y, bS gc' y = (g0 y || L.any (fun n => b_any 23 fun p => decide (e_bh E n p = y) && decide (α p < 0)))) ∧ Ev tResolver_findConflict 93 [some (vR Z), some (vR ra), some (.inl (L.length : Int)), some (.inl (i : Int))] [] h (none, h') := by
  intro k
  induction k with
  | zero =>
    intro i h gc hi q hr hL h1
    obtain rfl : i = L.length := by omega
    rw [List.take_of_length_le (Nat.le_refl _)] at h1
    refine ⟨h, gc, q, rz_rf, hr, h1, ?_⟩
    clear h1
    iterate 2 (refine ev_st rfl rfl ?_)
    refine ev_icT rfl (by simp only [ick, w32]; omega) ?_
    exact ev_rt rfl rfl rfl
  | succ k ih =>
    intro i h gc hi q hr hL h1
    have hi' : i < L.length := by omega
    have hn := hl _ (getD_mem hi')
    obtain ⟨c, pa, gr, sl, lv, er, bh, gd, hc, hbh⟩ := LG_bh hL hn
    have hag : stR h ad (Z + 3) α := ⟨Z + 4, fa, q.c3, q.c4, hfa⟩
    obtain ⟨g2, c2, e2⟩ := c_addUnlike hbh.toR hag hL hN (hB _ hn) (hZR 8 (by omega) (by omega) (by omega)) q.c7 q.c8
    have z2 := rz_put (Z := Z) (h := h) (i := 8) (e := cLng g2) (by omega) (by omega) (by omega)
    obtain ⟨pb, fb, -, hb1, -⟩ := hbh
    obtain ⟨h', gc', a1, a2, a3, a4, ih⟩ := ih (i + 1) _ g2 (by omega) q.u_gc (ah_ne nr hr) (hL.fz (rz_fz z2 hZR)) (fun y => by
      rw [e2 y, h1 y, take_snoc hi']
      simp [Bool.or_assoc])
    refine ⟨h', gc', a1, rz_tr z2 a2, a3, a4, ?_⟩
    have er := hrf i hi'
    clear h1 e2 a4
    iterate 2 (refine ev_st rfl rfl ?_)
    refine ev_icF rfl (by simp only [ick, w32]; omega) ?_
    iterate 2 (refine ev_st rfl rfl ?_)
    refine ev_aaldN rfl hr (by omega) (by omega) ?_
    rw [er]
    refine ev_getf rfl hc (by rfl) ?_
    iterate 1 (refine ev_st rfl rfl ?_)
    refine ev_getf rfl q.c0 (by rfl) ?_
    iterate 1 (refine ev_st rfl rfl ?_)
    refine ev_getf rfl q.c0 (by rfl) ?_
    refine ev_callV rfl rfl hb1 rfl c2 ?_
    iterate 2 (refine ev_st rfl rfl ?_)
    rw [nat_1]
    exact ih
set_option maxHeartbeats 4000000 in
theorem c_findConflict {h : AH} (hN : N ≤ 400) (hB : BW N E) (hZR : rsN R Z) (hl : ∀ n ∈ L, n < N) (h0 : L ≠ []) (hlen : L.length ≤ len) (hlen2 : len ≤ 400) (nr : ra ≠ Z + 8 ∧ ra ≠ Z + 10 ∧ ra ≠ Z + 12) (hrf : lsR ad L rf) {fa ft tp ls qu : Nat → Option Nat} {gc gs gx gp : Nat → BitVec 64} {rk : Nat → Int} (q : rsR h Z fa ft gc gs gx gp tp ls qu rk) (hfa : ∀ j, j < 23 → fa j = oa ad (r_agr E L (pi_ j))) (hr : h.2.2 ra = some (cEa len rf)) (hL : LG h R ad N E) : ∃ h' gc' gs' gx', Em mResolver_findConflict 1 [vR Z, vR ra, .inl (L.length : Int)] h none h' ∧ rsR h' Z fa ft gc' gs' gx' gp tp ls qu rk ∧ rz Z h h' ∧ h'.2.2 ra = some (cEa len rf) ∧ ∀ y, bS gc' y = r_conf E L y := by
  obtain ⟨g1, c1, e1⟩ := c_clear q.c7 q.c8
  have z1 := rz_put (Z := Z) (h := h) (i := 8) (e := cLng g1) (by omega) (by omega) (by omega)
  obtain ⟨h2, gc2, gs2, gx2, a1, a2, a3, a4, a5, run1⟩ := l_conf1 hN hB hZR hl hlen hlen2 nr hrf L.length 0 _ g1 gs gx (Nat.zero_add _) (q.u_gc (z := g1)) (ah_ne nr.1 hr) (hL.fz (rz_fz z1 hZR)) (fun y => by rw [e1 y]; rfl) (fun hh => absurd hh (by omega))
  have hpos : 1 ≤ L.length := List.length_pos_iff.2 h0
  obtain ⟨g3, c3, e3⟩ := c_removeAll a1.c7 a1.c8 a1.c9 a1.c10 (by omega)
  have z3 := rz_tr (rz_tr z1 a2) (rz_put (Z := Z) (i := 8) (e := cLng g3) (by omega) (by omega) (by omega))
  obtain ⟨h4, gc4, b1, b2, b3, b4, run2⟩ := l_conf2 hN hB hZR hl hlen hlen2 nr.1 hrf hfa (fun y => L.any (fun n => r_full E n y) && !L.all (fun n => r_full E n y)) L.length 0 _ g3 (Nat.zero_add _) (a1.u_gc (z := g3)) (ah_ne nr.1 a3) (hL.fz (rz_fz z3 hZR)) (fun y => by
    rw [e3 y, a4 y, a5 hpos y]
    simp)
  refine ⟨h4, gc4, gs2, gx2, ?_, b1, rz_tr z3 b2, b3, fun y => ?_⟩
  · show Ev tResolver_findConflict 0 [some (vR Z), some (vR ra), some (.inl (L.length : Int)), none] [] h _
    clear e1 a4 a5 e3 b4
    iterate 1 (refine ev_st rfl rfl ?_)
    refine ev_getf rfl q.c0 (by rfl) ?_
    refine ev_callV rfl rfl q.c7 rfl c1 ?_
    iterate 2 (refine ev_st rfl rfl ?_)
    refine run1 _ ?_
    iterate 1 (refine ev_st rfl rfl ?_)
    refine ev_getf rfl a1.c0 (by rfl) ?_
    iterate 1 (refine ev_st rfl rfl ?_)
    refine ev_getf rfl a1.c0 (by rfl) ?_
    refine ev_callV rfl rfl a1.c7 rfl c3 ?_
    iterate 2 (refine ev_st rfl rfl ?_)
    exact run2
  · rw [b4 y]
    unfold r_conf
    rw [Bool.or_comm]
    congr 2
    rw [List.not_all_eq_any_not]
end CF2
section PP
variable {R : Nat → Prop} {ad : Nat → Nat} {N Z lo m : Nat} {E : EL}
set_option maxHeartbeats 4000000 in
theorem l_part (hN : N ≤ 400) (hZR : rsN R Z) (hW : WE N E) (n1 : ¬ (Z ≤ lo ∧ lo < Z + 19)) (n2 : ¬ (Z ≤ m ∧ m < Z + 19)) {fa ft tp ls qu : Nat → Option Nat} {gc gs gx : Nat → BitVec 64} {rk : Nat → Int} : ∀ (k i : Nat) (h : AH) (gp : Nat → BitVec 64) (j3 : Option AV), i + k = N → rsR h Z fa ft gc gs gx gp tp ls qu rk → lgR h lo m N ad → LG h R ad N E → (∀ y, bS gp y = b_any i (fun f => bS gc f && (e_pow (E f) && (decide (y = f) || e_ch (E f) y)))) → ∃ h' gp' j3', rsR h' Z fa ft gc gs gx gp' tp ls qu rk ∧ rz Z h h' ∧ (∀ y, bS gp' y = b_any N (fun f => bS gc f && (e_pow (E f) && (decide (y = f) || e_ch (E f) y)))) ∧ ∀ o, Ev tResolver_partPowers 74 [some (vR Z), some (vR lo), some (.inl (N : Int)), j3'] [] h' o → Ev tResolver_partPowers 9 [some (vR Z), some (vR lo), some (.inl (i : Int)), j3] [] h o := by
  intro k
  induction k with
  | zero =>
    intro i h gp j3 hi q hG hL h1
    obtain rfl : i = N := by omega
    refine ⟨h, gp, j3, q, rz_rf, h1, fun o K => ?_⟩
    clear h1
    repeat (refine ev_st rfl rfl ?_)
    refine ev_callV rfl rfl hG.1 rfl (c_lsize hG.1) ?_
    refine ev_icT rfl (by simp only [ick, w32]; omega) ?_
    exact K
  | succ k ih =>
    intro i h gp j3 hi q hG hL h1
    have hi' : i < N := by omega
    have ch := c_hasN q.c7 q.c8 (n := i) (by omega)
    have cf := c_find hG hN hi'
    obtain ⟨c, pa, gr, lv, er, bh, hc, ⟨wc, gcc, ⟨rc, rwc⟩, hcc, hwc, hgc⟩, -⟩ := evR.cell hL hi'
    have cpw := c_isPow hc (hW i hi')
    have hskip : (bS gc i && e_pow (E i)) = false → ∀ y, bS gp y = b_any (i + 1) (fun f => bS gc f && (e_pow (E f) && (decide (y = f) || e_ch (E f) y))) := by
      intro hq y
      rw [h1 y]
      simp only [b_any]
      rw [← Bool.and_assoc, hq]
      simp
    cases hcf : bS gc i with
    | false =>
      rw [hcf] at ch
      obtain ⟨h', gp', j3', a1, a2, a3, ih⟩ := ih (i + 1) h gp (some (.inr (.inr none))) (by omega) q hG hL (hskip (by rw [hcf]; rfl))
      refine ⟨h', gp', j3', a1, a2, a3, fun o K => ?_⟩
      have ih := ih o K
      clear h1 hskip a3 K
      repeat (refine ev_st rfl rfl ?_)
      refine ev_callV rfl rfl hG.1 rfl (c_lsize hG.1) ?_
      refine ev_icF rfl (by simp only [ick, w32]; omega) ?_
      iterate 1 (refine ev_st rfl rfl ?_)
      refine ev_getf rfl q.c0 (by rfl) ?_
      iterate 1 (refine ev_st rfl rfl ?_)
      refine ev_callV rfl rfl q.c7 rfl ch ?_
      refine ev_zeqT rfl rfl ?_
      iterate 6 (refine ev_st rfl rfl ?_)
      rw [nat_1]
      exact ih
    | true =>
      rw [hcf] at ch
      cases hpw : e_pow (E i) with
      | false =>
        rw [hpw] at cpw
        obtain ⟨h', gp', j3', a1, a2, a3, ih⟩ := ih (i + 1) h gp (some (vR (ad i))) (by omega) q hG hL (hskip (by rw [hpw]; simp))
        refine ⟨h', gp', j3', a1, a2, a3, fun o K => ?_⟩
        have ih := ih o K
        clear h1 hskip a3 K
        repeat (refine ev_st rfl rfl ?_)
        refine ev_callV rfl rfl hG.1 rfl (c_lsize hG.1) ?_
        refine ev_icF rfl (by simp only [ick, w32]; omega) ?_
        iterate 1 (refine ev_st rfl rfl ?_)
        refine ev_getf rfl q.c0 (by rfl) ?_
        iterate 1 (refine ev_st rfl rfl ?_)
        refine ev_callV rfl rfl q.c7 rfl ch ?_
        refine ev_zeqF rfl rfl ?_
        iterate 2 (refine ev_st rfl rfl ?_)
        refine ev_callV rfl rfl hG.1 rfl cf ?_
        iterate 5 (refine ev_st rfl rfl ?_)
        refine ev_callV rfl rfl hc rfl cpw ?_
        refine ev_zeqT rfl rfl ?_
        iterate 2 (refine ev_st rfl rfl ?_)
        rw [nat_1]
        exact ih
      | true =>
        rw [hpw] at cpw
        obtain ⟨g1, c1, e1⟩ := c_add q.c13 q.c14 (n := i) (by omega)
        have qq1 := q.u_gp (z := g1)
        have z1 := rz_put (Z := Z) (h := h) (i := 14) (e := cLng g1) (by omega) (by omega) (by omega)
        have nc : c ≠ Z + 14 := fun e => hZR 14 (by omega) (by omega) (by omega) (e ▸ rc)
        have nwc : wc ≠ Z + 14 := fun e => hZR 14 (by omega) (by omega) (by omega) (e ▸ rwc)
        have nad : ad i ≠ Z + 14 := fun e => hZR 14 (by omega) (by omega) (by omega) (e ▸ (hL i hi').1)
        obtain ⟨g2, c2, e2⟩ := c_addAll qq1.c13 qq1.c14 (ah_ne nc hcc) (ah_ne nwc hwc) nwc
        rw [ah_putput] at c2
        have qq2 := q.u_gp (z := g2)
        have z2 := rz_put (Z := Z) (h := h) (i := 14) (e := cLng g2) (by omega) (by omega) (by omega)
        obtain ⟨h', gp', j3', a1, a2, a3, ih⟩ := ih (i + 1) _ g2 (some (vR (ad i))) (by omega) qq2 (lgR_rz hG z2 n1 n2) (hL.fz (rz_fz z2 hZR)) (fun y => by
          rw [e2 y, e1, f_on_d, hgc y, h1 y]
          simp only [b_any]
          rw [hcf, hpw]
          cases decide (y = i) <;> cases e_ch (E i) y <;> simp)
        refine ⟨h', gp', j3', a1, rz_tr z2 a2, a3, fun o K => ?_⟩
        have ih := ih o K
        clear h1 hskip a3 K e1 e2
        repeat (refine ev_st rfl rfl ?_)
        refine ev_callV rfl rfl hG.1 rfl (c_lsize hG.1) ?_
        refine ev_icF rfl (by simp only [ick, w32]; omega) ?_
        iterate 1 (refine ev_st rfl rfl ?_)
        refine ev_getf rfl q.c0 (by rfl) ?_
        iterate 1 (refine ev_st rfl rfl ?_)
        refine ev_callV rfl rfl q.c7 rfl ch ?_
        refine ev_zeqF rfl rfl ?_
        iterate 2 (refine ev_st rfl rfl ?_)
        refine ev_callV rfl rfl hG.1 rfl cf ?_
        iterate 5 (refine ev_st rfl rfl ?_)
        refine ev_callV rfl rfl hc rfl cpw ?_
        refine ev_zeqF rfl rfl ?_
        iterate 1 (refine ev_st rfl rfl ?_)
        refine ev_getf rfl q.c0 (by rfl) ?_
        iterate 1 (refine ev_st rfl rfl ?_)
        refine ev_callV rfl rfl q.c13 rfl c1 ?_
        iterate 1 (refine ev_st rfl rfl ?_)
        refine ev_getf rfl qq1.c0 (by rfl) ?_
        iterate 1 (refine ev_st rfl rfl ?_)
        refine ev_getf rfl (ah_ne nad hc) (by rfl) ?_
        refine ev_callV rfl rfl qq1.c13 rfl c2 ?_
        iterate 2 (refine ev_st rfl rfl ?_)
        rw [nat_1]
        exact ih
set_option maxHeartbeats 4000000 in
theorem c_partPowers {h : AH} (hN : N ≤ 400) (hZR : rsN R Z) (hW : WE N E) (n1 : ¬ (Z ≤ lo ∧ lo < Z + 19)) (n2 : ¬ (Z ≤ m ∧ m < Z + 19)) {fa ft tp ls qu : Nat → Option Nat} {gc gs gx gp : Nat → BitVec 64} {rk : Nat → Int} (q : rsR h Z fa ft gc gs gx gp tp ls qu rk) (hG : lgR h lo m N ad) (hL : LG h R ad N E) : ∃ h' gc' gp', Em mResolver_partPowers 2 [vR Z, vR lo] h none h' ∧ rsR h' Z fa ft gc' gs gx gp' tp ls qu rk ∧ rz Z h h' ∧ (∀ y, bS gp' y = r_pow N E (bS gc) y) ∧ ∀ y, bS gc' y = (bS gc y && !r_pow N E (bS gc) y) := by
  obtain ⟨g1, c1, e1⟩ := c_clear q.c13 q.c14
  have z1 := rz_put (Z := Z) (h := h) (i := 14) (e := cLng g1) (by omega) (by omega) (by omega)
  obtain ⟨h2, gp2, j3, a1, a2, a3, run⟩ := l_part hN hZR hW n1 n2 N 0 _ g1 none (Nat.zero_add _) (q.u_gp (z := g1)) (lgR_rz hG z1 n1 n2) (hL.fz (rz_fz z1 hZR)) (fun y => by rw [e1 y]; rfl)
  obtain ⟨g3, c3, e3⟩ := c_keepAll a1.c13 a1.c14 a1.c7 a1.c8 (by omega)
  have qq3 := a1.u_gp (z := g3)
  obtain ⟨g4, c4, e4⟩ := c_removeAll qq3.c7 qq3.c8 qq3.c13 qq3.c14 (by omega)
  have hp : ∀ y, bS g3 y = r_pow N E (bS gc) y := fun y => by
    rw [e3 y, a3 y, Bool.and_comm]
    rfl
  refine ⟨_, g4, g3, ?_, qq3.u_gc, rz_tr (rz_tr (rz_tr z1 a2) (rz_put (Z := Z) (i := 14) (e := cLng g3) (by omega) (by omega) (by omega))) (rz_put (Z := Z) (i := 8) (e := cLng g4) (by omega) (by omega) (by omega)), hp, fun y => by rw [e4 y, hp y]⟩
  show Ev tResolver_partPowers 0 [some (vR Z), some (vR lo), none, none] [] h _
  clear e1 a3 e3 e4 hp
  iterate 1 (refine ev_st rfl rfl ?_)
  refine ev_getf rfl q.c0 (by rfl) ?_
  refine ev_callV rfl rfl q.c13 rfl c1 ?_
  iterate 2 (refine ev_st rfl rfl ?_)
  refine run _ ?_
  iterate 1 (refine ev_st rfl rfl ?_)
  refine ev_getf rfl a1.c0 (by rfl) ?_
  iterate 1 (refine ev_st rfl rfl ?_)
  refine ev_getf rfl a1.c0 (by rfl) ?_
  refine ev_callV rfl rfl a1.c13 rfl c3 ?_
  iterate 1 (refine ev_st rfl rfl ?_)
  refine ev_getf rfl qq3.c0 (by rfl) ?_
  iterate 1 (refine ev_st rfl rfl ?_)
  refine ev_getf rfl qq3.c0 (by rfl) ?_
  refine ev_callV rfl rfl qq3.c7 rfl c4 ?_
  exact ev_rt rfl rfl rfl
end PP
