-- Resolver: findAgreed, findConflict, partPowers
def rz (Z : Nat) (h h' : AH) : Prop := sm Z 19 h h' ∧ h'.2.2 (Z + 1) = h.2.2 (Z + 1) ∧ h'.2.2 (Z + 2) = h.2.2 (Z + 2)
theorem rz_rf {Z : Nat} {h : AH} : rz Z h h := ⟨sm.rf, rfl, rfl⟩
theorem rz_tr {Z : Nat} {h h1 h2 : AH} (p : rz Z h h1) (q : rz Z h1 h2) : rz Z h h2 := ⟨p.1.tr q.1, q.2.1.trans p.2.1, q.2.2.trans p.2.2⟩
theorem rz_put {Z : Nat} {h : AH} {i : Nat} {e : AE} (h1 : i < 19) (h2 : i ≠ 1) (h3 : i ≠ 2) : rz Z h (ah_put h (Z + i) e) := ⟨sm.put (by omega) (by omega), ah_ne (by omega) rfl, ah_ne (by omega) rfl⟩
theorem rz_fz {Z : Nat} {h h' : AH} {R : Nat → Prop} (q : rz Z h h') (hR : rsN R Z) : fz R h h' := sm_fzr q.1 q.2.1 q.2.2 hR
theorem lgR_rz {h h' : AH} {lo m N Z : Nat} {ad : Nat → Nat} (q : lgR h lo m N ad) (s : rz Z h h') (h1 : ¬ (Z ≤ lo ∧ lo < Z + 19)) (h2 : ¬ (Z ≤ m ∧ m < Z + 19)) : lgR h' lo m N ad := q.sm s.1 h1 h2
theorem LG_inj {h : AH} {R : Nat → Prop} {ad : Nat → Nat} {N : Nat} {E : EL} (hL : LG h R ad N E) {a b : Nat} (ha : a < N) (hb : b < N) (he : ad a = ad b) : a = b := by
  obtain ⟨c, pa, gr, lv, er, bh, hc, -⟩ := evR.cell hL ha
  obtain ⟨c', pa', gr', lv', er', bh', hc', -⟩ := evR.cell hL hb
  rw [he, hc'] at hc
  have := Option.some.inj hc
  injection this with e1
  injection e1 with _ e2
  injection e2 with e3
  injection e3 with e4
  omega
theorem LG_bh {h : AH} {R : Nat → Prop} {ad : Nat → Nat} {N : Nat} {E : EL} (hL : LG h R ad N E) {n : Nat} (hn : n < N) : ∃ c pa gr sl lv er bh gd, h.2.2 (ad n) = some (cEv n (E n) c pa gr sl lv er (some bh) gd) ∧ stF h R ad bh (e_bh E n) := by
  obtain ⟨-, c, pa, gr, lv, er, bh, q1, -, -, -, -, -, q7⟩ := hL n hn
  exact ⟨c, pa, some gr, _, lv, some er, bh, _, q1, q7⟩
theorem oa_eq {h : AH} {R : Nat → Prop} {ad : Nat → Nat} {N : Nat} {E : EL} (hL : LG h R ad N E) {x y : Int} (hx : x = -1 ∨ ∃ n, n < N ∧ x = (n : Int)) (hy : y = -1 ∨ ∃ n, n < N ∧ y = (n : Int)) : oa ad x = oa ad y ↔ x = y := by
  rcases hx with rfl | ⟨a, ha, rfl⟩
  · rcases hy with rfl | ⟨b, hb, rfl⟩
    · simp
    · rw [oa_none rfl, oa_some (n := b) rfl]; constructor
      · intro q; cases q
      · intro q; omega
  · rcases hy with rfl | ⟨b, hb, rfl⟩
    · rw [oa_none rfl, oa_some (n := a) rfl]; constructor
      · intro q; cases q
      · intro q; omega
    · rw [oa_some (n := a) rfl, oa_some (n := b) rfl]
      constructor
      · intro q
        rw [LG_inj hL ha hb (Option.some.inj q)]
      · intro q
        rw [show a = b by omega]
theorem r_agr_snoc {E : EL} {l : List Nat} (hl : l ≠ []) (j p : Nat) : r_agr E (l ++ [j]) p = if r_agr E l p = e_bh E j p then r_agr E l p else -1 := by
  cases l with
  | nil => exact absurd rfl hl
  | cons i r =>
    simp only [r_agr, List.cons_append, List.all_append, List.all_cons, List.all_nil, Bool.and_true]
    by_cases ha : r.all (fun j => decide (e_bh E j p = e_bh E i p)) = true
    · simp only [ha, Bool.true_and, cond_true]
      by_cases hq : e_bh E j p = e_bh E i p
      · rw [decide_eq_true hq, if_pos hq.symm]; rfl
      · rw [decide_eq_false hq, if_neg (fun z => hq z.symm)]; rfl
    · have ha : r.all (fun j => decide (e_bh E j p = e_bh E i p)) = false := by rw [← Bool.not_eq_true]; exact ha
      simp only [ha, Bool.false_and, cond_false]
      split <;> rfl
-- states behind the log's events are states
def BW (N : Nat) (E : EL) : Prop := ∀ n, n < N → sOK N E (e_bh E n)
theorem agr_rng {N : Nat} {E : EL} (hB : BW N E) {l : List Nat} (hl : ∀ n ∈ l, n < N) (p : Nat) : r_agr E l p = -1 ∨ ∃ n, n < N ∧ r_agr E l p = (n : Int) := by
  cases l with
  | nil => exact Or.inl rfl
  | cons i r =>
    simp only [r_agr]
    cases r.all (fun j => decide (e_bh E j p = e_bh E i p)) with
    | false => exact Or.inl rfl
    | true =>
      rcases (hB i (hl i List.mem_cons_self)).at p with h1 | ⟨n, hn, h1, -⟩
      · exact Or.inl h1
      · exact Or.inr ⟨n, hn, h1⟩
theorem agr_ok {N : Nat} {E : EL} (hB : BW N E) {l : List Nat} (hl : ∀ n ∈ l, n < N) : sOK N E (r_agr E l) := by
  cases l with
  | nil => exact ⟨fun p _ => Or.inl rfl, fun p _ => rfl⟩
  | cons i r =>
    have h0 := hB i (hl i List.mem_cons_self)
    constructor
    · intro p hp
      simp only [r_agr]
      cases r.all (fun j => decide (e_bh E j p = e_bh E i p)) with
      | false => exact Or.inl rfl
      | true => exact h0.1 p hp
    · intro p hp
      simp only [r_agr]
      cases r.all (fun j => decide (e_bh E j p = e_bh E i p)) with
      | false => rfl
      | true => exact h0.2 p hp
theorem getD_mem {l : List Nat} {i : Nat} (h : i < l.length) : l.getD i 0 ∈ l := by
  rw [List.getD_eq_getElem?_getD, List.getElem?_eq_getElem h]
  exact List.getElem_mem h
theorem take_snoc {l : List Nat} {i : Nat} (h : i < l.length) : l.take (i + 1) = l.take i ++ [l.getD i 0] := by
  rw [List.getD_eq_getElem?_getD, List.getElem?_eq_getElem h, List.take_succ_eq_append_getElem h]
  rfl
section AG
variable {R : Nat → Prop} {ad : Nat → Nat} {N Z ra len : Nat} {E : EL} {L : List Nat} {rf : Nat → Option Nat}
set_option maxHeartbeats 4000000 in
theorem l_agreed (hB : BW N E) (hZR : rsN R Z) (hl : ∀ n ∈ L, n < N) (hlen : L.length ≤ len) (hlen2 : len ≤ 400) (nr : ra ≠ Z + 4) (hrf : lsR ad L rf) : ∀ (k i : Nat) (h : AH) (f : Nat → Option Nat), i + k = L.length → 1 ≤ i → h.2.2 Z = some (cRes Z) → h.2.2 (Z + 3) = some (cSt (Z + 4)) → h.2.2 (Z + 4) = some (cEa 23 f) → h.2.2 ra = some (cEa len rf) → LG h R ad N E → (∀ j, j < 23 → f j = oa ad (r_agr E (L.take i) (pi_ j))) → ∃ f', (∀ j, j < 23 → f' j = oa ad (r_agr E L (pi_ j))) ∧ Ev tResolver_findAgreed 15 [some (vR Z), some (vR ra), some (.inl (L.length : Int)), some (.inl (i : Int))] [] h (none, ah_put h (Z + 4) (cEa 23 f')) := by
  intro k
  induction k with
  | zero =>
    intro i h f hi h1 hZ h3 h4 hr hL hf
    refine ⟨f, ?_, ?_⟩
    · rw [show L.take i = L from List.take_of_length_le (by omega)] at hf
      exact hf
    · rw [ah_same h4]
      repeat (first | refine ev_st rfl rfl ?_ | refine ev_getf rfl (by first | assumption | exact ah_eq | (refine ah_ne (by omega) ?_; first | assumption | exact ah_eq | (refine ah_ne (by omega) ?_; first | assumption | exact ah_eq | (refine ah_ne (by omega) ?_; first | assumption | exact ah_eq)))) (by rfl) ?_ | refine ev_ifT rfl (by simp only [ick, w32]; omega) ?_ | refine ev_ifF rfl (by simp only [ick, w32]; omega) ?_ | refine ev_icT rfl (by simp only [ick, w32]; omega) ?_ | refine ev_icF rfl (by simp only [ick, w32]; omega) ?_)
      exact ev_rt rfl rfl rfl
  | succ k ih =>
    intro i h f hi h1 hZ h3 h4 hr hL hf
    have hi' : i < L.length := by omega
    have hn := hl _ (getD_mem hi')
    obtain ⟨c, pa, gr, sl, lv, er, bh, gd, hc, p2, f2, ⟨r1, r2⟩, b1, b2, b3⟩ := LG_bh hL hn
    have np : p2 ≠ Z + 4 := fun q => hZR 4 (by omega) (by omega) (by omega) (q ▸ r2)
    have hs2 := (hB _ hn)
    have ck := c_stkeepSame h3 h4 b1 b2 np (fun j hj x hx => by
      rw [b3 j hj] at hx
      rcases hs2.at (pi_ j) with e | ⟨m, hm, e, -⟩
      · rw [oa_none e] at hx; cases hx
      · rw [oa_some e] at hx; cases hx; exact hL.isE hm)
    have hne : L.take i ≠ [] := by
      intro q
      have := congrArg List.length q
      rw [List.length_take, List.length_nil] at this
      omega
    have hf2 : ∀ j, j < 23 → fill 23 (fun j => if f j = f2 j then f j else none) f j = oa ad (r_agr E (L.take (i + 1)) (pi_ j)) := by
      intro j hj
      rw [take_snoc hi', r_agr_snoc hne]
      simp only [fill, if_pos hj]
      rw [hf j hj, b3 j hj]
      have hx := agr_rng hB (l := L.take i) (fun n hn => hl n (List.mem_of_mem_take hn)) (pi_ j)
      have hy : e_bh E (L.getD i 0) (pi_ j) = -1 ∨ ∃ n, n < N ∧ e_bh E (L.getD i 0) (pi_ j) = (n : Int) := by
        rcases hs2.at (pi_ j) with e | ⟨m, hm, e, -⟩
        · exact Or.inl e
        · exact Or.inr ⟨m, hm, e⟩
      have hiff := oa_eq hL hx hy
      by_cases hq : r_agr E (L.take i) (pi_ j) = e_bh E (L.getD i 0) (pi_ j)
      · rw [if_pos hq, if_pos (hiff.2 hq)]
      · rw [if_neg hq, if_neg (fun z => hq (hiff.1 z))]; rfl
    obtain ⟨f', hf', ih⟩ := ih (i + 1) (ah_put h (Z + 4) (cEa 23 (fill 23 (fun j => if f j = f2 j then f j else none) f))) _ (by omega) (by omega) (ah_ne (by omega) hZ) (ah_ne (by omega) h3) ah_eq (ah_ne nr hr) (hL.fz (fz.put (hZR 4 (by omega) (by omega) (by omega)))) hf2
    rw [ah_putput] at ih
    refine ⟨f', hf', ?_⟩
    have e1 := hrf i hi'
    clear hf' hf2 hf
    repeat (first | refine ev_st rfl rfl ?_ | refine ev_getf rfl (by first | assumption | exact ah_eq | (refine ah_ne (by omega) ?_; first | assumption | exact ah_eq | (refine ah_ne (by omega) ?_; first | assumption | exact ah_eq | (refine ah_ne (by omega) ?_; first | assumption | exact ah_eq)))) (by rfl) ?_ | refine ev_ifT rfl (by simp only [ick, w32]; omega) ?_ | refine ev_ifF rfl (by simp only [ick, w32]; omega) ?_ | refine ev_icT rfl (by simp only [ick, w32]; omega) ?_ | refine ev_icF rfl (by simp only [ick, w32]; omega) ?_)
    refine ev_aaldN rfl (by first | assumption | exact ah_eq | (refine ah_ne (by omega) ?_; first | assumption | exact ah_eq | (refine ah_ne (by omega) ?_; first | assumption | exact ah_eq | (refine ah_ne (by omega) ?_; first | assumption | exact ah_eq)))) (by omega) (by omega) ?_
    rw [e1]
    refine ev_getf rfl hc (by rfl) ?_
    refine ev_callV rfl rfl h3 rfl ck ?_
    iterate 2 (refine ev_st rfl rfl ?_)
    rw [nat_1]
    exact ih
theorem c_findAgreed {h : AH} {f : Nat → Option Nat} (hB : BW N E) (hZR : rsN R Z) (hl : ∀ n ∈ L, n < N) (h0 : L ≠ []) (hlen : L.length ≤ len) (hlen2 : len ≤ 400) (nr : ra ≠ Z + 4) (hrf : lsR ad L rf) (hZ : h.2.2 Z = some (cRes Z)) (h3 : h.2.2 (Z + 3) = some (cSt (Z + 4))) (h4 : h.2.2 (Z + 4) = some (cEa 23 f)) (hr : h.2.2 ra = some (cEa len rf)) (hL : LG h R ad N E) : ∃ f', (∀ j, j < 23 → f' j = oa ad (r_agr E L (pi_ j))) ∧ Em mResolver_findAgreed 1 [vR Z, vR ra, .inl (L.length : Int)] h none (ah_put h (Z + 4) (cEa 23 f')) := by
  have hi' : 0 < L.length := List.length_pos_iff.2 h0
  have hn := hl _ (getD_mem hi')
  obtain ⟨c, pa, gr, sl, lv, er, bh, gd, hc, p2, f2, ⟨r1, r2⟩, b1, b2, b3⟩ := LG_bh hL hn
  have np : p2 ≠ Z + 4 := fun q => hZR 4 (by omega) (by omega) (by omega) (q ▸ r2)
  have hs2 := (hB _ hn)
  have ck := c_stcopy h3 h4 b1 b2 np (fun j hj x hx => by
    rw [b3 j hj] at hx
    rcases hs2.at (pi_ j) with e | ⟨m, hm, e, -⟩
    · rw [oa_none e] at hx; cases hx
    · rw [oa_some e] at hx; cases hx; exact hL.isE hm)
  obtain ⟨f', hf', hE⟩ := l_agreed hB hZR hl hlen hlen2 nr hrf (L.length - 1) 1 (ah_put h (Z + 4) (cEa 23 (fill 23 (fun j => f2 j) f))) _ (by omega) (Nat.le_refl _) (ah_ne (by omega) hZ) (ah_ne (by omega) h3) ah_eq (ah_ne nr hr) (hL.fz (fz.put (hZR 4 (by omega) (by omega) (by omega)))) (fun j hj => by
    rw [take_snoc hi', List.take_zero]
    simp only [fill, if_pos hj, List.nil_append, r_agr, List.all_nil, cond_true]
    exact b3 j hj)
  rw [ah_putput] at hE
  refine ⟨f', hf', ?_⟩
  show Ev tResolver_findAgreed 0 [some (vR Z), some (vR ra), some (.inl (L.length : Int)), none] [] h _
  have e1 := hrf 0 hi'
  clear hf'
  repeat (first | refine ev_st rfl rfl ?_ | refine ev_getf rfl (by first | assumption | exact ah_eq | (refine ah_ne (by omega) ?_; first | assumption | exact ah_eq | (refine ah_ne (by omega) ?_; first | assumption | exact ah_eq | (refine ah_ne (by omega) ?_; first | assumption | exact ah_eq)))) (by rfl) ?_ | refine ev_ifT rfl (by simp only [ick, w32]; omega) ?_ | refine ev_ifF rfl (by simp only [ick, w32]; omega) ?_ | refine ev_icT rfl (by simp only [ick, w32]; omega) ?_ | refine ev_icF rfl (by simp only [ick, w32]; omega) ?_)
  refine ev_aald 0 rfl hr (by decide) (by omega) ?_
  rw [e1]
  refine ev_getf rfl hc (by rfl) ?_
  refine ev_callV rfl rfl h3 rfl ck ?_
  iterate 2 (refine ev_st rfl rfl ?_)
  exact hE
end AG

section CF
variable {R : Nat → Prop} {ad : Nat → Nat} {N Z ra len : Nat} {E : EL} {L : List Nat} {rf : Nat → Option Nat}
set_option maxHeartbeats 4000000 in
theorem l_conf1 (hN : N ≤ 400) (hB : BW N E) (hZR : rsN R Z) (hl : ∀ n ∈ L, n < N) (hlen : L.length ≤ len) (hlen2 : len ≤ 400) (nr : ra ≠ Z + 8 ∧ ra ≠ Z + 10 ∧ ra ≠ Z + 12) (hrf : lsR ad L rf) {fa ft tp ls qu : Nat → Option Nat} {gp : Nat → BitVec 64} {rk : Nat → Int} : ∀ (k i : Nat) (h : AH) (gc gs gx : Nat → BitVec 64), i + k = L.length → rsR h Z fa ft gc gs gx gp tp ls qu rk → h.2.2 ra = some (cEa len rf) → LG h R ad N E → (∀ y, bS gc y = (L.take i).any (fun n => r_full E n y)) → (1 ≤ i → ∀ y, bS gs y = (L.take i).all (fun n => r_full E n y)) → ∃ h' gc' gs' gx', rsR h' Z fa ft gc' gs' gx' gp tp ls qu rk ∧ rz Z h h' ∧ h'.2.2 ra = some (cEa len rf) ∧ (∀ y, bS gc' y = L.any (fun n => r_full E n y)) ∧ (1 ≤ L.length → ∀ y, bS gs' y = L.all (fun n => r_full E n y)) ∧ ∀ o, Ev tResolver_findConflict 80 [some (vR Z), some (vR ra), some (.inl (L.length : Int)), some (.inl (L.length : Int))] [] h' o → Ev tResolver_findConflict 9 [some (vR Z), some (vR ra), some (.inl (L.length : Int)), some (.inl (i : Int))] [] h o := by
  intro k
  induction k with
  | zero =>
    intro i h gc gs gx hi q hr hL h1 h2
    obtain rfl : i = L.length := by omega
    rw [List.take_of_length_le (Nat.le_refl _)] at h1 h2
    refine ⟨h, gc, gs, gx, q, rz_rf, hr, h1, h2, fun o K => ?_⟩
    clear h1 h2
    iterate 2 (refine ev_st rfl rfl ?_)
    refine ev_icT rfl (by simp only [ick, w32]; omega) ?_
    exact K
  | succ k ih =>
    intro i h gc gs gx hi q hr hL h1 h2
    have hi' : i < L.length := by omega
    have hn := hl _ (getD_mem hi')
    -- chain.clear
    obtain ⟨g1, c1, e1⟩ := c_clear q.c11 q.c12
    have z1 := rz_put (Z := Z) (h := h) (i := 12) (e := cLng g1) (by omega) (by omega) (by omega)
    have qq1 := q.u_gx (z := g1)
    have hL1 := hL.fz (rz_fz z1 hZR)
    -- addChainTo
    obtain ⟨c, pa, gr, sl, lv, er, bh, gd, hc, hbh⟩ := LG_bh hL1 hn
    obtain ⟨g2, c2, e2⟩ := c_addChain hbh.toR hL1 hN (hB _ hn) (hZR 12 (by omega) (by omega) (by omega)) qq1.c11 qq1.c12
    rw [ah_putput] at c2
    have qq2 := q.u_gx (z := g2)
    have z2 := rz_put (Z := Z) (h := h) (i := 12) (e := cLng g2) (by omega) (by omega) (by omega)
    have hg2 : ∀ y, bS g2 y = r_full E (L.getD i 0) y := fun y => by rw [e2 y, e1 y, Bool.false_or]; rfl
    obtain ⟨pb, fb, -, hb1, -⟩ := hbh
    -- conflict.addAll
    obtain ⟨g3, c3, e3⟩ := c_addAll qq2.c7 qq2.c8 qq2.c11 qq2.c12 (by omega)
    have qq3 := qq2.u_gc (z := g3)
    have z3 := rz_tr z2 (rz_put (Z := Z) (i := 8) (e := cLng g3) (by omega) (by omega) (by omega))
    have hnew : ∀ y, bS g3 y = (L.take (i + 1)).any (fun n => r_full E n y) := fun y => by
      rw [e3 y, h1 y, hg2 y, take_snoc hi']
      simp
    have pre : ∀ o, Ev tResolver_findConflict 45 [some (vR Z), some (vR ra), some (.inl (L.length : Int)), some (.inl (i : Int))] [] (ah_put (ah_put h (Z + 12) (cLng g2)) (Z + 8) (cLng g3)) o → Ev tResolver_findConflict 9 [some (vR Z), some (vR ra), some (.inl (L.length : Int)), some (.inl (i : Int))] [] h o := by
      intro o K
      have er := hrf i hi'
      have hZ := q.c0
      clear h1 h2 hnew hg2 e1 e2 e3
      iterate 2 (refine ev_st rfl rfl ?_)
      refine ev_icF rfl (by simp only [ick, w32]; omega) ?_
      iterate 1 (refine ev_st rfl rfl ?_)
      refine ev_getf rfl hZ (by rfl) ?_
      refine ev_callV rfl rfl q.c11 rfl c1 ?_
      iterate 2 (refine ev_st rfl rfl ?_)
      refine ev_aaldN rfl (ah_ne nr.2.2 hr) (by omega) (by omega) ?_
      rw [er]
      refine ev_getf rfl hc (by rfl) ?_
      iterate 1 (refine ev_st rfl rfl ?_)
      refine ev_getf rfl qq1.c0 (by rfl) ?_
      refine ev_callV rfl rfl hb1 rfl c2 ?_
      iterate 1 (refine ev_st rfl rfl ?_)
      refine ev_getf rfl qq2.c0 (by rfl) ?_
      iterate 1 (refine ev_st rfl rfl ?_)
      refine ev_getf rfl qq2.c0 (by rfl) ?_
      refine ev_callV rfl rfl qq2.c7 rfl c3 ?_
      exact K
    by_cases hi0 : i = 0
    · obtain ⟨g4, c4, e4⟩ := c_copy qq3.c9 qq3.c10 qq3.c11 qq3.c12 (by omega)
      have qq4 := qq3.u_gs (z := g4)
      have z4 := rz_tr z3 (rz_put (Z := Z) (i := 10) (e := cLng g4) (by omega) (by omega) (by omega))
      obtain ⟨h', gc', gs', gx', a1, a2, a3, a4, a5, ih⟩ := ih (i + 1) _ g3 g4 g2 (by omega) qq4 (ah_ne nr.2.1 (ah_ne nr.1 (ah_ne nr.2.2 hr))) (hL.fz (rz_fz z4 hZR)) hnew (fun _ y => by
        rw [e4 y, hg2 y, take_snoc hi', hi0]
        simp)
      refine ⟨h', gc', gs', gx', a1, rz_tr z4 a2, a3, a4, a5, fun o K => pre o ?_⟩
      have ih := ih o K
      clear h1 h2 hnew hg2 e1 e2 e3 e4 a4 a5 pre K
      iterate 1 (refine ev_st rfl rfl ?_)
      refine ev_ifF rfl (by simp only [ick, w32]; omega) ?_
      iterate 1 (refine ev_st rfl rfl ?_)
      refine ev_getf rfl qq3.c0 (by rfl) ?_
      iterate 1 (refine ev_st rfl rfl ?_)
      refine ev_getf rfl qq3.c0 (by rfl) ?_
      refine ev_callV rfl rfl qq3.c9 rfl c4 ?_
      iterate 3 (refine ev_st rfl rfl ?_)
      rw [nat_1]
      exact ih
    · obtain ⟨g4, c4, e4⟩ := c_keepAll qq3.c9 qq3.c10 qq3.c11 qq3.c12 (by omega)
      have qq4 := qq3.u_gs (z := g4)
      have z4 := rz_tr z3 (rz_put (Z := Z) (i := 10) (e := cLng g4) (by omega) (by omega) (by omega))
      obtain ⟨h', gc', gs', gx', a1, a2, a3, a4, a5, ih⟩ := ih (i + 1) _ g3 g4 g2 (by omega) qq4 (ah_ne nr.2.1 (ah_ne nr.1 (ah_ne nr.2.2 hr))) (hL.fz (rz_fz z4 hZR)) hnew (fun _ y => by
        rw [e4 y, hg2 y, h2 (by omega) y, take_snoc hi']
        simp)
      refine ⟨h', gc', gs', gx', a1, rz_tr z4 a2, a3, a4, a5, fun o K => pre o ?_⟩
      have ih := ih o K
      clear h1 h2 hnew hg2 e1 e2 e3 e4 a4 a5 pre K
      iterate 1 (refine ev_st rfl rfl ?_)
      refine ev_ifT rfl (by simp only [ick, w32]; omega) ?_
      iterate 1 (refine ev_st rfl rfl ?_)
      refine ev_getf rfl qq3.c0 (by rfl) ?_
      iterate 1 (refine ev_st rfl rfl ?_)
      refine ev_getf rfl qq3.c0 (by rfl) ?_
      refine ev_callV rfl rfl qq3.c9 rfl c4 ?_
      iterate 2 (refine ev_st rfl rfl ?_)
      rw [nat_1]
      exact ih
end CF
