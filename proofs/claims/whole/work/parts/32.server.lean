-- a server: its object at S, its sets behind it
abbrev cSv (a b c : Nat) (nw : Option Nat) : AE := .inr (5, [.inr (.inr (some a)), .inr (.inr (some b)), .inr (.inr (some c)), .inr (.inr nw)])
def svR (h : AH) (S : Nat) (gk gh gd : Nat → BitVec 64) (nw : Option Nat) : Prop := h.2.2 S = some (cSv (S + 1) (S + 3) (S + 5) nw) ∧ h.2.2 (S + 1) = some (cSet (S + 2)) ∧ h.2.2 (S + 2) = some (cLng gk) ∧ h.2.2 (S + 3) = some (cSet (S + 4)) ∧ h.2.2 (S + 4) = some (cLng gh) ∧ h.2.2 (S + 5) = some (cSet (S + 6)) ∧ h.2.2 (S + 6) = some (cLng gd)
-- nothing but the cells from S to S + n has changed, and nothing was made
def sm (S n : Nat) (h h' : AH) : Prop := h'.1 = h.1 ∧ h'.2.1 = h.2.1 ∧ ∀ a, ¬ (S ≤ a ∧ a < S + n) → h'.2.2 a = h.2.2 a
theorem sm.rf {S n : Nat} {h : AH} : sm S n h h := ⟨rfl, rfl, fun _ _ => rfl⟩
theorem sm.tr {S n : Nat} {h h1 h2 : AH} (p : sm S n h h1) (q : sm S n h1 h2) : sm S n h h2 := ⟨q.1.trans p.1, q.2.1.trans p.2.1, fun a ha => (q.2.2 a ha).trans (p.2.2 a ha)⟩
theorem sm.put {S n a : Nat} {h : AH} {e : AE} (h1 : S ≤ a) (h2 : a < S + n) : sm S n h (ah_put h a e) := ⟨rfl, rfl, fun b hb => ah_ne (by rintro rfl; exact hb ⟨h1, h2⟩) rfl⟩
theorem sm.fz {S n : Nat} {h h' : AH} {R : Nat → Prop} (q : sm S n h h') (hR : ∀ a, S ≤ a → a < S + n → ¬ R a) : fz R h h' := fun a ha => q.2.2 a fun z => hR a z.1 z.2 ha
theorem svR.k {h : AH} {S : Nat} {gk gh gd g' : Nat → BitVec 64} {nw : Option Nat} (q : svR h S gk gh gd nw) : svR (ah_put h (S + 2) (cLng g')) S g' gh gd nw := by
  obtain ⟨q1, q2, q3, q4, q5, q6, q7⟩ := q
  exact ⟨ah_ne (by omega) q1, ah_ne (by omega) q2, ah_eq, ah_ne (by omega) q4, ah_ne (by omega) q5, ah_ne (by omega) q6, ah_ne (by omega) q7⟩
theorem svR.h {h : AH} {S : Nat} {gk gh gd g' : Nat → BitVec 64} {nw : Option Nat} (q : svR h S gk gh gd nw) : svR (ah_put h (S + 4) (cLng g')) S gk g' gd nw := by
  obtain ⟨q1, q2, q3, q4, q5, q6, q7⟩ := q
  exact ⟨ah_ne (by omega) q1, ah_ne (by omega) q2, ah_ne (by omega) q3, ah_ne (by omega) q4, ah_eq, ah_ne (by omega) q6, ah_ne (by omega) q7⟩
theorem svR.d {h : AH} {S : Nat} {gk gh gd g' : Nat → BitVec 64} {nw : Option Nat} (q : svR h S gk gh gd nw) : svR (ah_put h (S + 6) (cLng g')) S gk gh g' nw := by
  obtain ⟨q1, q2, q3, q4, q5, q6, q7⟩ := q
  exact ⟨ah_ne (by omega) q1, ah_ne (by omega) q2, ah_ne (by omega) q3, ah_ne (by omega) q4, ah_ne (by omega) q5, ah_ne (by omega) q6, ah_eq⟩
theorem svR.n {h : AH} {S : Nat} {gk gh gd : Nat → BitVec 64} {nw nw' : Option Nat} (q : svR h S gk gh gd nw) : svR (ah_put h S (cSv (S + 1) (S + 3) (S + 5) nw')) S gk gh gd nw' := by
  obtain ⟨q1, q2, q3, q4, q5, q6, q7⟩ := q
  exact ⟨ah_eq, ah_ne (by omega) q2, ah_ne (by omega) q3, ah_ne (by omega) q4, ah_ne (by omega) q5, ah_ne (by omega) q6, ah_ne (by omega) q7⟩
section SV
variable {h : AH} {S : Nat} {gk gh gd : Nat → BitVec 64} {nw : Option Nat}
theorem c_hasKnown (q : svR h S gk gh gd nw) {n : Int} (hn : InR n) : Em mServer_hasKnown 0 [vR S, .inl n] h (some (vB (decide (0 ≤ n ∧ n < 400) && bS gk n.toNat))) h := by
  obtain ⟨q1, q2, q3, q4, q5, q6, q7⟩ := q
  show Ev tServer_hasKnown 0 [some (vR S), some (.inl n)] [] h _
  repeat (first | refine ev_st rfl rfl ?_ | refine ev_getf rfl (by first | assumption | exact ah_eq | (refine ah_ne (by omega) ?_; first | assumption | exact ah_eq | (refine ah_ne (by omega) ?_; first | assumption | exact ah_eq | (refine ah_ne (by omega) ?_; first | assumption | exact ah_eq)))) (by rfl) ?_)
  refine ev_callV rfl rfl q2 rfl (c_has q2 q3 hn) ?_
  cases (decide (0 ≤ n ∧ n < 400) && bS gk n.toNat) <;> exact ev_rt rfl rfl rfl
theorem c_isHolding (q : svR h S gk gh gd nw) {n : Int} (hn : InR n) : Em mServer_isHolding 0 [vR S, .inl n] h (some (vB (decide (0 ≤ n ∧ n < 400) && bS gh n.toNat))) h := by
  obtain ⟨q1, q2, q3, q4, q5, q6, q7⟩ := q
  show Ev tServer_isHolding 0 [some (vR S), some (.inl n)] [] h _
  repeat (first | refine ev_st rfl rfl ?_ | refine ev_getf rfl (by first | assumption | exact ah_eq | (refine ah_ne (by omega) ?_; first | assumption | exact ah_eq | (refine ah_ne (by omega) ?_; first | assumption | exact ah_eq | (refine ah_ne (by omega) ?_; first | assumption | exact ah_eq)))) (by rfl) ?_)
  refine ev_callV rfl rfl q4 rfl (c_has q4 q5 hn) ?_
  cases (decide (0 ≤ n ∧ n < 400) && bS gh n.toNat) <;> exact ev_rt rfl rfl rfl
theorem c_knownCount (q : svR h S gk gh gd nw) : Em mServer_knownCount 0 [vR S] h (some (.inl ((b_cnt 448 (bS gk) : Nat) : Int))) h := by
  obtain ⟨q1, q2, q3, q4, q5, q6, q7⟩ := q
  show Ev tServer_knownCount 0 [some (vR S)] [] h _
  repeat (first | refine ev_st rfl rfl ?_ | refine ev_getf rfl (by first | assumption | exact ah_eq | (refine ah_ne (by omega) ?_; first | assumption | exact ah_eq | (refine ah_ne (by omega) ?_; first | assumption | exact ah_eq | (refine ah_ne (by omega) ?_; first | assumption | exact ah_eq)))) (by rfl) ?_)
  refine ev_callV rfl rfl q2 rfl (c_ssize q2 q3) ?_
  exact ev_rt rfl rfl rfl
theorem c_heldCount (q : svR h S gk gh gd nw) : Em mServer_heldCount 0 [vR S] h (some (.inl ((b_cnt 448 (bS gh) : Nat) : Int))) h := by
  obtain ⟨q1, q2, q3, q4, q5, q6, q7⟩ := q
  show Ev tServer_heldCount 0 [some (vR S)] [] h _
  repeat (first | refine ev_st rfl rfl ?_ | refine ev_getf rfl (by first | assumption | exact ah_eq | (refine ah_ne (by omega) ?_; first | assumption | exact ah_eq | (refine ah_ne (by omega) ?_; first | assumption | exact ah_eq | (refine ah_ne (by omega) ?_; first | assumption | exact ah_eq)))) (by rfl) ?_)
  refine ev_callV rfl rfl q4 rfl (c_ssize q4 q5) ?_
  exact ev_rt rfl rfl rfl
theorem c_headCount (q : svR h S gk gh gd nw) : Em mServer_headCount 0 [vR S] h (some (.inl ((b_cnt 448 (bS gd) : Nat) : Int))) h := by
  obtain ⟨q1, q2, q3, q4, q5, q6, q7⟩ := q
  show Ev tServer_headCount 0 [some (vR S)] [] h _
  repeat (first | refine ev_st rfl rfl ?_ | refine ev_getf rfl (by first | assumption | exact ah_eq | (refine ah_ne (by omega) ?_; first | assumption | exact ah_eq | (refine ah_ne (by omega) ?_; first | assumption | exact ah_eq | (refine ah_ne (by omega) ?_; first | assumption | exact ah_eq)))) (by rfl) ?_)
  refine ev_callV rfl rfl q6 rfl (c_ssize q6 q7) ?_
  exact ev_rt rfl rfl rfl
theorem c_canFollow (q : svR h S gk gh gd nw) {n : Int} (hn : InR n) : Em mServer_canFollow 0 [vR S, .inl n] h (some (vB (decide (n = -1) || (decide (0 ≤ n ∧ n < 400) && bS gk n.toNat)))) h := by
  obtain ⟨q1, q2, q3, q4, q5, q6, q7⟩ := q
  have ch := c_has q2 q3 hn
  unfold InR at hn
  show Ev tServer_canFollow 0 [some (vR S), some (.inl n)] [] h _
  repeat (refine ev_st rfl rfl ?_)
  by_cases h1 : n = -1
  · rw [decide_eq_true h1]
    refine ev_icT rfl (by simp only [ick, w32]; omega) ?_
    repeat (refine ev_st rfl rfl ?_)
    exact ev_rt rfl rfl rfl
  · rw [decide_eq_false h1, Bool.false_or]
    refine ev_icF rfl (by simp only [ick, w32]; omega) ?_
    repeat (first | refine ev_st rfl rfl ?_ | refine ev_getf rfl (by first | assumption | exact ah_eq | (refine ah_ne (by omega) ?_; first | assumption | exact ah_eq | (refine ah_ne (by omega) ?_; first | assumption | exact ah_eq | (refine ah_ne (by omega) ?_; first | assumption | exact ah_eq)))) (by rfl) ?_)
    refine ev_callV rfl rfl q2 rfl ch ?_
    cases (decide (0 ≤ n ∧ n < 400) && bS gk n.toNat) with
    | true =>
      refine ev_zeqF rfl rfl ?_
      repeat (refine ev_st rfl rfl ?_)
      exact ev_rt rfl rfl rfl
    | false =>
      refine ev_zeqT rfl rfl ?_
      repeat (refine ev_st rfl rfl ?_)
      exact ev_rt rfl rfl rfl
end SV
theorem c_hasN {h : AH} {o w : Nat} {g : Nat → BitVec 64} {n : Nat} (ho : h.2.2 o = some (cSet w)) (hw : h.2.2 w = some (cLng g)) (hn : n < 400) : Em mEventSet_has 0 [vR o, .inl (n : Int)] h (some (vB (bS g n))) h := by
  have := c_has ho hw (n := (n : Int)) (by unfold InR; omega)
  rw [decide_eq_true (show (0 : Int) ≤ (n : Int) ∧ (n : Int) < 400 by omega), Bool.true_and, Int.toNat_natCast] at this
  exact this
-- parents of a log's event, by their places
theorem LG.par {h : AH} {R : Nat → Prop} {ad : Nat → Nat} {N : Nat} {E : EL} (hL : LG h R ad N E) {n : Nat} (hn : n < N) : ∃ c pa gr sl lv er bh gd pf, h.2.2 (ad n) = some (cEv n (E n) c pa gr sl lv er bh gd) ∧ h.2.2 pa = some (cEa (e_pa (E n)).length pf) ∧ ∀ i, i < (e_pa (E n)).length → pf i = some (ad ((e_pa (E n)).getD i 0)) := by
  obtain ⟨-, c, pa, gr, lv, er, bh, q1, -, ⟨pf, -, p1, p2⟩, -⟩ := hL n hn
  exact ⟨c, pa, some gr, _, lv, some er, some bh, _, pf, q1, p1, p2⟩
-- an event's parents are earlier events, four at most
def PW (N : Nat) (E : EL) : Prop := ∀ n, n < N → (e_pa (E n)).length ≤ 4 ∧ ∀ p ∈ e_pa (E n), p < n
theorem PW.at {N : Nat} {E : EL} (h : PW N E) {n i : Nat} (hn : n < N) (hi : i < (e_pa (E n)).length) : (e_pa (E n)).getD i 0 < n := by
  refine (h n hn).2 _ ?_
  rw [List.getD_eq_getElem?_getD, List.getElem?_eq_getElem hi]
  exact List.getElem_mem hi
set_option maxHeartbeats 2000000 in
theorem l_kpar {h : AH} {R : Nat → Prop} {ad : Nat → Nat} {N : Nat} {E : EL} {S : Nat} {gk gh gd : Nat → BitVec 64} {nw : Option Nat} (q : svR h S gk gh gd nw) (hL : LG h R ad N E) (hN : N ≤ 400) (hP : PW N E) {n : Nat} (hn : n < N) (B : Bool) (hB : B = b_all (e_pa (E n)).length (fun i => bS gk ((e_pa (E n)).getD i 0))) : ∀ (k i : Nat), i + k = (e_pa (E n)).length → b_all i (fun i => bS gk ((e_pa (E n)).getD i 0)) = true → Ev tServer_knowsParentsOf 2 [some (vR S), some (vR (ad n)), some (.inl (i : Int))] [] h (some (vB B), h) := by
  obtain ⟨q1, q2, q3, q4, q5, q6, q7⟩ := q
  obtain ⟨c, pa, gr, sl, lv, er, bh, gd', pf, hc, hpa, hpf⟩ := hL.par hn
  have h4 := (hP n hn).1
  intro k
  induction k with
  | zero =>
    intro i hi hb
    rw [show i = (e_pa (E n)).length by omega, ← hB] at hb
    rw [hb]
    clear hb hB
    repeat (first | refine ev_st rfl rfl ?_ | refine ev_getf rfl (by first | assumption | exact ah_eq | (refine ah_ne (by omega) ?_; first | assumption | exact ah_eq | (refine ah_ne (by omega) ?_; first | assumption | exact ah_eq | (refine ah_ne (by omega) ?_; first | assumption | exact ah_eq)))) (by rfl) ?_)
    refine ev_alen rfl hpa ?_
    repeat (first | refine ev_st rfl rfl ?_ | refine ev_getf rfl (by first | assumption | exact ah_eq | (refine ah_ne (by omega) ?_; first | assumption | exact ah_eq | (refine ah_ne (by omega) ?_; first | assumption | exact ah_eq | (refine ah_ne (by omega) ?_; first | assumption | exact ah_eq)))) (by rfl) ?_ | refine ev_ifT rfl (by simp only [ick, w32]; omega) ?_ | refine ev_ifF rfl (by simp only [ick, w32]; omega) ?_ | refine ev_icT rfl (by simp only [ick, w32]; omega) ?_ | refine ev_icF rfl (by simp only [ick, w32]; omega) ?_)
    exact ev_rt rfl rfl rfl
  | succ k ih =>
    intro i hi hb
    have ih := ih (i + 1) (by omega)
    simp only [b_all, hb, Bool.true_and] at ih
    have hi' : i < (e_pa (E n)).length := by omega
    have hpi := hP.at hn hi'
    obtain ⟨c2, pa2, gr2, sl2, lv2, er2, bh2, gd2, pf2, hc2, -⟩ := hL.par (n := (e_pa (E n)).getD i 0) (by omega)
    have hfalse : bS gk ((e_pa (E n)).getD i 0) = false → B = false := by
      intro hf
      rw [hB, ← Bool.not_eq_true, b_all_iff]
      intro hall
      have := hall i hi'
      rw [hf] at this
      cases this
    have ch := c_hasN q2 q3 (n := (e_pa (E n)).getD i 0) (by omega)
    clear hb hB
    generalize hP' : (e_pa (E n)).getD i 0 = P at *
    repeat (first | refine ev_st rfl rfl ?_ | refine ev_getf rfl (by first | assumption | exact ah_eq | (refine ah_ne (by omega) ?_; first | assumption | exact ah_eq | (refine ah_ne (by omega) ?_; first | assumption | exact ah_eq | (refine ah_ne (by omega) ?_; first | assumption | exact ah_eq)))) (by rfl) ?_)
    refine ev_alen rfl hpa ?_
    refine ev_icF rfl (by simp only [ick, w32]; omega) ?_
    repeat (first | refine ev_st rfl rfl ?_ | refine ev_getf rfl (by first | assumption | exact ah_eq | (refine ah_ne (by omega) ?_; first | assumption | exact ah_eq | (refine ah_ne (by omega) ?_; first | assumption | exact ah_eq | (refine ah_ne (by omega) ?_; first | assumption | exact ah_eq)))) (by rfl) ?_)
    refine ev_aaldN rfl (by first | assumption | exact ah_eq | (refine ah_ne (by omega) ?_; first | assumption | exact ah_eq | (refine ah_ne (by omega) ?_; first | assumption | exact ah_eq | (refine ah_ne (by omega) ?_; first | assumption | exact ah_eq)))) hi' (by omega) ?_
    rw [hpf i hi', hP']
    refine ev_getf rfl hc2 (by rfl) ?_
    refine ev_callV rfl rfl q2 rfl ch ?_
    cases hb : bS gk P with
    | true =>
      refine ev_zneT rfl rfl ?_
      iterate 2 (refine ev_st rfl rfl ?_)
      rw [nat_1]
      exact ih hb
    | false =>
      rw [hfalse hb]
      refine ev_zneF rfl rfl ?_
      repeat (refine ev_st rfl rfl ?_)
      exact ev_rt rfl rfl rfl
theorem c_kpar {h : AH} {R : Nat → Prop} {ad : Nat → Nat} {N : Nat} {E : EL} {S : Nat} {gk gh gd : Nat → BitVec 64} {nw : Option Nat} (q : svR h S gk gh gd nw) (hL : LG h R ad N E) (hN : N ≤ 400) (hP : PW N E) {n : Nat} (hn : n < N) : Em mServer_knowsParentsOf 1 [vR S, vR (ad n)] h (some (vB (b_all (e_pa (E n)).length (fun i => bS gk ((e_pa (E n)).getD i 0))))) h := by
  show Ev tServer_knowsParentsOf 0 [some (vR S), some (vR (ad n)), none] [] h _
  iterate 2 (refine ev_st rfl rfl ?_)
  exact l_kpar q hL hN hP hn _ rfl _ 0 (Nat.zero_add _) rfl
set_option maxHeartbeats 2000000 in
theorem l_learn {R : Nat → Prop} {ad : Nat → Nat} {N : Nat} {E : EL} {S : Nat} {gk gh : Nat → BitVec 64} {nw : Option Nat} (hN : N ≤ 400) (hP : PW N E) (hR : ∀ a, S ≤ a → a < S + 7 → ¬ R a) {n : Nat} (hn : n < N) : ∀ (k i : Nat) (h : AH) (gd : Nat → BitVec 64), i + k = (e_pa (E n)).length → svR h S gk gh gd nw → LG h R ad N E → ∃ h' gd', svR h' S gk gh gd' nw ∧ sm S 7 h h' ∧ (∀ y, bS gd' y = (bS gd y && !b_any (e_pa (E n)).length (fun j => decide (i ≤ j) && decide (y = (e_pa (E n)).getD j 0)))) ∧ ∀ o, Ev tServer_learn 44 [some (vR S), some (vR (ad n)), some (.inl ((e_pa (E n)).length : Int))] [] h' o → Ev tServer_learn 13 [some (vR S), some (vR (ad n)), some (.inl (i : Int))] [] h o := by
  intro k
  induction k with
  | zero =>
    intro i h gd hi q hL
    have q0 := q
    obtain ⟨q1, q2, q3, q4, q5, q6, q7⟩ := q
    obtain ⟨c, pa, gr, sl, lv, er, bh, gd', pf, hc, hpa, hpf⟩ := hL.par hn
    have h4 := (hP n hn).1
    refine ⟨h, gd, q0, sm.rf, fun y => ?_, fun o K => ?_⟩
    · have : b_any (e_pa (E n)).length (fun j => decide (i ≤ j) && decide (y = (e_pa (E n)).getD j 0)) = false := by
        rw [← Bool.not_eq_true, b_any_iff]
        rintro ⟨j, h1, h2⟩
        simp at h2
        omega
      rw [this]; simp
    · rw [← show i = (e_pa (E n)).length by omega] at K
      have hpa' : h.2.2 pa = some (cEa i pf) := by rw [hpa, show (e_pa (E n)).length = i by omega]
      repeat (first | refine ev_st rfl rfl ?_ | refine ev_getf rfl (by first | assumption | exact ah_eq | (refine ah_ne (by omega) ?_; first | assumption | exact ah_eq | (refine ah_ne (by omega) ?_; first | assumption | exact ah_eq | (refine ah_ne (by omega) ?_; first | assumption | exact ah_eq)))) (by rfl) ?_)
      refine ev_alen rfl hpa' ?_
      refine ev_icT rfl (by simp only [ick, w32]; omega) ?_
      exact K
  | succ k ih =>
    intro i h gd hi q hL
    have q0 := q
    obtain ⟨q1, q2, q3, q4, q5, q6, q7⟩ := q
    obtain ⟨c, pa, gr, sl, lv, er, bh, gd', pf, hc, hpa, hpf⟩ := hL.par hn
    have h4 := (hP n hn).1
    have hi' : i < (e_pa (E n)).length := by omega
    have hpi := hP.at hn hi'
    obtain ⟨c2, pa2, gr2, sl2, lv2, er2, bh2, gd2, pf2, hc2, -⟩ := hL.par (n := (e_pa (E n)).getD i 0) (by omega)
    obtain ⟨g', cr, hg'⟩ := c_remove q6 q7 (n := (e_pa (E n)).getD i 0) (by omega)
    have hL' : LG (ah_put h (S + 6) (cLng g')) R ad N E := hL.fz ((sm.put (by omega) (by omega)).fz hR)
    obtain ⟨h2, gd2, s1, s2, s3, ih⟩ := ih (i + 1) (ah_put h (S + 6) (cLng g')) g' (by omega) q0.d hL'
    refine ⟨h2, gd2, s1, (sm.put (by omega) (by omega)).tr s2, fun y => ?_, fun o K => ?_⟩
    · rw [s3 y, hg', f_off_d]
      have e : b_any (e_pa (E n)).length (fun j => decide (i ≤ j) && decide (y = (e_pa (E n)).getD j 0)) = (decide (y = (e_pa (E n)).getD i 0) || b_any (e_pa (E n)).length (fun j => decide (i + 1 ≤ j) && decide (y = (e_pa (E n)).getD j 0))) := by
        apply Bool.eq_iff_iff.2
        rw [Bool.or_eq_true, b_any_iff, b_any_iff]
        constructor
        · rintro ⟨j, j1, j2⟩
          simp only [Bool.and_eq_true, decide_eq_true_eq] at j2
          by_cases hj : j = i
          · subst hj; left; exact decide_eq_true j2.2
          · right; exact ⟨j, j1, by simp only [Bool.and_eq_true, decide_eq_true_eq]; exact ⟨by omega, j2.2⟩⟩
        · rintro (j2 | ⟨j, j1, j2⟩)
          · exact ⟨i, hi', by simp only [Bool.and_eq_true, decide_eq_true_eq]; exact ⟨Nat.le_refl _, of_decide_eq_true j2⟩⟩
          · simp only [Bool.and_eq_true, decide_eq_true_eq] at j2
            exact ⟨j, j1, by simp only [Bool.and_eq_true, decide_eq_true_eq]; exact ⟨by omega, j2.2⟩⟩
      rw [e]
      cases decide (y = (e_pa (E n)).getD i 0) <;> cases bS gd y <;> simp
    · have ih := ih o K
      clear K s3 hg'
      repeat (first | refine ev_st rfl rfl ?_ | refine ev_getf rfl (by first | assumption | exact ah_eq | (refine ah_ne (by omega) ?_; first | assumption | exact ah_eq | (refine ah_ne (by omega) ?_; first | assumption | exact ah_eq | (refine ah_ne (by omega) ?_; first | assumption | exact ah_eq)))) (by rfl) ?_)
      refine ev_alen rfl hpa ?_
      refine ev_icF rfl (by simp only [ick, w32]; omega) ?_
      repeat (first | refine ev_st rfl rfl ?_ | refine ev_getf rfl (by first | assumption | exact ah_eq | (refine ah_ne (by omega) ?_; first | assumption | exact ah_eq | (refine ah_ne (by omega) ?_; first | assumption | exact ah_eq | (refine ah_ne (by omega) ?_; first | assumption | exact ah_eq)))) (by rfl) ?_)
      refine ev_aaldN rfl (by first | assumption | exact ah_eq | (refine ah_ne (by omega) ?_; first | assumption | exact ah_eq | (refine ah_ne (by omega) ?_; first | assumption | exact ah_eq | (refine ah_ne (by omega) ?_; first | assumption | exact ah_eq)))) hi' (by omega) ?_
      rw [hpf i hi']
      refine ev_getf rfl hc2 (by rfl) ?_
      refine ev_callV rfl rfl q6 rfl cr ?_
      iterate 2 (refine ev_st rfl rfl ?_)
      rw [nat_1]
      exact ih
theorem con_any {l : List Nat} {y : Nat} : b_any l.length (fun j => decide (0 ≤ j) && decide (y = l.getD j 0)) = l.contains y := by
  apply Bool.eq_iff_iff.2
  rw [b_any_iff, List.contains_iff_mem]
  constructor
  · rintro ⟨j, h1, h2⟩
    simp only [Bool.and_eq_true, decide_eq_true_eq] at h2
    rw [h2.2, List.getD_eq_getElem?_getD, List.getElem?_eq_getElem h1]
    exact List.getElem_mem h1
  · intro hm
    obtain ⟨j, hj, e⟩ := List.getElem_of_mem hm
    refine ⟨j, hj, ?_⟩
    simp only [Bool.and_eq_true, decide_eq_true_eq]
    refine ⟨Nat.zero_le _, ?_⟩
    rw [List.getD_eq_getElem?_getD, List.getElem?_eq_getElem hj]
    exact e.symm
set_option maxHeartbeats 2000000 in
theorem c_learn {h : AH} {R : Nat → Prop} {ad : Nat → Nat} {N : Nat} {E : EL} {S : Nat} {gk gh gd : Nat → BitVec 64} {nw : Option Nat} (q : svR h S gk gh gd nw) (hL : LG h R ad N E) (hN : N ≤ 400) (hP : PW N E) (hR : ∀ a, S ≤ a → a < S + 7 → ¬ R a) {n : Nat} (hn : n < N) : ∃ h' gk' gd', Em mServer_learn 1 [vR S, vR (ad n)] h none h' ∧ svR h' S gk' gh gd' none ∧ sm S 7 h h' ∧ (bS gk' = f_on (bS gk) n) ∧ ∀ y, bS gd' y = (decide (y = n) || (bS gd y && !(e_pa (E n)).contains y)) := by
  have q0 := q
  obtain ⟨q1, q2, q3, q4, q5, q6, q7⟩ := q
  obtain ⟨c, pa, gr, sl, lv, er, bh, gd', pf, hc, hpa, hpf⟩ := hL.par hn
  obtain ⟨gk', ca, hgk⟩ := c_add q2 q3 (n := n) (by omega)
  have hL1 : LG (ah_put h (S + 2) (cLng gk')) R ad N E := hL.fz ((sm.put (by omega) (by omega)).fz hR)
  obtain ⟨h1, gd1, s1, s2, s3, run⟩ := l_learn hN hP hR hn (e_pa (E n)).length 0 _ gd (Nat.zero_add _) q0.k hL1
  have s1' := s1
  obtain ⟨t1, t2, t3, t4, t5, t6, t7⟩ := s1
  obtain ⟨gd2, cb, hgd2⟩ := c_add t6 t7 (n := n) (by omega)
  obtain ⟨c', pa', gr', sl', lv', er', bh', gd'', pf', hc', -⟩ := (hL1.fz (s2.fz hR)).par hn
  refine ⟨ah_put (ah_put h1 (S + 6) (cLng gd2)) S (cSv (S + 1) (S + 3) (S + 5) none), gk', gd2, ?_, s1'.d.n, (((sm.put (by omega) (by omega)).tr s2).tr (sm.put (by omega) (by omega))).tr (sm.put (by omega) (by omega)), hgk, fun y => ?_⟩
  · show Ev tServer_learn 0 [some (vR S), some (vR (ad n)), none] [] h _
    repeat (first | refine ev_st rfl rfl ?_ | refine ev_getf rfl (by first | assumption | exact ah_eq | (refine ah_ne (by omega) ?_; first | assumption | exact ah_eq | (refine ah_ne (by omega) ?_; first | assumption | exact ah_eq | (refine ah_ne (by omega) ?_; first | assumption | exact ah_eq)))) (by rfl) ?_)
    refine ev_callV rfl rfl q2 rfl ca ?_
    iterate 2 (refine ev_st rfl rfl ?_)
    refine run _ ?_
    repeat (first | refine ev_st rfl rfl ?_ | refine ev_getf rfl (by first | assumption | exact ah_eq | (refine ah_ne (by omega) ?_; first | assumption | exact ah_eq | (refine ah_ne (by omega) ?_; first | assumption | exact ah_eq | (refine ah_ne (by omega) ?_; first | assumption | exact ah_eq)))) (by rfl) ?_)
    refine ev_callV rfl rfl t6 rfl cb ?_
    iterate 2 (refine ev_st rfl rfl ?_)
    refine ev_putf rfl (ah_ne (by omega) t1) (Nat.le_of_ble_eq_true rfl) rfl ?_
    exact ev_rt rfl rfl rfl
  · rw [hgd2, f_on_d, s3 y, con_any]
