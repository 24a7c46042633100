-- the reference: findConflict
-- an array's first N set to one value
theorem l_cz {h : AH} {M N : Nat} {j2 j3 j4 : Option AV} : ∀ (k e : Nat) (C : RM), e + k = N → N ≤ 400 → C.2.1 = (N : Int) → (∀ z, z < e → C.1 21 z = 0 ∧ C.1 22 z = 0) → ∃ C', (kx S_c C C' ∧ ∀ z, z < N → C'.1 21 z = 0 ∧ C'.1 22 z = 0) ∧ ∀ {o : Option AV × AH}, Ev tMd_findConflict 30 [some (vR M), some (.inl (N : Int)), j2, j3, j4] [] (hM h M C') o → Ev tMd_findConflict 2 [some (vR M), some (.inl (e : Int)), j2, j3, j4] [] (hM h M C) o := by
  intro k
  induction k with
  | zero =>
    intro e C he hN hc hz
    obtain rfl : e = N := by omega
    refine ⟨C, ⟨kx.rf, hz⟩, fun {o} hgo => ?_⟩
    iterate 2 (refine ev_st rfl rfl ?_)
    refine ev_getf rfl hM_0 (by rfl) ?_
    rw [hc]
    refine ev_icT rfl (by simp only [ick, w32]; omega) ?_
    exact hgo
  | succ k ih =>
    intro e C he hN hc hz
    obtain ⟨C', ⟨k1, h1⟩, go⟩ := ih (e + 1) (rU (rU C 21 (va_up (C.1 21) e 0)) 22 (va_up (C.1 22) e 0)) (by omega) hN hc (fun z hz' => by
      show va_up (C.1 21) e 0 z = 0 ∧ va_up (C.1 22) e 0 z = 0
      simp only [va_up]
      by_cases q : z = e
      · rw [if_pos q, if_pos q]; exact ⟨rfl, rfl⟩
      · rw [if_neg q, if_neg q]; exact hz z (by omega))
    refine ⟨C', ⟨((kx.u (by decide)).tr (kx.u (by decide))).tr k1, h1⟩, fun {o} hgo => ?_⟩
    iterate 2 (refine ev_st rfl rfl ?_)
    refine ev_getf rfl hM_0 (by rfl) ?_
    rw [hc]
    refine ev_icF rfl (by simp only [ick, w32]; omega) ?_
    iterate 1 (refine ev_st rfl rfl ?_)
    refine ev_getf rfl hM_0 (by rfl) ?_
    iterate 2 (refine ev_st rfl rfl ?_)
    refine ev_iast e rfl hA21 (by simp only [w32]; omega) (by omega) ?_
    rw [hP21]
    iterate 1 (refine ev_st rfl rfl ?_)
    refine ev_getf rfl hM_0 (by rfl) ?_
    iterate 2 (refine ev_st rfl rfl ?_)
    refine ev_bast e rfl hA22 (by simp only [w32]; omega) (by omega) (Or.inl rfl) ?_
    rw [hP22]
    iterate 2 (refine ev_st rfl rfl ?_)
    exact go hgo
theorem l_cs {h : AH} {M N : Nat} {j1 j3 j4 : Option AV} : ∀ (k e : Nat) (C : RM), e + k = N → N ≤ 400 → C.2.1 = (N : Int) → (∀ z, z < e → C.1 24 z = 0) → ∃ C', (kx S_c C C' ∧ (∀ i, i ≠ 24 → C'.1 i = C.1 i) ∧ ∀ z, z < N → C'.1 24 z = 0) ∧ ∀ {o : Option AV × AH}, Ev tMd_findConflict 63 [some (vR M), j1, some (.inl (N : Int)), j3, j4] [] (hM h M C') o → Ev tMd_findConflict 42 [some (vR M), j1, some (.inl (e : Int)), j3, j4] [] (hM h M C) o := by
  intro k
  induction k with
  | zero =>
    intro e C he hN hc hz
    obtain rfl : e = N := by omega
    refine ⟨C, ⟨kx.rf, fun _ _ => rfl, hz⟩, fun {o} hgo => ?_⟩
    iterate 2 (refine ev_st rfl rfl ?_)
    refine ev_getf rfl hM_0 (by rfl) ?_
    rw [hc]
    refine ev_icT rfl (by simp only [ick, w32]; omega) ?_
    exact hgo
  | succ k ih =>
    intro e C he hN hc hz
    obtain ⟨C', ⟨k1, k2, h1⟩, go⟩ := ih (e + 1) (rU C 24 (va_up (C.1 24) e 0)) (by omega) hN hc (fun z hz' => by
      show va_up (C.1 24) e 0 z = 0
      simp only [va_up]
      by_cases q : z = e
      · rw [if_pos q]
      · rw [if_neg q]; exact hz z (by omega))
    refine ⟨C', ⟨(kx.u (by decide)).tr k1, fun i hi => (k2 i hi).trans (rU_ne hi), h1⟩, fun {o} hgo => ?_⟩
    iterate 2 (refine ev_st rfl rfl ?_)
    refine ev_getf rfl hM_0 (by rfl) ?_
    rw [hc]
    refine ev_icF rfl (by simp only [ick, w32]; omega) ?_
    iterate 1 (refine ev_st rfl rfl ?_)
    refine ev_getf rfl hM_0 (by rfl) ?_
    iterate 2 (refine ev_st rfl rfl ?_)
    refine ev_bast e rfl hA24 (by simp only [w32]; omega) (by omega) (Or.inl rfl) ?_
    rw [hP24]
    iterate 2 (refine ev_st rfl rfl ?_)
    exact go hgo
theorem full_iff {E : EL} {i z : Nat} : r_full E i z = true ↔ ∃ p', 0 ≤ p' ∧ p' < 23 ∧ 0 ≤ e_bh E i p' ∧ (e_bh E i p' = z ∨ e_ch (E (e_bh E i p').toNat) z = true) := by
  unfold r_full m_ch
  rw [b_any_iff]
  constructor
  · rintro ⟨p, hp, h⟩
    simp only [Bool.and_eq_true, Bool.or_eq_true, decide_eq_true_eq] at h
    exact ⟨p, by omega, hp, h.1, h.2⟩
  · rintro ⟨p, -, hp, h1, h2⟩
    exact ⟨p, hp, by simp only [Bool.and_eq_true, Bool.or_eq_true, decide_eq_true_eq]; exact ⟨h1, h2⟩⟩
set_option maxHeartbeats 4000000 in
theorem l_ci {h : AH} {M N : Nat} {E : EL} {L : List Nat} {ag : SS} (hN : N ≤ 400) (hP : PW N E) (hB : BW N E) (hl : ∀ n ∈ L, n < N) (hL : L.length ≤ 400) (har : ∀ p, p < 23 → -1 ≤ ag p ∧ ag p < 400) : ∀ (k i : Nat) (C : RM) (kf : Nat → Bool) (j2 j3 j4 : Option AV), i + k = L.length → rE C N E → rO C L → (∀ p, p < 23 → C.1 20 p = ag p) → (∀ z, z < N → C.1 21 z = (b_cnt i (fun j => r_full E (L.getD j 0) z) : Nat)) → (∀ z, z < N → C.1 22 z = b2 (kf z)) → ∃ (C' : RM) (kf' : Nat → Bool) (j2' j3' j4' : Option AV), (kx S_c C C' ∧ (∀ z, z < N → C'.1 21 z = (b_cnt L.length (fun j => r_full E (L.getD j 0) z) : Nat)) ∧ (∀ z, z < N → C'.1 22 z = b2 (kf' z)) ∧ ∀ z, z < N → (kf' z = true ↔ kf z = true ∨ ∃ j, i ≤ j ∧ j < L.length ∧ ∃ p', p' < 23 ∧ e_bh E (L.getD j 0) p' = z ∧ ag p' < 0)) ∧ ∀ {o : Option AV × AH}, Ev tMd_findConflict 168 [some (vR M), some (.inl (L.length : Int)), j2', j3', j4'] [] (hM h M C') o → Ev tMd_findConflict 32 [some (vR M), some (.inl (i : Int)), j2, j3, j4] [] (hM h M C) o := by
  intro k
  induction k with
  | zero =>
    intro i C kf j2 j3 j4 hi q ro ra hF hK
    obtain rfl : i = L.length := by omega
    refine ⟨C, kf, j2, j3, j4, ⟨kx.rf, hF, hK, fun z hz => ⟨Or.inl, ?_⟩⟩, fun {o} hgo => ?_⟩
    · rintro (w | ⟨j, w1, w2, -⟩)
      · exact w
      · omega
    · iterate 2 (refine ev_st rfl rfl ?_)
      refine ev_getf rfl hM_0 (by rfl) ?_
      rw [ro.1]
      refine ev_icT rfl (by simp only [ick, w32]; omega) ?_
      exact hgo
  | succ k ih =>
    intro i C kf j2 j3 j4 hi q ro ra hF hK
    obtain ⟨C1, ⟨k1, k1', h1⟩, go1⟩ := l_cs (h := h) (M := M) (j1 := some (.inl (i : Int))) (j3 := j3) (j4 := j4) N 0 C (by omega) hN q.1 (fun z hz => by omega)
    have cf0 : cfx C1 N (fun z => (b_cnt i (fun j => r_full E (L.getD j 0) z) : Nat)) (fun _ => false) := ⟨fun z hz => h1 z hz, fun z hz => by rw [k1' 21 (by omega), hF z hz]; exact (Int.add_zero _).symm⟩
    obtain ⟨C2, s2, kf2, j3', j4', ⟨k2, d2, kc2, i2, i3⟩, go2⟩ := l_cp (h := h) (M := M) hN hP hB hl hL (show i < L.length by omega) har 23 0 C1 (fun _ => false) kf j3 j4 (by omega) (q.kx hP k1 S_c18) (ro.kx k1 (by decide)) (fun p hp => by rw [k1.1 20 (by decide)]; exact ra p hp) cf0 (fun z hz => by rw [k1' 22 (by omega)]; exact hK z hz)
    have k12 := k1.tr k2
    obtain ⟨C', kf', j2'', j3'', j4'', ⟨k3, d3, d4, i4⟩, go3⟩ := ih (i + 1) C2 kf2 (some (.inl 23)) j3' j4' (by omega) (q.kx hP k12 S_c18) (ro.kx k12 (by decide)) (fun p hp => by rw [k12.1 20 (by decide)]; exact ra p hp) (fun z hz => by
      rw [d2.2 z hz]
      have hfull : s2 z = r_full E (L.getD i 0) z := by
        apply Bool.eq_iff_iff.2
        rw [i2 z hz, full_iff]
        constructor
        · rintro (w | w)
          · cases w
          · exact w
        · exact Or.inr
      rw [hfull]
      show _ = ((b_cnt i (fun j => r_full E (L.getD j 0) z) + (bif r_full E (L.getD i 0) z then 1 else 0) : Nat) : Int)
      cases r_full E (L.getD i 0) z <;> simp) kc2
    refine ⟨C', kf', j2'', j3'', j4'', ⟨k12.tr k3, d3, d4, fun z hz => ?_⟩, fun {o} hgo => ?_⟩
    · rw [i4 z hz, i3 z hz]
      constructor
      · rintro ((w | ⟨p', -, w2, w3, w4⟩) | ⟨j, w1, w2, w3⟩)
        · exact Or.inl w
        · exact Or.inr ⟨i, by omega, by omega, p', w2, w3, w4⟩
        · exact Or.inr ⟨j, by omega, w2, w3⟩
      · rintro (w | ⟨j, w1, w2, p', w3, w4, w5⟩)
        · exact Or.inl (Or.inl w)
        · by_cases e : j = i
          · subst e
            exact Or.inl (Or.inr ⟨p', by omega, w3, w4, w5⟩)
          · exact Or.inr ⟨j, by omega, w2, p', w3, w4, w5⟩
    · iterate 2 (refine ev_st rfl rfl ?_)
      refine ev_getf rfl hM_0 (by rfl) ?_
      rw [ro.1]
      refine ev_icF rfl (by simp only [ick, w32]; omega) ?_
      iterate 2 (refine ev_st rfl rfl ?_)
      refine go1 ?_
      iterate 2 (refine ev_st rfl rfl ?_)
      refine go2 ?_
      iterate 2 (refine ev_st rfl rfl ?_)
      exact go3 hgo
theorem l_ce {h : AH} {M N n : Nat} {F : Nat → Nat} {kf : Nat → Bool} {j2 j3 j4 : Option AV} (hN : N ≤ 400) (hn : n ≤ 400) : ∀ (k e : Nat) (C : RM), e + k = N → C.2.1 = (N : Int) → C.2.2.1 = (n : Int) → (∀ z, z < N → C.1 21 z = (F z : Int) ∧ F z ≤ 400) → (∀ z, z < N → C.1 22 z = b2 (bif Nat.blt z e then kf z || (decide (0 < F z) && decide (F z < n)) else kf z)) → ∃ C', (kx S_c C C' ∧ ∀ z, z < N → C'.1 22 z = b2 (kf z || (decide (0 < F z) && decide (F z < n)))) ∧ Ev tMd_findConflict 170 [some (vR M), some (.inl (e : Int)), j2, j3, j4] [] (hM h M C) (none, hM h M C') := by
  have blt_t : ∀ {a b : Nat}, a < b → Nat.blt a b = true := fun {a b} hh => Nat.ble_eq_true_of_le hh
  have blt_f : ∀ {a b : Nat}, ¬ a < b → Nat.blt a b = false := fun {a b} hh => by
    cases hz : Nat.blt a b
    · rfl
    · exact absurd (Nat.le_of_ble_eq_true hz) hh
  intro k
  induction k with
  | zero =>
    intro e C he hc hcn hF hK
    obtain rfl : e = N := by omega
    refine ⟨C, ⟨kx.rf, fun z hz => ?_⟩, ?_⟩
    · rw [hK z hz, blt_t hz]; rfl
    · iterate 2 (refine ev_st rfl rfl ?_)
      refine ev_getf rfl hM_0 (by rfl) ?_
      rw [hc]
      refine ev_icT rfl (by simp only [ick, w32]; omega) ?_
      exact ev_rt rfl rfl rfl
  | succ k ih =>
    intro e C he hc hcn hF hK
    obtain ⟨F1, F2⟩ := hF e (by omega)
    have K1 := hK e (by omega)
    rw [blt_f (by omega), cond_false] at K1
    obtain ⟨C', ⟨k1, h1⟩, go⟩ := ih (e + 1) (rU C 22 (va_up (C.1 22) e (b2 (kf e || (decide (0 < F e) && decide (F e < n)))))) (by omega) hc hcn hF (fun z hz => by
      show va_up (C.1 22) e _ z = _
      simp only [va_up]
      by_cases q : z = e
      · rw [if_pos q, q, blt_t (by omega), cond_true]
      · rw [if_neg q, hK z hz]
        by_cases q2 : z < e
        · rw [blt_t q2, blt_t (show z < e + 1 by omega)]
        · rw [blt_f q2, blt_f (show ¬ z < e + 1 by omega)])
    refine ⟨C', ⟨(kx.u (by decide)).tr k1, h1⟩, ?_⟩
    have fin : ∀ {o : Option AV × AH}, Ev tMd_findConflict 219 [some (vR M), some (.inl (e : Int)), j2, j3, j4] [vB (kf e || (decide (0 < F e) && decide (F e < n))), .inl (e : Int), vR (M + 23)] (hM h M C) o → Ev tMd_findConflict 170 [some (vR M), some (.inl (e : Int)), j2, j3, j4] [] (hM h M C) o := by
      intro o hgo
      iterate 2 (refine ev_st rfl rfl ?_)
      refine ev_getf rfl hM_0 (by rfl) ?_
      rw [hc]
      refine ev_icF rfl (by simp only [ick, w32]; omega) ?_
      iterate 1 (refine ev_st rfl rfl ?_)
      refine ev_getf rfl hM_0 (by rfl) ?_
      iterate 2 (refine ev_st rfl rfl ?_)
      refine ev_getf rfl hM_0 (by rfl) ?_
      iterate 1 (refine ev_st rfl rfl ?_)
      refine ev_iald e rfl hA22 (by simp only [w32]; omega) (by omega) ?_
      rw [K1]
      cases hk : kf e with
      | true =>
        rw [hk, Bool.true_or] at hgo
        refine ev_zneT rfl rfl ?_
        iterate 2 (refine ev_st rfl rfl ?_)
        exact hgo
      | false =>
        rw [hk, Bool.false_or] at hgo
        refine ev_zneF rfl rfl ?_
        iterate 1 (refine ev_st rfl rfl ?_)
        refine ev_getf rfl hM_0 (by rfl) ?_
        iterate 1 (refine ev_st rfl rfl ?_)
        refine ev_iald e rfl hA21 (by simp only [w32]; omega) (by omega) ?_
        rw [F1]
        by_cases c1 : 0 < F e
        · rw [decide_eq_true c1, Bool.true_and] at hgo
          refine ev_ifF rfl (by simp only [ick, w32]; omega) ?_
          iterate 1 (refine ev_st rfl rfl ?_)
          refine ev_getf rfl hM_0 (by rfl) ?_
          iterate 1 (refine ev_st rfl rfl ?_)
          refine ev_iald e rfl hA21 (by simp only [w32]; omega) (by omega) ?_
          rw [F1]
          iterate 1 (refine ev_st rfl rfl ?_)
          refine ev_getf rfl hM_0 (by rfl) ?_
          rw [hcn]
          by_cases c2 : F e < n
          · rw [decide_eq_true c2] at hgo
            refine ev_icF rfl (by simp only [ick, w32]; omega) ?_
            iterate 2 (refine ev_st rfl rfl ?_)
            exact hgo
          · rw [decide_eq_false c2] at hgo
            refine ev_icT rfl (by simp only [ick, w32]; omega) ?_
            iterate 1 (refine ev_st rfl rfl ?_)
            exact hgo
        · rw [decide_eq_false c1, Bool.false_and] at hgo
          refine ev_ifT rfl (by simp only [ick, w32]; omega) ?_
          iterate 1 (refine ev_st rfl rfl ?_)
          exact hgo
    refine fin ?_
    refine ev_bast e rfl hA22 (by simp only [w32]; omega) (by omega) (b2_01 _) ?_
    rw [hP22]
    iterate 2 (refine ev_st rfl rfl ?_)
    exact go
theorem cnt_pos {f : Nat → Bool} : ∀ n, 0 < b_cnt n f ↔ ∃ j, j < n ∧ f j = true := by
  intro n
  induction n with
  | zero => simp [b_cnt]
  | succ n ih =>
    simp only [b_cnt]
    constructor
    · intro h
      cases hf : f n
      · rw [hf] at h
        obtain ⟨j, h1, h2⟩ := ih.1 (by simpa using h)
        exact ⟨j, by omega, h2⟩
      · exact ⟨n, by omega, hf⟩
    · rintro ⟨j, h1, h2⟩
      by_cases e : j = n
      · subst e; rw [h2]; simp
      · have := ih.2 ⟨j, by omega, h2⟩
        omega
theorem cnt_full {f : Nat → Bool} : ∀ n, b_cnt n f < n ↔ ∃ j, j < n ∧ f j = false := by
  intro n
  induction n with
  | zero => simp [b_cnt]
  | succ n ih =>
    simp only [b_cnt]
    have hle := b_cnt_le f n
    constructor
    · intro h
      cases hf : f n
      · exact ⟨n, by omega, hf⟩
      · rw [hf] at h
        obtain ⟨j, h1, h2⟩ := ih.1 (by simp at h; omega)
        exact ⟨j, by omega, h2⟩
    · rintro ⟨j, h1, h2⟩
      by_cases e : j = n
      · subst e; rw [h2]; simp; omega
      · have := ih.2 ⟨j, by omega, h2⟩
        cases f n <;> simp <;> omega
theorem any_getD {L : List Nat} {f : Nat → Bool} : L.any f = true ↔ ∃ j, j < L.length ∧ f (L.getD j 0) = true := by
  rw [List.any_eq_true]
  constructor
  · rintro ⟨x, h1, h2⟩
    obtain ⟨j, j1, j2⟩ := List.getElem_of_mem h1
    exact ⟨j, j1, by rw [List.getD_eq_getElem?_getD, List.getElem?_eq_getElem j1, j2]; exact h2⟩
  · rintro ⟨j, j1, j2⟩
    exact ⟨_, getD_mem j1, j2⟩
theorem c_mconf {h : AH} {M N : Nat} {C : RM} {E : EL} {L : List Nat} (hN : N ≤ 400) (hP : PW N E) (hB : BW N E) (hl : ∀ n ∈ L, n < N) (hL : L.length ≤ 400) (q : rE C N E) (ro : rO C L) (ra : ∀ p, p < 23 → C.1 20 p = r_agr E L p) (har : ∀ p, p < 23 → -1 ≤ r_agr E L p ∧ r_agr E L p < 400) : ∃ C', Em mMd_findConflict 4 [vR M] (hM h M C) none (hM h M C') ∧ kx S_c C C' ∧ ∀ z, z < N → C'.1 22 z = b2 (r_conf E L z) := by
  obtain ⟨C1, ⟨k1, h1⟩, go1⟩ := l_cz (h := h) (M := M) (j2 := none) (j3 := none) (j4 := none) N 0 C (by omega) hN q.1 (fun z hz => by omega)
  obtain ⟨C2, kf, j2, j3, j4, ⟨k2, d2, d3, i2⟩, go2⟩ := l_ci (h := h) (M := M) hN hP hB hl hL har L.length 0 C1 (fun _ => false) none none none (by omega) (q.kx hP k1 S_c18) (ro.kx k1 (by decide)) (fun p hp => by rw [k1.1 20 (by decide)]; exact ra p hp) (fun z hz => (h1 z hz).1) (fun z hz => (h1 z hz).2)
  have k12 := k1.tr k2
  obtain ⟨C3, ⟨k3, h3⟩, go3⟩ := l_ce (h := h) (M := M) (n := L.length) (F := fun z => b_cnt L.length (fun j => r_full E (L.getD j 0) z)) (kf := kf) (j2 := j2) (j3 := j3) (j4 := j4) hN hL N 0 C2 (by omega) (by rw [k12.2]; exact q.1) (by rw [k12.2]; exact ro.1) (fun z hz => ⟨d2 z hz, Nat.le_trans (b_cnt_le _ _) hL⟩) (fun z hz => d3 z hz)
  refine ⟨C3, ?_, k12.tr k3, fun z hz => ?_⟩
  · show Ev tMd_findConflict 0 [some (vR M), none, none, none, none] [] _ _
    iterate 2 (refine ev_st rfl rfl ?_)
    refine go1 ?_
    iterate 2 (refine ev_st rfl rfl ?_)
    refine go2 ?_
    iterate 2 (refine ev_st rfl rfl ?_)
    exact go3
  · rw [h3 z hz]
    congr 1
    apply Bool.eq_iff_iff.2
    unfold r_conf
    rw [Bool.or_eq_true, Bool.or_eq_true, Bool.and_eq_true, Bool.and_eq_true, decide_eq_true_eq, decide_eq_true_eq, i2 z hz, any_getD, any_getD, any_getD, cnt_pos, cnt_full]
    constructor
    · rintro ((w | ⟨j, -, w2, p', w3, w4, w5⟩) | ⟨⟨j, a1, a2⟩, ⟨j', b1, b2_⟩⟩)
      · cases w
      · exact Or.inl ⟨j, w2, b_any_iff.2 ⟨p', w3, by rw [decide_eq_true w4, decide_eq_true w5]; rfl⟩⟩
      · exact Or.inr ⟨⟨j, a1, a2⟩, ⟨j', b1, by rw [b2_]; rfl⟩⟩
    · rintro (⟨j, w1, w2⟩ | ⟨⟨j, a1, a2⟩, ⟨j', b1, b2_⟩⟩)
      · obtain ⟨p', w3, w4⟩ := b_any_iff.1 w2
        rw [Bool.and_eq_true, decide_eq_true_eq, decide_eq_true_eq] at w4
        exact Or.inl (Or.inr ⟨j, by omega, w1, p', w3, w4.1, w4.2⟩)
      · exact Or.inr ⟨⟨j, a1, a2⟩, ⟨j', b1, by simpa using b2_⟩⟩
