-- the reference: orderTwo, resolve
set_option maxRecDepth 20000
abbrev S_2 : List Nat := [19, 22, 25, 26, 27]
theorem l_mord2 {h : AH} {M N : Nat} {E : EL} {ml : List Nat} (hE : EOK N E) : ∀ (n : Nat) (cf : Nat → Bool) (s : SS) (C : RM) (j2 j3 j4 j5 j6 : Option AV), b_cnt N cf ≤ n → (∀ y, cf y = true → y < N ∧ ¬ e_kd (E y) = 5) → rE C N E → rM C ml → sOK N E s → (∀ z, z < N → C.1 22 z = b2 (cf z)) → (∀ p, p < 23 → C.1 19 p = s p) → ∃ C', (kx [19, 22, 26, 27] C C' ∧ ∀ p, p < 23 → C'.1 19 p = r_ord2 N E ml n cf s p) ∧ Ev tMd_orderTwo 48 [some (vR M), some (.inl 1), j2, j3, j4, j5, j6] [] (hM h M C) (none, hM h M C') := by
  obtain ⟨hN, hW, hP, hX, hO, hB⟩ := id hE
  intro n
  induction n with
  | zero =>
    intro cf s C j2 j3 j4 j5 j6 hn hcf q hm hs h22 h19
    obtain ⟨j5', j6', go1⟩ := l_mbest2 (h := h) (M := M) (cf := cf) (j1 := some (.inl 1)) hE q hm h22 N 0 j5 j6 (by omega)
    have hno : r_best2 E ml cf N = none := by
      cases hb : r_best2 E ml cf N with
      | none => rfl
      | some e =>
        have h1 := best2_some hN hb
        have h2 := cnt_0 (pw := cf) (N := N) (by omega) e (best2_lt N e hb)
        rw [h2] at h1
        cases h1.2.1
    rw [hno] at go1
    refine ⟨C, ⟨kx.rf, h19⟩, ?_⟩
    iterate 1 (refine ev_st rfl rfl ?_)
    refine ev_ifF rfl (by simp only [ick, w32]; omega) ?_
    iterate 6 (refine ev_st rfl rfl ?_)
    refine go1 ?_
    iterate 1 (refine ev_st rfl rfl ?_)
    refine ev_ifT rfl (by simp only [ick, ob, w32]; omega) ?_
    iterate 3 (refine ev_st rfl rfl ?_)
    refine ev_ifF rfl (by simp only [ick, w32]; omega) ?_
    iterate 2 (refine ev_st rfl rfl ?_)
    refine ev_ifT rfl (by simp only [ick, w32]; omega) ?_
    exact ev_rt rfl rfl rfl
  | succ n ih =>
    intro cf s C j2 j3 j4 j5 j6 hn hcf q hm hs h22 h19
    obtain ⟨j5', j6', go1⟩ := l_mbest2 (h := h) (M := M) (cf := cf) (j1 := some (.inl 1)) hE q hm h22 N 0 j5 j6 (by omega)
    cases hb : r_best2 E ml cf N with
    | none =>
      rw [hb] at go1
      have e0 : r_ord2 N E ml (n + 1) cf s = s := by simp only [r_ord2, hb]
      rw [e0]
      refine ⟨C, ⟨kx.rf, h19⟩, ?_⟩
      iterate 1 (refine ev_st rfl rfl ?_)
      refine ev_ifF rfl (by simp only [ick, w32]; omega) ?_
      iterate 6 (refine ev_st rfl rfl ?_)
      refine go1 ?_
      iterate 1 (refine ev_st rfl rfl ?_)
      refine ev_ifT rfl (by simp only [ick, ob, w32]; omega) ?_
      iterate 3 (refine ev_st rfl rfl ?_)
      refine ev_ifF rfl (by simp only [ick, w32]; omega) ?_
      iterate 2 (refine ev_st rfl rfl ?_)
      refine ev_ifT rfl (by simp only [ick, w32]; omega) ?_
      exact ev_rt rfl rfl rfl
    | some e =>
      rw [hb] at go1
      have e0 : r_ord2 N E ml (n + 1) cf s = r_ord2 N E ml n (f_off cf e) (r_try E s e) := by simp only [r_ord2, hb]
      rw [e0]
      have heN := best2_lt N e hb
      have hce := (best2_some hN hb).2.1
      have hk5 := (hcf e hce).2
      have k2 : kx [19, 22, 26, 27] C (rU C 22 (va_up (C.1 22) e 0)) := kx.u (by decide)
      have q2 := q.kx hP k2 (by decide)
      obtain ⟨C3, c3, k3, r3⟩ := c_mtry (h := h) (M := M) (s := s) hE q2 heN hk5 hs (fun p hp => h19 p hp)
      have k13 := k2.tr (k3.mono (S' := [19, 22, 26, 27]) (by decide))
      have hm3 : rM C3 ml := by
        obtain ⟨m1, m2, m3, m4⟩ := hm
        exact ⟨by rw [k13.2]; exact m1, m2, m3, fun i hi => by rw [k13.1 25 (by decide)]; exact m4 i hi⟩
      obtain ⟨C', ⟨k4, a1⟩, go4⟩ := ih (f_off cf e) (r_try E s e) C3 (some (.inl (e : Int))) (some (.inl (pb E ml (some e)))) (some (.inl (N : Int))) j5' j6' (by have := cnt_off hce heN; omega) (fun y hy => hcf y (f_off_iff.1 hy).2) (q.kx hP k13 (by decide)) hm3 (try_ok hs heN hW hk5) (fun z hz => by
        rw [k3.1 22 (by decide)]
        show va_up (C.1 22) e 0 z = _
        simp only [va_up]
        unfold f_off
        by_cases w : z = e
        · rw [if_pos w, w, show Nat.beq e e = true from Nat.beq_refl e]; rfl
        · rw [if_neg w, h22 z hz, beq_ne w]; rfl) r3
      refine ⟨C', ⟨k13.tr k4, a1⟩, ?_⟩
      iterate 1 (refine ev_st rfl rfl ?_)
      refine ev_ifF rfl (by simp only [ick, w32]; omega) ?_
      iterate 6 (refine ev_st rfl rfl ?_)
      refine go1 ?_
      show Ev tMd_orderTwo 187 [some (vR M), some (.inl 1), some (.inl (e : Int)), some (.inl (pb E ml (some e))), some (.inl (N : Int)), j5', j6'] [] _ _
      iterate 1 (refine ev_st rfl rfl ?_)
      refine ev_ifF rfl (by simp only [ick, w32]; omega) ?_
      iterate 4 (refine ev_st rfl rfl ?_)
      refine ev_ifT rfl (by simp only [ick, w32]; omega) ?_
      iterate 1 (refine ev_st rfl rfl ?_)
      refine ev_getf rfl hM_0 (by rfl) ?_
      iterate 2 (refine ev_st rfl rfl ?_)
      refine ev_bast e rfl hA22 (by simp only [w32]; omega) (by omega) (Or.inl rfl) ?_
      rw [hP22]
      iterate 2 (refine ev_st rfl rfl ?_)
      refine ev_callV rfl rfl hM_0 rfl c3 ?_
      iterate 1 (refine ev_st rfl rfl ?_)
      exact go4
theorem c_mord2 {h : AH} {M N : Nat} {C : RM} {E : EL} {cf : Nat → Bool} {s : SS} (hE : EOK N E) (q : rE C N E) (hcf : ∀ y, cf y = true → y < N ∧ ¬ e_kd (E y) = 5) (hs : sOK N E s) (h22 : ∀ z, z < N → C.1 22 z = b2 (cf z)) (h19 : ∀ p, p < 23 → C.1 19 p = s p) : ∃ C', Em mMd_orderTwo 6 [vR M] (hM h M C) none (hM h M C') ∧ kr S_2 C C' ∧ ∀ p, p < 23 → C'.1 19 p = r_ord2 N E (r_main E 401 (s 13)) N cf s p := by
  have hN := hE.1
  have hP := hE.2.2.1
  have k0 : kr S_2 C (rI C (C.2.1, C.2.2.1, 0, C.2.2.2.2)) := ⟨fun _ _ => rfl, rfl, rfl⟩
  obtain ⟨C1, x', ⟨k1, m1⟩, go1⟩ := l_mmain (h := h) (M := M) (j2 := none) (j3 := none) (j4 := none) (j5 := none) (j6 := none) hE 401 (s 13) [] (rI C (C.2.1, C.2.2.1, 0, C.2.2.2.2)) (by
    rcases hs.at 13 with w | ⟨m, w1, w2, -⟩
    · exact Or.inl w
    · exact Or.inr ⟨m, w2, by omega, w1, by simp; omega⟩) (by simp) q ⟨rfl, by simp, by simp, fun i hi => by simp at hi⟩
  rw [List.nil_append] at m1
  have k01 := k0.tr (k1.mono (S' := S_2) (by decide))
  have q1 := q.kr hP k01 (by decide)
  obtain ⟨C2, ⟨k2, a2⟩, go2⟩ := l_mord2 (h := h) (M := M) hE N cf s C1 none none none none none (b_cnt_le _ _) hcf q1 m1 hs (fun z hz => by rw [k1.1 22 (by decide)]; exact h22 z hz) (fun p hp => by rw [k1.1 19 (by decide)]; exact h19 p hp)
  refine ⟨C2, ?_, k01.tr (k2.kr.mono (by decide)), a2⟩
  show Ev tMd_orderTwo 0 [some (vR M), none, none, none, none, none, none] [] _ _
  iterate 2 (refine ev_st rfl rfl ?_)
  refine evM28 rfl rfl ?_
  iterate 1 (refine ev_st rfl rfl ?_)
  refine ev_getf rfl hM_0 (by rfl) ?_
  iterate 1 (refine ev_st rfl rfl ?_)
  refine ev_iald 13 rfl hA19 (by decide) (by omega) ?_
  rw [show (rI C (C.2.1, C.2.2.1, 0, C.2.2.2.2)).1 19 13 = s 13 from h19 13 (by omega)]
  iterate 1 (refine ev_st rfl rfl ?_)
  refine go1 ?_
  iterate 2 (refine ev_st rfl rfl ?_)
  exact go2
-- what all agree on
def agf (E : EL) (L : List Nat) (p i : Nat) : Int := if ∀ j, j < i → e_bh E (L.getD j 0) p = e_bh E (L.getD 0 0) p then e_bh E (L.getD 0 0) p else -1
theorem agf_s {E : EL} {L : List Nat} {p i : Nat} : agf E L p (i + 1) = if e_bh E (L.getD i 0) p = agf E L p i then agf E L p i else -1 := by
  unfold agf
  by_cases h : ∀ j, j < i → e_bh E (L.getD j 0) p = e_bh E (L.getD 0 0) p
  · rw [if_pos h]
    by_cases h2 : e_bh E (L.getD i 0) p = e_bh E (L.getD 0 0) p
    · rw [if_pos h2, if_pos (fun j hj => ?_)]
      by_cases e : j = i
      · rw [e]; exact h2
      · exact h j (by omega)
    · rw [if_neg h2, if_neg (fun z => h2 (z i (by omega)))]
  · rw [if_neg h, if_neg (fun z => h (fun j hj => z j (by omega)))]
    split <;> rfl
theorem agf_end {E : EL} {L : List Nat} {p : Nat} (h : 0 < L.length) : agf E L p L.length = r_agr E L p := by
  rw [agr_of (getD_mem h)]
  unfold agf
  have : (∀ j, j < L.length → e_bh E (L.getD j 0) p = e_bh E (L.getD 0 0) p) ↔ ∀ j ∈ L, e_bh E j p = e_bh E (L.getD 0 0) p := by
    constructor
    · intro z j hj
      obtain ⟨i, i1, i2⟩ := List.getElem_of_mem hj
      have := z i i1
      rw [List.getD_eq_getElem?_getD, List.getElem?_eq_getElem i1, i2] at this
      exact this
    · intro z j hj
      exact z _ (getD_mem hj)
  by_cases w : ∀ j ∈ L, e_bh E j p = e_bh E (L.getD 0 0) p
  · rw [if_pos w, if_pos (this.2 w)]
  · rw [if_neg w, if_neg (fun z => w (this.1 z))]
theorem l_ra {h : AH} {M N p : Nat} {E : EL} {L : List Nat} (hN : N ≤ 400) (hB : BW N E) (hl : ∀ n ∈ L, n < N) (hL : L.length ≤ 400) (hp : p < 23) (hP : PW N E) : ∀ (k i : Nat) (C : RM), i + k = L.length → 1 ≤ i → rE C N E → rO C L → C.1 20 p = agf E L p i → ∃ C', (kx [20] C C' ∧ C'.1 20 p = r_agr E L p ∧ ∀ p', p' ≠ p → C'.1 20 p' = C.1 20 p') ∧ ∀ {o : Option AV × AH}, Ev tMd_resolve 89 [some (vR M), some (.inl (p : Int)), some (.inl (L.length : Int))] [] (hM h M C') o → Ev tMd_resolve 43 [some (vR M), some (.inl (p : Int)), some (.inl (i : Int))] [] (hM h M C) o := by
  intro k
  induction k with
  | zero =>
    intro i C hi h1 q ro ha
    obtain rfl : i = L.length := by omega
    refine ⟨C, ⟨kx.rf, by rw [ha, agf_end (by omega)], fun _ _ => rfl⟩, fun {o} hgo => ?_⟩
    iterate 2 (refine ev_st rfl rfl ?_)
    refine ev_getf rfl hM_0 (by rfl) ?_
    rw [ro.1]
    refine ev_icT rfl (by simp only [ick, w32]; omega) ?_
    exact hgo
  | succ k ih =>
    intro i C hi h1 q ro ha
    have hn := hl _ (getD_mem (show i < L.length by omega))
    have e13 := (q.2 _ hn).2.2.2.2.2.2.2 p hp
    have rb := (hB _ hn).r400 hN p
    have r0 : -1 ≤ agf E L p i ∧ agf E L p i < 400 := by
      have := (hB _ (hl _ (getD_mem (show 0 < L.length by omega)))).r400 hN p
      unfold agf
      split <;> omega
    have pre : ∀ {o : Option AV × AH}, Ev tMd_resolve 73 [some (vR M), some (.inl (p : Int)), some (.inl (i : Int))] [.inl (agf E L p i), .inl (e_bh E (L.getD i 0) p)] (hM h M C) o → Ev tMd_resolve 43 [some (vR M), some (.inl (p : Int)), some (.inl (i : Int))] [] (hM h M C) o := by
      intro o hgo
      iterate 2 (refine ev_st rfl rfl ?_)
      refine ev_getf rfl hM_0 (by rfl) ?_
      rw [ro.1]
      refine ev_icF rfl (by simp only [ick, w32]; omega) ?_
      iterate 1 (refine ev_st rfl rfl ?_)
      refine ev_getf rfl hM_0 (by rfl) ?_
      iterate 2 (refine ev_st rfl rfl ?_)
      refine ev_getf rfl hM_0 (by rfl) ?_
      iterate 1 (refine ev_st rfl rfl ?_)
      refine ev_iald i rfl hA18 (by simp only [w32]; omega) (by omega) ?_
      rw [ro.2 i (by omega)]
      iterate 3 (refine ev_st rfl rfl ?_)
      refine ev_iald (23 * L.getD i 0 + p) rfl hA13 (by simp only [w32]; omega) (by omega) ?_
      rw [e13]
      iterate 1 (refine ev_st rfl rfl ?_)
      refine ev_getf rfl hM_0 (by rfl) ?_
      iterate 1 (refine ev_st rfl rfl ?_)
      refine ev_iald p rfl hA20 (by simp only [w32]; omega) (by omega) ?_
      rw [ha]
      exact hgo
    by_cases z : e_bh E (L.getD i 0) p = agf E L p i
    · obtain ⟨C', hh, go⟩ := ih (i + 1) C (by omega) (by omega) q ro (by rw [agf_s, if_pos z]; exact ha)
      refine ⟨C', hh, fun {o} hgo => pre ?_⟩
      refine ev_icT rfl (by simp only [ick, w32]; omega) ?_
      iterate 2 (refine ev_st rfl rfl ?_)
      exact go hgo
    · have k0 : kx [20] C (rU C 20 (va_up (C.1 20) p (-1))) := kx.u (by decide)
      obtain ⟨C', ⟨k1, a1, a2⟩, go⟩ := ih (i + 1) (rU C 20 (va_up (C.1 20) p (-1))) (by omega) (by omega) (q.kx hP k0 (by decide)) (ro.kx k0 (by decide)) (by rw [agf_s, if_neg z]; exact va_up_self _ _ _)
      refine ⟨C', ⟨k0.tr k1, a1, fun p' hp' => (a2 p' hp').trans (va_up_ne _ _ hp')⟩, fun {o} hgo => pre ?_⟩
      refine ev_icF rfl (by simp only [ick, w32]; omega) ?_
      iterate 1 (refine ev_st rfl rfl ?_)
      refine ev_getf rfl hM_0 (by rfl) ?_
      iterate 2 (refine ev_st rfl rfl ?_)
      refine ev_iast p rfl hA20 (by simp only [w32]; omega) (by omega) ?_
      rw [hP20]
      iterate 2 (refine ev_st rfl rfl ?_)
      exact go hgo
theorem l_rp {h : AH} {M N : Nat} {E : EL} {L : List Nat} (hN : N ≤ 400) (hB : BW N E) (hl : ∀ n ∈ L, n < N) (hL : L.length ≤ 400) (hP : PW N E) : ∀ (k p : Nat) (C : RM) (j2 : Option AV), p + k = 23 → rE C N E → rO C L → (∀ p', p' < p → C.1 20 p' = r_agr E L p' ∧ C.1 19 p' = r_agr E L p') → ∃ (C' : RM) (j2' : Option AV), (kx [19, 20] C C' ∧ ∀ p', p' < 23 → C'.1 20 p' = r_agr E L p' ∧ C'.1 19 p' = r_agr E L p') ∧ ∀ {o : Option AV × AH}, Ev tMd_resolve 107 [some (vR M), some (.inl 23), j2'] [] (hM h M C') o → Ev tMd_resolve 2 [some (vR M), some (.inl (p : Int)), j2] [] (hM h M C) o := by
  intro k
  induction k with
  | zero =>
    intro p C j2 hp q ro ha
    obtain rfl : p = 23 := by omega
    refine ⟨C, j2, ⟨kx.rf, ha⟩, fun {o} hgo => ?_⟩
    iterate 2 (refine ev_st rfl rfl ?_)
    refine ev_icT rfl (by simp only [ick, w32]; omega) ?_
    exact hgo
  | succ k ih =>
    intro p C j2 hp q ro ha
    -- what is first of all
    have first : ∃ C1, (kx [19, 20] C C1 ∧ C1.1 19 = C.1 19 ∧ C1.1 20 p = r_agr E L p ∧ ∀ p', p' ≠ p → C1.1 20 p' = C.1 20 p') ∧ ∃ j2', ∀ {o : Option AV × AH}, Ev tMd_resolve 89 [some (vR M), some (.inl (p : Int)), j2'] [] (hM h M C1) o → Ev tMd_resolve 2 [some (vR M), some (.inl (p : Int)), j2] [] (hM h M C) o := by
      by_cases h0 : L.length = 0
      · have hnil : L = [] := List.eq_nil_of_length_eq_zero h0
        refine ⟨rU C 20 (va_up (C.1 20) p (-1)), ⟨kx.u (by decide), rfl, ?_, fun p' hp' => va_up_ne _ _ hp'⟩, some (.inl 1), fun {o} hgo => ?_⟩
        · rw [hnil]; exact va_up_self _ _ _
        · iterate 2 (refine ev_st rfl rfl ?_)
          refine ev_icF rfl (by simp only [ick, w32]; omega) ?_
          iterate 1 (refine ev_st rfl rfl ?_)
          refine ev_getf rfl hM_0 (by rfl) ?_
          iterate 2 (refine ev_st rfl rfl ?_)
          refine ev_getf rfl hM_0 (by rfl) ?_
          rw [ro.1]
          refine ev_ifF rfl (by simp only [ick, w32]; omega) ?_
          iterate 2 (refine ev_st rfl rfl ?_)
          refine ev_iast p rfl hA20 (by simp only [w32]; omega) (by omega) ?_
          rw [hP20]
          iterate 4 (refine ev_st rfl rfl ?_)
          refine ev_getf rfl hM_0 (by rfl) ?_
          rw [show (rU C 20 (va_up (C.1 20) p (-1))).2.2.1 = (L.length : Int) from ro.1]
          refine ev_icT rfl (by simp only [ick, w32]; omega) ?_
          exact hgo
      · have hn := hl _ (getD_mem (show 0 < L.length by omega))
        have e13 := (q.2 _ hn).2.2.2.2.2.2.2 p (by omega)
        have k0 : kx [20] C (rU C 20 (va_up (C.1 20) p (e_bh E (L.getD 0 0) p))) := kx.u (by decide)
        obtain ⟨C1, ⟨k1, a1, a2⟩, go⟩ := l_ra (h := h) (M := M) (p := p) hN hB hl hL (by omega) hP (L.length - 1) 1 (rU C 20 (va_up (C.1 20) p (e_bh E (L.getD 0 0) p))) (by omega) (by omega) (q.kx hP k0 (by decide)) (ro.kx k0 (by decide)) (by
          show va_up (C.1 20) p _ p = _
          rw [va_up_self]
          unfold agf
          rw [if_pos (fun j hj => by rw [show j = 0 by omega])])
        refine ⟨C1, ⟨(k0.tr k1).mono (by decide), (k0.tr k1).1 19 (by decide), a1, fun p' hp' => (a2 p' hp').trans (va_up_ne _ _ hp')⟩, some (.inl (L.length : Int)), fun {o} hgo => ?_⟩
        iterate 2 (refine ev_st rfl rfl ?_)
        refine ev_icF rfl (by simp only [ick, w32]; omega) ?_
        iterate 1 (refine ev_st rfl rfl ?_)
        refine ev_getf rfl hM_0 (by rfl) ?_
        iterate 2 (refine ev_st rfl rfl ?_)
        refine ev_getf rfl hM_0 (by rfl) ?_
        rw [ro.1]
        refine ev_ifT rfl (by simp only [ick, w32]; omega) ?_
        iterate 1 (refine ev_st rfl rfl ?_)
        refine ev_getf rfl hM_0 (by rfl) ?_
        iterate 2 (refine ev_st rfl rfl ?_)
        refine ev_getf rfl hM_0 (by rfl) ?_
        iterate 1 (refine ev_st rfl rfl ?_)
        refine ev_iald 0 rfl hA18 (by decide) (by omega) ?_
        rw [ro.2 0 (by omega)]
        iterate 3 (refine ev_st rfl rfl ?_)
        refine ev_iald (23 * L.getD 0 0 + p) rfl hA13 (by simp only [w32]; omega) (by omega) ?_
        rw [e13]
        refine ev_iast p rfl hA20 (by simp only [w32]; omega) (by omega) ?_
        rw [hP20]
        iterate 2 (refine ev_st rfl rfl ?_)
        exact go hgo
    obtain ⟨C1, ⟨k1, b1, b2_, b3⟩, j2', go1⟩ := first
    have k2 : kx [19, 20] C1 (rU C1 19 (va_up (C1.1 19) p (r_agr E L p))) := kx.u (by decide)
    have k12 := k1.tr k2
    obtain ⟨C', j2'', ⟨k3, a3⟩, go3⟩ := ih (p + 1) (rU C1 19 (va_up (C1.1 19) p (r_agr E L p))) j2' (by omega) (q.kx hP k12 (by decide)) (ro.kx k12 (by decide)) (fun p' hp' => by
      by_cases w : p' = p
      · subst w; exact ⟨b2_, va_up_self _ _ _⟩
      · obtain ⟨x1, x2⟩ := ha p' (by omega)
        exact ⟨(b3 p' w).trans x1, (va_up_ne _ _ w).trans (by rw [b1]; exact x2)⟩)
    refine ⟨C', j2'', ⟨k12.tr k3, a3⟩, fun {o} hgo => go1 ?_⟩
    iterate 1 (refine ev_st rfl rfl ?_)
    refine ev_getf rfl hM_0 (by rfl) ?_
    iterate 2 (refine ev_st rfl rfl ?_)
    refine ev_getf rfl hM_0 (by rfl) ?_
    iterate 1 (refine ev_st rfl rfl ?_)
    refine ev_iald p rfl hA20 (by simp only [w32]; omega) (by omega) ?_
    rw [b2_]
    refine ev_iast p rfl hA19 (by simp only [w32]; omega) (by omega) ?_
    rw [hP19]
    iterate 2 (refine ev_st rfl rfl ?_)
    exact go3 hgo
theorem l_rf {h : AH} {M : Nat} {ag s : SS} {j2 : Option AV} : ∀ (k p : Nat) (C : RM), p + k = 23 → (∀ p, p < 23 → C.1 20 p = ag p ∧ -1 ≤ ag p ∧ ag p < 400) → (∀ p', p' < 23 → C.1 19 p' = bif Nat.blt p' p then (if 0 ≤ ag p' then ag p' else s p') else s p') → ∃ C', (kx [19] C C' ∧ ∀ p', p' < 23 → C'.1 19 p' = if 0 ≤ ag p' then ag p' else s p') ∧ Ev tMd_resolve 134 [some (vR M), some (.inl (p : Int)), j2] [] (hM h M C) (none, hM h M C') := by
  intro k
  induction k with
  | zero =>
    intro p C hp ha h19
    obtain rfl : p = 23 := by omega
    refine ⟨C, ⟨kx.rf, fun p' hp' => by rw [h19 p' hp', blt_t hp']; rfl⟩, ?_⟩
    iterate 2 (refine ev_st rfl rfl ?_)
    refine ev_icT rfl (by simp only [ick, w32]; omega) ?_
    exact ev_rt rfl rfl rfl
  | succ k ih =>
    intro p C hp ha h19
    obtain ⟨a1, a2, a3⟩ := ha p (by omega)
    have b1 := h19 p (by omega)
    rw [blt_f (by omega), cond_false] at b1
    by_cases z : 0 ≤ ag p
    · obtain ⟨C', ⟨k1, x1⟩, go⟩ := ih (p + 1) (rU C 19 (va_up (C.1 19) p (ag p))) (by omega) ha (fun p' hp' => by
        show va_up (C.1 19) p (ag p) p' = _
        simp only [va_up]
        by_cases w : p' = p
        · rw [if_pos w, w, blt_t (by omega), cond_true, if_pos z]
        · rw [if_neg w, h19 p' hp']
          by_cases q2 : p' < p
          · rw [blt_t q2, blt_t (show p' < p + 1 by omega)]
          · rw [blt_f q2, blt_f (show ¬ p' < p + 1 by omega)])
      refine ⟨C', ⟨(kx.u (by decide)).tr k1, x1⟩, ?_⟩
      iterate 2 (refine ev_st rfl rfl ?_)
      refine ev_icF rfl (by simp only [ick, w32]; omega) ?_
      iterate 1 (refine ev_st rfl rfl ?_)
      refine ev_getf rfl hM_0 (by rfl) ?_
      iterate 1 (refine ev_st rfl rfl ?_)
      refine ev_iald p rfl hA20 (by simp only [w32]; omega) (by omega) ?_
      rw [a1]
      refine ev_ifF rfl (by simp only [ick, w32]; omega) ?_
      iterate 1 (refine ev_st rfl rfl ?_)
      refine ev_getf rfl hM_0 (by rfl) ?_
      iterate 2 (refine ev_st rfl rfl ?_)
      refine ev_getf rfl hM_0 (by rfl) ?_
      iterate 1 (refine ev_st rfl rfl ?_)
      refine ev_iald p rfl hA20 (by simp only [w32]; omega) (by omega) ?_
      rw [a1]
      refine ev_iast p rfl hA19 (by simp only [w32]; omega) (by omega) ?_
      rw [hP19]
      iterate 2 (refine ev_st rfl rfl ?_)
      exact go
    · obtain ⟨C', ⟨k1, x1⟩, go⟩ := ih (p + 1) C (by omega) ha (fun p' hp' => by
        by_cases w : p' = p
        · subst w; rw [blt_t (by omega), cond_true, if_neg z]; exact b1
        · rw [h19 p' hp']
          by_cases q2 : p' < p
          · rw [blt_t q2, blt_t (show p' < p + 1 by omega)]
          · rw [blt_f q2, blt_f (show ¬ p' < p + 1 by omega)])
      refine ⟨C', ⟨k1, x1⟩, ?_⟩
      iterate 2 (refine ev_st rfl rfl ?_)
      refine ev_icF rfl (by simp only [ick, w32]; omega) ?_
      iterate 1 (refine ev_st rfl rfl ?_)
      refine ev_getf rfl hM_0 (by rfl) ?_
      iterate 1 (refine ev_st rfl rfl ?_)
      refine ev_iald p rfl hA20 (by simp only [w32]; omega) (by omega) ?_
      rw [a1]
      refine ev_ifT rfl (by simp only [ick, w32]; omega) ?_
      iterate 2 (refine ev_st rfl rfl ?_)
      exact go
theorem ord1_sub {N : Nat} {E : EL} : ∀ (n : Nat) (pw cf : Nat → Bool) (s : SS) (y : Nat), (r_ord1 N E n pw cf s).1 y = true → cf y = true := by
  intro n
  induction n with
  | zero => intro pw cf s y h; exact h
  | succ n ih =>
    intro pw cf s y h
    simp only [r_ord1] at h
    cases hb : r_best1 N E pw N with
    | none => rw [hb] at h; exact h
    | some e => rw [hb] at h; exact (f_off_iff.1 (ih _ _ _ _ h)).2
abbrev S_r : List Nat := [19, 20, 21, 22, 23, 24, 25, 26, 27]
theorem c_mres {h : AH} {M N : Nat} {C : RM} {E : EL} {L : List Nat} (hE : EOK N E) (q : rE C N E) (ro : rO C L) (hl : ∀ n ∈ L, n < N) (hL : L.length ≤ 400) : ∃ C', Em mMd_resolve 2 [vR M] (hM h M C) none (hM h M C') ∧ kr S_r C C' ∧ ∀ p, p < 23 → C'.1 19 p = r_res N E L p := by
  obtain ⟨hN, hW, hP, hX, hO, hBf⟩ := id hE
  have hB := hE.bw
  have sag := agr_ok hB hl
  obtain ⟨C1, j2, ⟨k1, a1⟩, go1⟩ := l_rp (h := h) (M := M) hN hB hl hL hP 23 0 C none (by omega) q ro (fun p hp => by omega)
  have k1' : kx S_r C C1 := k1.mono (by decide)
  have q1 := q.kx hP k1 (by decide)
  have ro1 := ro.kx k1 (by decide)
  by_cases l2 : L.length < 2
  · refine ⟨C1, ?_, k1'.kr, fun p hp => ?_⟩
    · show Ev tMd_resolve 0 [some (vR M), none, none] [] _ _
      iterate 2 (refine ev_st rfl rfl ?_)
      refine go1 ?_
      iterate 1 (refine ev_st rfl rfl ?_)
      refine ev_getf rfl hM_0 (by rfl) ?_
      rw [ro1.1]
      iterate 1 (refine ev_st rfl rfl ?_)
      refine ev_icF rfl (by simp only [ick, w32]; omega) ?_
      exact ev_rt rfl rfl rfl
    · unfold r_res
      rw [if_pos l2]
      exact (a1 p hp).2
  · obtain ⟨C2, c2, k2, h2⟩ := c_mconf (h := h) (M := M) hN hP hB hl hL q1 ro1 (fun p hp => (a1 p hp).1) (fun p _ => sag.r400 hN p)
    have q2 := q1.kx hP k2 S_c18
    obtain ⟨C3, c3, k3, h3⟩ := c_mpows (h := h) (M := M) hN hP hW q2 h2
    have q3 := q2.kx hP k3 (by decide)
    have k23 : kx S_r C1 C3 := (k2.mono (S' := S_r) (by decide)).tr (k3.mono (S' := S_r) (by decide))
    have h19 : ∀ p, p < 23 → C3.1 19 p = r_agr E L p := fun p hp => by rw [k3.1 19 (by decide), k2.1 19 (by decide)]; exact (a1 p hp).2
    obtain ⟨C4, c4, k4, h4, r4, s4⟩ := c_mord1 (h := h) (M := M) (pw := r_pow N E (r_conf E L)) (cf := r_conf E L) (s := r_agr E L) hE q3 (fun y hy => by
      unfold r_pow at hy
      rw [Bool.and_eq_true] at hy
      exact conf_ok hB hX hl hy.1) sag h3 (fun z hz => by rw [k3.1 22 (by decide)]; exact h2 z hz) h19
    have q4 := q3.kx hP k4 (by decide)
    obtain ⟨C5, c5, k5, r5⟩ := c_mord2 (h := h) (M := M) hE q4 (fun y hy => conf_ok hB hX hl (ord1_sub _ _ _ _ y hy)) s4 h4 r4
    have k25 : kr S_r C1 C5 := (k23.kr.tr (k4.kr.mono (by decide))).tr (k5.mono (by decide))
    obtain ⟨C6, ⟨k6, r6⟩, go6⟩ := l_rf (h := h) (M := M) (ag := r_agr E L) (s := r_ord2 N E (r_main E 401 ((r_ord1 N E N (r_pow N E (r_conf E L)) (r_conf E L) (r_agr E L)).2 13)) N (r_ord1 N E N (r_pow N E (r_conf E L)) (r_conf E L) (r_agr E L)).1 (r_ord1 N E N (r_pow N E (r_conf E L)) (r_conf E L) (r_agr E L)).2) (j2 := j2) 23 0 C5 (by omega) (fun p hp => ⟨by rw [k5.1 20 (by decide), k4.1 20 (by decide), k3.1 20 (by decide), k2.1 20 (by decide)]; exact (a1 p hp).1, sag.r400 hN p⟩) (fun p hp => r5 p hp)
    refine ⟨C6, ?_, (k1'.kr.tr k25).tr (k6.kr.mono (by decide)), fun p hp => ?_⟩
    · show Ev tMd_resolve 0 [some (vR M), none, none] [] _ _
      iterate 2 (refine ev_st rfl rfl ?_)
      refine go1 ?_
      iterate 1 (refine ev_st rfl rfl ?_)
      refine ev_getf rfl hM_0 (by rfl) ?_
      rw [ro1.1]
      iterate 1 (refine ev_st rfl rfl ?_)
      refine ev_icT rfl (by simp only [ick, w32]; omega) ?_
      iterate 1 (refine ev_st rfl rfl ?_)
      refine ev_callV rfl rfl hM_0 rfl c2 ?_
      iterate 1 (refine ev_st rfl rfl ?_)
      refine ev_callV rfl rfl hM_0 rfl c3 ?_
      iterate 1 (refine ev_st rfl rfl ?_)
      refine ev_callV rfl rfl hM_0 rfl c4 ?_
      iterate 1 (refine ev_st rfl rfl ?_)
      refine ev_callV rfl rfl hM_0 rfl c5 ?_
      iterate 2 (refine ev_st rfl rfl ?_)
      exact go6
    · unfold r_res
      rw [if_neg l2]
      exact r6 p hp
