-- the reference: orderOne
theorem l_free {h : AH} {M N e : Nat} {C : RM} {E : EL} {pw : Nat → Bool} {j1 j2 : Option AV} (hN : N ≤ 400) (q : rE C N E) (he : e < N) (hp : ∀ z, z < N → C.1 23 z = b2 (pw z)) {o : Option AV × AH} : ∀ (k y : Nat), y + k = N → Ev tMd_orderOne 89 [some (vR M), j1, j2, some (.inl (e : Int)), some (vB (b_all N fun y => !(pw y && e_ch (E e) y))), some (.inl (N : Int))] [] (hM h M C) o → Ev tMd_orderOne 36 [some (vR M), j1, j2, some (.inl (e : Int)), some (vB (b_all y fun y => !(pw y && e_ch (E e) y))), some (.inl (y : Int))] [] (hM h M C) o := by
  intro k
  induction k with
  | zero =>
    intro y hy hgo
    obtain rfl : y = N := by omega
    iterate 2 (refine ev_st rfl rfl ?_)
    refine ev_getf rfl hM_0 (by rfl) ?_
    rw [q.1]
    refine ev_icT rfl (by simp only [ick, w32]; omega) ?_
    exact hgo
  | succ k ih =>
    intro y hy hgo
    have e10 := (q.2 e he).2.2.2.2.1 y (by omega)
    have e23 := hp y (by omega)
    have := ih (y + 1) (by omega) hgo
    simp only [b_all] at this
    generalize (b_all y fun y => !(pw y && e_ch (E e) y)) = bb at *
    iterate 2 (refine ev_st rfl rfl ?_)
    refine ev_getf rfl hM_0 (by rfl) ?_
    rw [q.1]
    refine ev_icF rfl (by simp only [ick, w32]; omega) ?_
    iterate 1 (refine ev_st rfl rfl ?_)
    cases bb with
    | false =>
      refine ev_zeqT rfl rfl ?_
      iterate 4 (refine ev_st rfl rfl ?_)
      exact this
    | true =>
      rw [Bool.true_and] at this
      refine ev_zeqF rfl rfl ?_
      iterate 1 (refine ev_st rfl rfl ?_)
      refine ev_getf rfl hM_0 (by rfl) ?_
      iterate 1 (refine ev_st rfl rfl ?_)
      refine ev_iald y rfl hA23 (by simp only [w32]; omega) (by omega) ?_
      rw [e23]
      cases hpy : pw y with
      | false =>
        rw [hpy, Bool.false_and] at this
        refine ev_zeqT rfl rfl ?_
        iterate 5 (refine ev_st rfl rfl ?_)
        exact this
      | true =>
        rw [hpy, Bool.true_and] at this
        refine ev_zeqF rfl rfl ?_
        iterate 1 (refine ev_st rfl rfl ?_)
        refine ev_getf rfl hM_0 (by rfl) ?_
        iterate 5 (refine ev_st rfl rfl ?_)
        refine ev_iald (400 * e + y) rfl hA10 (by simp only [w32]; omega) (by omega) ?_
        rw [e10]
        cases hh : e_ch (E e) y with
        | false =>
          rw [hh] at this
          refine ev_zneF rfl rfl ?_
          iterate 5 (refine ev_st rfl rfl ?_)
          exact this
        | true =>
          rw [hh] at this
          refine ev_zneT rfl rfl ?_
          iterate 4 (refine ev_st rfl rfl ?_)
          exact this
theorem best1_s {N : Nat} {E : EL} {pw : Nat → Bool} {k : Nat} : r_best1 N E pw (k + 1) = bif pw k && (r_free N E pw k && fb E k (r_best1 N E pw k)) then some k else r_best1 N E pw k := by
  simp only [r_best1]
  cases r_best1 N E pw k <;> rfl
theorem best1_lt {N : Nat} {E : EL} {pw : Nat → Bool} : ∀ (k f : Nat), r_best1 N E pw k = some f → f < k := by
  intro k
  induction k with
  | zero => intro f hf; cases hf
  | succ k ih =>
    intro f hf
    rw [best1_s] at hf
    cases hb : (pw k && (r_free N E pw k && fb E k (r_best1 N E pw k))) with
    | true => rw [hb, cond_true] at hf; have := Option.some.inj hf; omega
    | false => rw [hb, cond_false] at hf; have := ih f hf; omega
theorem l_mbest1 {h : AH} {M N : Nat} {E : EL} {pw : Nat → Bool} {j1 : Option AV} (hE : EOK N E) : ∀ (k e : Nat) (C : RM) (j4 j5 : Option AV), e + k = N → rE C N E → (∀ z, z < N → C.1 23 z = b2 (pw z)) → ∃ (C' : RM) (j4' j5' : Option AV), kx [27] C C' ∧ ∀ {o : Option AV × AH}, Ev tMd_orderOne 111 [some (vR M), j1, some (.inl (ob (r_best1 N E pw N))), some (.inl (N : Int)), j4', j5'] [] (hM h M C') o → Ev tMd_orderOne 10 [some (vR M), j1, some (.inl (ob (r_best1 N E pw e))), some (.inl (e : Int)), j4, j5] [] (hM h M C) o := by
  have hN := hE.1
  have hP := hE.2.2.1
  intro k
  induction k with
  | zero =>
    intro e C j4 j5 he q hp
    obtain rfl : e = N := by omega
    refine ⟨C, j4, j5, kx.rf, fun {o} hgo => ?_⟩
    iterate 2 (refine ev_st rfl rfl ?_)
    refine ev_getf rfl hM_0 (by rfl) ?_
    rw [q.1]
    refine ev_icT rfl (by simp only [ick, w32]; omega) ?_
    exact hgo
  | succ k ih =>
    intro e C j4 j5 he q hp
    have e23 := hp e (by omega)
    cases hpe : pw e with
    | false =>
      obtain ⟨C', j4', j5', k1, go⟩ := ih (e + 1) C j4 j5 (by omega) q hp
      refine ⟨C', j4', j5', k1, fun {o} hgo => ?_⟩
      have := go hgo
      simp only [best1_s, hpe, Bool.false_and, cond_false] at this
      iterate 2 (refine ev_st rfl rfl ?_)
      refine ev_getf rfl hM_0 (by rfl) ?_
      rw [q.1]
      refine ev_icF rfl (by simp only [ick, w32]; omega) ?_
      iterate 1 (refine ev_st rfl rfl ?_)
      refine ev_getf rfl hM_0 (by rfl) ?_
      iterate 1 (refine ev_st rfl rfl ?_)
      refine ev_iald e rfl hA23 (by simp only [w32]; omega) (by omega) ?_
      rw [e23, hpe]
      refine ev_zneF rfl rfl ?_
      iterate 3 (refine ev_st rfl rfl ?_)
      exact this
    | true =>
      have pre : ∀ {o : Option AV × AH}, Ev tMd_orderOne 89 [some (vR M), j1, some (.inl (ob (r_best1 N E pw e))), some (.inl (e : Int)), some (vB (r_free N E pw e)), some (.inl (N : Int))] [] (hM h M C) o → Ev tMd_orderOne 10 [some (vR M), j1, some (.inl (ob (r_best1 N E pw e))), some (.inl (e : Int)), j4, j5] [] (hM h M C) o := by
        intro o hgo
        iterate 2 (refine ev_st rfl rfl ?_)
        refine ev_getf rfl hM_0 (by rfl) ?_
        rw [q.1]
        refine ev_icF rfl (by simp only [ick, w32]; omega) ?_
        iterate 1 (refine ev_st rfl rfl ?_)
        refine ev_getf rfl hM_0 (by rfl) ?_
        iterate 1 (refine ev_st rfl rfl ?_)
        refine ev_iald e rfl hA23 (by simp only [w32]; omega) (by omega) ?_
        rw [e23, hpe]
        refine ev_zneT rfl rfl ?_
        iterate 4 (refine ev_st rfl rfl ?_)
        exact l_free hN q (by omega) hp N 0 (by omega) hgo
      cases hfr : r_free N E pw e with
      | false =>
        rw [hfr] at pre
        obtain ⟨C', j4', j5', k1, go⟩ := ih (e + 1) C (some (vB false)) (some (.inl (N : Int))) (by omega) q hp
        refine ⟨C', j4', j5', k1, fun {o} hgo => pre ?_⟩
        have := go hgo
        simp only [best1_s, hpe, hfr, Bool.false_and, Bool.and_false, cond_false] at this
        iterate 1 (refine ev_st rfl rfl ?_)
        refine ev_zeqT rfl rfl ?_
        iterate 2 (refine ev_st rfl rfl ?_)
        exact this
      | true =>
        rw [hfr] at pre
        obtain ⟨C1, c1, k1⟩ := c_mfirst (h := h) (M := M) (b := r_best1 N E pw e) hE q (show e < N by omega) (fun f hf => by have := best1_lt e f hf; omega)
        have q1 := q.kx hP k1 (by decide)
        obtain ⟨C', j4', j5', k2, go⟩ := ih (e + 1) C1 (some (vB true)) (some (.inl (N : Int))) (by omega) q1 (fun z hz => by rw [k1.1 23 (by decide)]; exact hp z hz)
        refine ⟨C', j4', j5', k1.tr k2, fun {o} hgo => pre ?_⟩
        have := go hgo
        simp only [best1_s, hpe, hfr, Bool.true_and] at this
        iterate 1 (refine ev_st rfl rfl ?_)
        refine ev_zeqF rfl rfl ?_
        iterate 3 (refine ev_st rfl rfl ?_)
        refine ev_callV rfl rfl hM_0 rfl c1 ?_
        cases hv : fb E e (r_best1 N E pw e) with
        | false =>
          rw [hv, cond_false] at this
          refine ev_zeqT rfl rfl ?_
          iterate 2 (refine ev_st rfl rfl ?_)
          exact this
        | true =>
          rw [hv, cond_true] at this
          refine ev_zeqF rfl rfl ?_
          iterate 4 (refine ev_st rfl rfl ?_)
          exact this
abbrev S_1 : List Nat := [19, 22, 23, 26, 27]
theorem l_mord1 {h : AH} {M N : Nat} {E : EL} (hE : EOK N E) : ∀ (n : Nat) (pw cf : Nat → Bool) (s : SS) (C : RM) (j2 j3 j4 j5 : Option AV), b_cnt N pw ≤ n → (∀ y, pw y = true → y < N ∧ ¬ e_kd (E y) = 5) → rE C N E → sOK N E s → (∀ z, z < N → C.1 23 z = b2 (pw z)) → (∀ z, z < N → C.1 22 z = b2 (cf z)) → (∀ p, p < 23 → C.1 19 p = s p) → ∃ C', (kx S_1 C C' ∧ (∀ z, z < N → C'.1 22 z = b2 ((r_ord1 N E n pw cf s).1 z)) ∧ (∀ p, p < 23 → C'.1 19 p = (r_ord1 N E n pw cf s).2 p) ∧ sOK N E (r_ord1 N E n pw cf s).2) ∧ Ev tMd_orderOne 2 [some (vR M), some (.inl 1), j2, j3, j4, j5] [] (hM h M C) (none, hM h M C') := by
  obtain ⟨hN, hW, hP, hX, hO, hB⟩ := id hE
  intro n
  induction n with
  | zero =>
    intro pw cf s C j2 j3 j4 j5 hn hpw q hs h23 h22 h19
    obtain ⟨C1, j4', j5', k1, go1⟩ := l_mbest1 (h := h) (M := M) (pw := pw) (j1 := some (.inl 1)) hE N 0 C j4 j5 (by omega) q h23
    have hno : r_best1 N E pw N = none := by
      cases hb : r_best1 N E pw N with
      | none => rfl
      | some e =>
        have h1 := best1_some hN hb
        have h2 := cnt_0 (pw := pw) (N := N) (by omega) e (best1_lt N e hb)
        rw [h2] at h1
        cases h1.2.1
    rw [hno] at go1
    refine ⟨C1, ⟨k1.mono (by decide), fun z hz => by rw [k1.1 22 (by decide)]; exact h22 z hz, fun p hp => by rw [k1.1 19 (by decide)]; exact h19 p hp, hs⟩, ?_⟩
    iterate 1 (refine ev_st rfl rfl ?_)
    refine ev_ifF rfl (by simp only [ick, w32]; omega) ?_
    iterate 4 (refine ev_st rfl rfl ?_)
    refine go1 ?_
    iterate 1 (refine ev_st rfl rfl ?_)
    refine ev_ifT rfl (by simp only [ick, ob, w32]; omega) ?_
    iterate 3 (refine ev_st rfl rfl ?_)
    refine ev_ifF rfl (by simp only [ick, w32]; omega) ?_
    iterate 2 (refine ev_st rfl rfl ?_)
    refine ev_ifT rfl (by simp only [ick, w32]; omega) ?_
    exact ev_rt rfl rfl rfl
  | succ n ih =>
    intro pw cf s C j2 j3 j4 j5 hn hpw q hs h23 h22 h19
    obtain ⟨C1, j4', j5', k1, go1⟩ := l_mbest1 (h := h) (M := M) (pw := pw) (j1 := some (.inl 1)) hE N 0 C j4 j5 (by omega) q h23
    cases hb : r_best1 N E pw N with
    | none =>
      rw [hb] at go1
      have e0 : r_ord1 N E (n + 1) pw cf s = (cf, s) := by simp only [r_ord1, hb]
      rw [e0]
      refine ⟨C1, ⟨k1.mono (by decide), fun z hz => by rw [k1.1 22 (by decide)]; exact h22 z hz, fun p hp => by rw [k1.1 19 (by decide)]; exact h19 p hp, hs⟩, ?_⟩
      iterate 1 (refine ev_st rfl rfl ?_)
      refine ev_ifF rfl (by simp only [ick, w32]; omega) ?_
      iterate 4 (refine ev_st rfl rfl ?_)
      refine go1 ?_
      iterate 1 (refine ev_st rfl rfl ?_)
      refine ev_ifT rfl (by simp only [ick, ob, w32]; omega) ?_
      iterate 3 (refine ev_st rfl rfl ?_)
      refine ev_ifF rfl (by simp only [ick, w32]; omega) ?_
      iterate 2 (refine ev_st rfl rfl ?_)
      refine ev_ifT rfl (by simp only [ick, w32]; omega) ?_
      exact ev_rt rfl rfl rfl
    | some e =>
      rw [hb] at go1
      have e0 : r_ord1 N E (n + 1) pw cf s = r_ord1 N E n (f_off pw e) (f_off cf e) (r_try E s e) := by simp only [r_ord1, hb]
      rw [e0]
      have heN := best1_lt N e hb
      have hpe := (best1_some hN hb).2.1
      have hk5 := (hpw e hpe).2
      have k1' : kx S_1 C C1 := k1.mono (by decide)
      have k2 : kx S_1 C1 (rU (rU C1 23 (va_up (C1.1 23) e 0)) 22 (va_up (C1.1 22) e 0)) := (kx.u (by decide)).tr (kx.u (by decide))
      have k12 := k1'.tr k2
      have q2 := q.kx hP k12 (by decide)
      obtain ⟨C3, c3, k3, r3⟩ := c_mtry (h := h) (M := M) (s := s) hE q2 heN hk5 hs (fun p hp => by show C1.1 19 p = s p; rw [k1.1 19 (by decide)]; exact h19 p hp)
      have k13 := k12.tr (k3.mono (S' := S_1) (by decide))
      have off : ∀ {f g : Nat → Bool} {F : Nat → Int}, (∀ z, z < N → F z = b2 (f z)) → ∀ z, z < N → va_up F e 0 z = b2 (f_off f e z) := by
        intro f g F hF z hz
        simp only [va_up]
        unfold f_off
        by_cases w : z = e
        · rw [if_pos w, w, show Nat.beq e e = true from Nat.beq_refl e]; rfl
        · rw [if_neg w, hF z hz, beq_ne w]; rfl
      obtain ⟨C', ⟨k4, a1, a2, a3⟩, go4⟩ := ih (f_off pw e) (f_off cf e) (r_try E s e) C3 (some (.inl (e : Int))) (some (.inl (N : Int))) j4' j5' (by have := cnt_off hpe heN; omega) (fun y hy => hpw y (f_off_iff.1 hy).2) (q.kx hP k13 (by decide)) (try_ok hs heN hW hk5) (fun z hz => by
        rw [k3.1 23 (by decide)]
        exact off (g := pw) (fun z hz => by rw [k1.1 23 (by decide)]; exact h23 z hz) z hz) (fun z hz => by
        rw [k3.1 22 (by decide)]
        exact off (g := pw) (fun z hz => by rw [k1.1 22 (by decide)]; exact h22 z hz) z hz) r3
      refine ⟨C', ⟨k13.tr k4, a1, a2, a3⟩, ?_⟩
      iterate 1 (refine ev_st rfl rfl ?_)
      refine ev_ifF rfl (by simp only [ick, w32]; omega) ?_
      iterate 4 (refine ev_st rfl rfl ?_)
      refine go1 ?_
      show Ev tMd_orderOne 111 [some (vR M), some (.inl 1), some (.inl (e : Int)), some (.inl (N : Int)), j4', j5'] [] _ _
      iterate 1 (refine ev_st rfl rfl ?_)
      refine ev_ifF rfl (by simp only [ick, w32]; omega) ?_
      iterate 4 (refine ev_st rfl rfl ?_)
      refine ev_ifT rfl (by simp only [ick, w32]; omega) ?_
      iterate 1 (refine ev_st rfl rfl ?_)
      refine ev_getf rfl hM_0 (by rfl) ?_
      iterate 2 (refine ev_st rfl rfl ?_)
      refine ev_bast e rfl hA23 (by simp only [w32]; omega) (by omega) (Or.inl rfl) ?_
      rw [hP23]
      iterate 1 (refine ev_st rfl rfl ?_)
      refine ev_getf rfl hM_0 (by rfl) ?_
      iterate 2 (refine ev_st rfl rfl ?_)
      refine ev_bast e rfl hA22 (by simp only [w32]; omega) (by omega) (Or.inl rfl) ?_
      rw [hP22]
      iterate 2 (refine ev_st rfl rfl ?_)
      refine ev_callV rfl rfl hM_0 rfl c3 ?_
      iterate 1 (refine ev_st rfl rfl ?_)
      exact go4
theorem c_mord1 {h : AH} {M N : Nat} {C : RM} {E : EL} {pw cf : Nat → Bool} {s : SS} (hE : EOK N E) (q : rE C N E) (hpw : ∀ y, pw y = true → y < N ∧ ¬ e_kd (E y) = 5) (hs : sOK N E s) (h23 : ∀ z, z < N → C.1 23 z = b2 (pw z)) (h22 : ∀ z, z < N → C.1 22 z = b2 (cf z)) (h19 : ∀ p, p < 23 → C.1 19 p = s p) : ∃ C', Em mMd_orderOne 5 [vR M] (hM h M C) none (hM h M C') ∧ kx S_1 C C' ∧ (∀ z, z < N → C'.1 22 z = b2 ((r_ord1 N E N pw cf s).1 z)) ∧ (∀ p, p < 23 → C'.1 19 p = (r_ord1 N E N pw cf s).2 p) ∧ sOK N E (r_ord1 N E N pw cf s).2 := by
  obtain ⟨C', ⟨a1, a2, a3, a4⟩, go⟩ := l_mord1 (h := h) (M := M) hE N pw cf s C none none none none (b_cnt_le _ _) hpw q hs h23 h22 h19
  refine ⟨C', ?_, a1, a2, a3, a4⟩
  show Ev tMd_orderOne 0 [some (vR M), none, none, none, none, none] [] _ _
  iterate 2 (refine ev_st rfl rfl ?_)
  exact go
