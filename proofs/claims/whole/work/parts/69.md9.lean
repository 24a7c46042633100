-- the reference: findPowers, tryOne, senderLevel, first
theorem blt_t {a b : Nat} (hh : a < b) : Nat.blt a b = true := Nat.ble_eq_true_of_le hh
theorem blt_f {a b : Nat} (hh : ¬ a < b) : Nat.blt a b = false := by
  cases hz : Nat.blt a b
  · rfl
  · exact absurd (Nat.le_of_ble_eq_true hz) hh
theorem l_pz {h : AH} {M N : Nat} {j2 j3 : Option AV} : ∀ (k e : Nat) (C : RM), e + k = N → N ≤ 400 → C.2.1 = (N : Int) → (∀ z, z < e → C.1 23 z = 0) → ∃ C', (kx [23] C C' ∧ ∀ z, z < N → C'.1 23 z = 0) ∧ ∀ {o : Option AV × AH}, Ev tMd_findPowers 23 [some (vR M), some (.inl (N : Int)), j2, j3] [] (hM h M C') o → Ev tMd_findPowers 2 [some (vR M), some (.inl (e : Int)), j2, j3] [] (hM h M C) o := by
  intro k
  induction k with
  | zero =>
    intro e C he hN hc hz
    obtain rfl : e = N := by omega
    refine ⟨C, ⟨kx.rf, hz⟩, fun {o} hgo => ?_⟩
    iterate 2 (refine ev_st rfl rfl ?_)
    refine ev_getf rfl hM_0 (by rfl) ?_
    rw [hc]
    refine ev_icT rfl (by simp only [ick, w32]; omega) ?_
    exact hgo
  | succ k ih =>
    intro e C he hN hc hz
    obtain ⟨C', ⟨k1, h1⟩, go⟩ := ih (e + 1) (rU C 23 (va_up (C.1 23) e 0)) (by omega) hN hc (fun z hz' => by
      show va_up (C.1 23) e 0 z = 0
      simp only [va_up]
      by_cases q : z = e
      · rw [if_pos q]
      · rw [if_neg q]; exact hz z (by omega))
    refine ⟨C', ⟨(kx.u (by decide)).tr k1, h1⟩, fun {o} hgo => ?_⟩
    iterate 2 (refine ev_st rfl rfl ?_)
    refine ev_getf rfl hM_0 (by rfl) ?_
    rw [hc]
    refine ev_icF rfl (by simp only [ick, w32]; omega) ?_
    iterate 1 (refine ev_st rfl rfl ?_)
    refine ev_getf rfl hM_0 (by rfl) ?_
    iterate 2 (refine ev_st rfl rfl ?_)
    refine ev_bast e rfl hA23 (by simp only [w32]; omega) (by omega) (Or.inl rfl) ?_
    rw [hP23]
    iterate 2 (refine ev_st rfl rfl ?_)
    exact go hgo
-- the chain of one powerful event
theorem l_py {h : AH} {M N e : Nat} {E : EL} {cf pw : Nat → Bool} {j2 : Option AV} (hN : N ≤ 400) (hP : PW N E) (he : e < N) : ∀ (k y : Nat) (C : RM), y + k = N → rE C N E → (∀ z, z < N → C.1 22 z = b2 (cf z)) → (∀ z, z < N → C.1 23 z = b2 (bif Nat.blt z y then pw z || (cf z && e_ch (E e) z) else pw z)) → ∃ C', (kx [23] C C' ∧ ∀ z, z < N → C'.1 23 z = b2 (pw z || (cf z && e_ch (E e) z))) ∧ ∀ {o : Option AV × AH}, Ev tMd_findPowers 189 [some (vR M), some (.inl (e : Int)), j2, some (.inl (N : Int))] [] (hM h M C') o → Ev tMd_findPowers 131 [some (vR M), some (.inl (e : Int)), j2, some (.inl (y : Int))] [] (hM h M C) o := by
  intro k
  induction k with
  | zero =>
    intro y C hy q hc hp
    obtain rfl : y = N := by omega
    refine ⟨C, ⟨kx.rf, fun z hz => by rw [hp z hz, blt_t hz]; rfl⟩, fun {o} hgo => ?_⟩
    iterate 2 (refine ev_st rfl rfl ?_)
    refine ev_getf rfl hM_0 (by rfl) ?_
    rw [q.1]
    refine ev_icT rfl (by simp only [ick, w32]; omega) ?_
    exact hgo
  | succ k ih =>
    intro y C hy q hc hp
    have e22 := hc y (by omega)
    have e23 := hp y (by omega)
    rw [blt_f (by omega), cond_false] at e23
    have e10 := (q.2 e he).2.2.2.2.1 y (by omega)
    have k0 : kx [23] C (rU C 23 (va_up (C.1 23) y (b2 (pw y || (cf y && e_ch (E e) y))))) := kx.u (by decide)
    obtain ⟨C', ⟨k1, h1⟩, go⟩ := ih (y + 1) (rU C 23 (va_up (C.1 23) y (b2 (pw y || (cf y && e_ch (E e) y))))) (by omega) (q.kx hP k0 (by decide)) hc (fun z hz => by
      show va_up (C.1 23) y _ z = _
      simp only [va_up]
      by_cases w : z = y
      · rw [if_pos w, w, blt_t (by omega), cond_true]
      · rw [if_neg w, hp z hz]
        by_cases q2 : z < y
        · rw [blt_t q2, blt_t (show z < y + 1 by omega)]
        · rw [blt_f q2, blt_f (show ¬ z < y + 1 by omega)])
    refine ⟨C', ⟨k0.tr k1, h1⟩, fun {o} hgo => ?_⟩
    have fin : ∀ {o : Option AV × AH}, Ev tMd_findPowers 182 [some (vR M), some (.inl (e : Int)), j2, some (.inl (y : Int))] [vB (pw y || (cf y && e_ch (E e) y)), .inl (y : Int), vR (M + 24)] (hM h M C) o → Ev tMd_findPowers 131 [some (vR M), some (.inl (e : Int)), j2, some (.inl (y : Int))] [] (hM h M C) o := by
      intro o hgo
      iterate 2 (refine ev_st rfl rfl ?_)
      refine ev_getf rfl hM_0 (by rfl) ?_
      rw [q.1]
      refine ev_icF rfl (by simp only [ick, w32]; omega) ?_
      iterate 1 (refine ev_st rfl rfl ?_)
      refine ev_getf rfl hM_0 (by rfl) ?_
      iterate 2 (refine ev_st rfl rfl ?_)
      refine ev_getf rfl hM_0 (by rfl) ?_
      iterate 1 (refine ev_st rfl rfl ?_)
      refine ev_iald y rfl hA23 (by simp only [w32]; omega) (by omega) ?_
      rw [e23]
      cases hk : pw y with
      | true =>
        rw [hk, Bool.true_or] at hgo
        refine ev_zneT rfl rfl ?_
        iterate 2 (refine ev_st rfl rfl ?_)
        exact hgo
      | false =>
        rw [hk, Bool.false_or] at hgo
        refine ev_zneF rfl rfl ?_
        iterate 1 (refine ev_st rfl rfl ?_)
        refine ev_getf rfl hM_0 (by rfl) ?_
        iterate 1 (refine ev_st rfl rfl ?_)
        refine ev_iald y rfl hA22 (by simp only [w32]; omega) (by omega) ?_
        rw [e22]
        cases hc' : cf y with
        | false =>
          rw [hc', Bool.false_and] at hgo
          refine ev_zeqT rfl rfl ?_
          iterate 1 (refine ev_st rfl rfl ?_)
          exact hgo
        | true =>
          rw [hc', Bool.true_and] at hgo
          refine ev_zeqF rfl rfl ?_
          iterate 1 (refine ev_st rfl rfl ?_)
          refine ev_getf rfl hM_0 (by rfl) ?_
          iterate 5 (refine ev_st rfl rfl ?_)
          refine ev_iald (400 * e + y) rfl hA10 (by simp only [w32]; omega) (by omega) ?_
          rw [e10]
          cases hh : e_ch (E e) y with
          | false =>
            rw [hh] at hgo
            refine ev_zeqT rfl rfl ?_
            iterate 1 (refine ev_st rfl rfl ?_)
            exact hgo
          | true =>
            rw [hh] at hgo
            refine ev_zeqF rfl rfl ?_
            iterate 2 (refine ev_st rfl rfl ?_)
            exact hgo
    refine fin ?_
    refine ev_bast y rfl hA23 (by simp only [w32]; omega) (by omega) (b2_01 _) ?_
    rw [hP23]
    iterate 2 (refine ev_st rfl rfl ?_)
    exact go hgo
theorem l_pe {h : AH} {M N : Nat} {E : EL} {cf : Nat → Bool} (hN : N ≤ 400) (hP : PW N E) (hW : WE N E) : ∀ (k e : Nat) (C : RM) (pw : Nat → Bool) (j2 j3 : Option AV), e + k = N → rE C N E → (∀ z, z < N → C.1 22 z = b2 (cf z)) → (∀ z, z < N → C.1 23 z = b2 (pw z)) → ∃ (C' : RM) (pw' : Nat → Bool), (kx [23] C C' ∧ (∀ z, z < N → C'.1 23 z = b2 (pw' z)) ∧ ∀ z, z < N → (pw' z = true ↔ pw z = true ∨ (cf z = true ∧ ∃ f, e ≤ f ∧ f < N ∧ cf f = true ∧ e_pow (E f) = true ∧ (z = f ∨ e_ch (E f) z = true)))) ∧ Ev tMd_findPowers 25 [some (vR M), some (.inl (e : Int)), j2, j3] [] (hM h M C) (none, hM h M C') := by
  intro k
  induction k with
  | zero =>
    intro e C pw j2 j3 he q hc hp
    obtain rfl : e = N := by omega
    refine ⟨C, pw, ⟨kx.rf, hp, fun z hz => ⟨Or.inl, ?_⟩⟩, ?_⟩
    · rintro (w | ⟨-, f, w1, w2, -⟩)
      · exact w
      · omega
    · iterate 2 (refine ev_st rfl rfl ?_)
      refine ev_getf rfl hM_0 (by rfl) ?_
      rw [q.1]
      refine ev_icT rfl (by simp only [ick, w32]; omega) ?_
      exact ev_rt rfl rfl rfl
  | succ k ih =>
    intro e C pw j2 j3 he q hc hp
    have e22 := hc e (by omega)
    obtain ⟨⟨f0, f1, f2, f3, f4⟩, -⟩ := q.2 e (by omega)
    have wf := hW e (by omega)
    have wk := wf.2.1
    have wb := wf.2.2.2.2.2.1
    have wa := wf.2.2.2.2.1
    have ws := wf.1
    unfold InR at wb wa
    -- not of the powerful ones
    have skip : (cf e && e_pow (E e)) = false → ∀ {j2 j3 : Option AV}, ∃ (C' : RM) (pw' : Nat → Bool), (kx [23] C C' ∧ (∀ z, z < N → C'.1 23 z = b2 (pw' z)) ∧ ∀ z, z < N → (pw' z = true ↔ pw z = true ∨ (cf z = true ∧ ∃ f, e ≤ f ∧ f < N ∧ cf f = true ∧ e_pow (E f) = true ∧ (z = f ∨ e_ch (E f) z = true)))) ∧ Ev tMd_findPowers 189 [some (vR M), some (.inl (e : Int)), j2, j3] [] (hM h M C) (none, hM h M C') := by
      intro hz j2 j3
      obtain ⟨C', pw', ⟨k1, h1, i1⟩, go⟩ := ih (e + 1) C pw j2 j3 (by omega) q hc hp
      refine ⟨C', pw', ⟨k1, h1, fun z hz' => ?_⟩, ?_⟩
      · rw [i1 z hz']
        constructor
        · rintro (w | ⟨w0, f, w1, w2, w3⟩)
          · exact Or.inl w
          · exact Or.inr ⟨w0, f, by omega, w2, w3⟩
        · rintro (w | ⟨w0, f, w1, w2, w3, w4, w5⟩)
          · exact Or.inl w
          · by_cases ef : f = e
            · subst ef
              rw [w3, w4] at hz
              cases hz
            · exact Or.inr ⟨w0, f, by omega, w2, w3, w4, w5⟩
      · iterate 2 (refine ev_st rfl rfl ?_)
        exact go
    cases hce : cf e with
    | false =>
      rw [hce] at e22
      obtain ⟨C', pw', hh, go⟩ := skip (by rw [hce]; rfl) (j2 := j2) (j3 := j3)
      refine ⟨C', pw', hh, ?_⟩
      iterate 2 (refine ev_st rfl rfl ?_)
      refine ev_getf rfl hM_0 (by rfl) ?_
      rw [q.1]
      refine ev_icF rfl (by simp only [ick, w32]; omega) ?_
      iterate 1 (refine ev_st rfl rfl ?_)
      refine ev_getf rfl hM_0 (by rfl) ?_
      iterate 1 (refine ev_st rfl rfl ?_)
      refine ev_iald e rfl hA22 (by simp only [w32]; omega) (by omega) ?_
      rw [e22]
      refine ev_zneF rfl rfl ?_
      iterate 1 (refine ev_st rfl rfl ?_)
      exact go
    | true =>
      rw [hce] at e22
      have pre : ∀ {o : Option AV × AH}, Ev tMd_findPowers 114 [some (vR M), some (.inl (e : Int)), j2, j3] [vB (e_pow (E e))] (hM h M C) o → Ev tMd_findPowers 25 [some (vR M), some (.inl (e : Int)), j2, j3] [] (hM h M C) o := by
        intro o hgo
        unfold e_pow at hgo
        iterate 2 (refine ev_st rfl rfl ?_)
        refine ev_getf rfl hM_0 (by rfl) ?_
        rw [q.1]
        refine ev_icF rfl (by simp only [ick, w32]; omega) ?_
        iterate 1 (refine ev_st rfl rfl ?_)
        refine ev_getf rfl hM_0 (by rfl) ?_
        iterate 1 (refine ev_st rfl rfl ?_)
        refine ev_iald e rfl hA22 (by simp only [w32]; omega) (by omega) ?_
        rw [e22]
        refine ev_zneT rfl rfl ?_
        iterate 1 (refine ev_st rfl rfl ?_)
        refine ev_getf rfl hM_0 (by rfl) ?_
        iterate 1 (refine ev_st rfl rfl ?_)
        refine ev_iald e rfl hA1 (by simp only [w32]; omega) (by omega) ?_
        rw [f1]
        iterate 1 (refine ev_st rfl rfl ?_)
        by_cases k2 : e_kd (E e) = 2
        · rw [decide_eq_true k2, Bool.true_or] at hgo
          refine ev_icT rfl (by simp only [ick, w32]; omega) ?_
          iterate 2 (refine ev_st rfl rfl ?_)
          exact hgo
        · rw [decide_eq_false k2, Bool.false_or] at hgo
          refine ev_icF rfl (by simp only [ick, w32]; omega) ?_
          iterate 1 (refine ev_st rfl rfl ?_)
          refine ev_getf rfl hM_0 (by rfl) ?_
          iterate 1 (refine ev_st rfl rfl ?_)
          refine ev_iald e rfl hA1 (by simp only [w32]; omega) (by omega) ?_
          rw [f1]
          iterate 1 (refine ev_st rfl rfl ?_)
          by_cases k3 : e_kd (E e) = 3
          · rw [decide_eq_true k3, Bool.true_or] at hgo
            refine ev_icT rfl (by simp only [ick, w32]; omega) ?_
            iterate 2 (refine ev_st rfl rfl ?_)
            exact hgo
          · rw [decide_eq_false k3, Bool.false_or] at hgo
            refine ev_icF rfl (by simp only [ick, w32]; omega) ?_
            iterate 1 (refine ev_st rfl rfl ?_)
            refine ev_getf rfl hM_0 (by rfl) ?_
            iterate 1 (refine ev_st rfl rfl ?_)
            refine ev_iald e rfl hA1 (by simp only [w32]; omega) (by omega) ?_
            rw [f1]
            iterate 1 (refine ev_st rfl rfl ?_)
            by_cases k1 : e_kd (E e) = 1
            · rw [decide_eq_true k1, Bool.true_and] at hgo
              refine ev_icF rfl (by simp only [ick, w32]; omega) ?_
              iterate 1 (refine ev_st rfl rfl ?_)
              refine ev_getf rfl hM_0 (by rfl) ?_
              iterate 1 (refine ev_st rfl rfl ?_)
              refine ev_iald e rfl hA3 (by simp only [w32]; omega) (by omega) ?_
              rw [f3]
              have last : (decide (e_b (E e) = 0) || decide (e_b (E e) = 3)) = true → Ev tMd_findPowers 94 [some (vR M), some (.inl (e : Int)), j2, j3] [] (hM h M C) o := by
                intro hb
                rw [hb, Bool.true_and] at hgo
                iterate 1 (refine ev_st rfl rfl ?_)
                refine ev_getf rfl hM_0 (by rfl) ?_
                iterate 1 (refine ev_st rfl rfl ?_)
                refine ev_iald e rfl hA0 (by simp only [w32]; omega) (by omega) ?_
                rw [f0]
                iterate 1 (refine ev_st rfl rfl ?_)
                refine ev_getf rfl hM_0 (by rfl) ?_
                iterate 1 (refine ev_st rfl rfl ?_)
                refine ev_iald e rfl hA2 (by simp only [w32]; omega) (by omega) ?_
                rw [f2]
                by_cases sa : e_sd (E e) = e_a (E e)
                · rw [decide_eq_true sa] at hgo
                  refine ev_icT rfl (by simp only [ick, w32]; omega) ?_
                  iterate 1 (refine ev_st rfl rfl ?_)
                  exact hgo
                · rw [decide_eq_false sa] at hgo
                  refine ev_icF rfl (by simp only [ick, w32]; omega) ?_
                  iterate 2 (refine ev_st rfl rfl ?_)
                  exact hgo
              by_cases b0 : e_b (E e) = 0
              · refine ev_ifT rfl (by simp only [ick, w32]; omega) ?_
                exact last (by rw [decide_eq_true b0]; rfl)
              · refine ev_ifF rfl (by simp only [ick, w32]; omega) ?_
                iterate 1 (refine ev_st rfl rfl ?_)
                refine ev_getf rfl hM_0 (by rfl) ?_
                iterate 1 (refine ev_st rfl rfl ?_)
                refine ev_iald e rfl hA3 (by simp only [w32]; omega) (by omega) ?_
                rw [f3]
                iterate 1 (refine ev_st rfl rfl ?_)
                by_cases b3 : e_b (E e) = 3
                · refine ev_icF rfl (by simp only [ick, w32]; omega) ?_
                  exact last (by rw [decide_eq_true b3]; simp)
                · rw [decide_eq_false b0, decide_eq_false b3] at hgo
                  refine ev_icT rfl (by simp only [ick, w32]; omega) ?_
                  iterate 1 (refine ev_st rfl rfl ?_)
                  exact hgo
            · rw [decide_eq_false k1, Bool.false_and] at hgo
              refine ev_icT rfl (by simp only [ick, w32]; omega) ?_
              iterate 1 (refine ev_st rfl rfl ?_)
              exact hgo
      cases hpe : e_pow (E e) with
      | false =>
        rw [hpe] at pre
        obtain ⟨C', pw', hh, go⟩ := skip (by rw [hpe]; simp) (j2 := some (vB false)) (j3 := j3)
        refine ⟨C', pw', hh, pre ?_⟩
        iterate 2 (refine ev_st rfl rfl ?_)
        refine ev_zneF rfl rfl ?_
        iterate 1 (refine ev_st rfl rfl ?_)
        exact go
      | true =>
        rw [hpe] at pre
        have k0 : kx [23] C (rU C 23 (va_up (C.1 23) e 1)) := kx.u (by decide)
        obtain ⟨C1, ⟨k1, h1⟩, go1⟩ := l_py (h := h) (M := M) (e := e) (cf := cf) (pw := f_on pw e) (j2 := some (vB true)) hN hP (by omega) N 0 (rU C 23 (va_up (C.1 23) e 1)) (by omega) (q.kx hP k0 (by decide)) hc (fun z hz => by
          show va_up (C.1 23) e 1 z = b2 (f_on pw e z)
          simp only [va_up]
          unfold f_on
          by_cases w : z = e
          · rw [if_pos w, w, show Nat.beq e e = true from Nat.beq_refl e]; rfl
          · rw [if_neg w, hp z hz, beq_ne w]; rfl)
        have k01 := k0.tr k1
        obtain ⟨C', pw', ⟨k2, h2, i2⟩, go2⟩ := ih (e + 1) C1 (fun z => f_on pw e z || (cf z && e_ch (E e) z)) (some (vB true)) (some (.inl (N : Int))) (by omega) (q.kx hP k01 (by decide)) (fun z hz => by rw [k01.1 22 (by decide)]; exact hc z hz) h1
        refine ⟨C', pw', ⟨k01.tr k2, h2, fun z hz => ?_⟩, pre ?_⟩
        · rw [i2 z hz, Bool.or_eq_true, f_on_i, Bool.and_eq_true]
          constructor
          · rintro (((w | w) | w) | ⟨w0, f, w1, w2, w3⟩)
            · exact Or.inr ⟨by rw [w]; exact hce, e, Nat.le_refl _, by omega, hce, hpe, Or.inl w⟩
            · exact Or.inl w
            · exact Or.inr ⟨w.1, e, Nat.le_refl _, by omega, hce, hpe, Or.inr w.2⟩
            · exact Or.inr ⟨w0, f, by omega, w2, w3⟩
          · rintro (w | ⟨w0, f, w1, w2, w3, w4, w5⟩)
            · exact Or.inl (Or.inl (Or.inr w))
            · by_cases ef : f = e
              · subst ef
                rcases w5 with w5 | w5
                · exact Or.inl (Or.inl (Or.inl w5))
                · exact Or.inl (Or.inr ⟨w0, w5⟩)
              · exact Or.inr ⟨w0, f, by omega, w2, w3, w4, w5⟩
        · iterate 2 (refine ev_st rfl rfl ?_)
          refine ev_zneT rfl rfl ?_
          iterate 1 (refine ev_st rfl rfl ?_)
          refine ev_getf rfl hM_0 (by rfl) ?_
          iterate 2 (refine ev_st rfl rfl ?_)
          refine ev_bast e rfl hA23 (by simp only [w32]; omega) (by omega) (Or.inr rfl) ?_
          rw [hP23]
          iterate 2 (refine ev_st rfl rfl ?_)
          refine go1 ?_
          iterate 2 (refine ev_st rfl rfl ?_)
          exact go2
theorem c_mpows {h : AH} {M N : Nat} {C : RM} {E : EL} {cf : Nat → Bool} (hN : N ≤ 400) (hP : PW N E) (hW : WE N E) (q : rE C N E) (hc : ∀ z, z < N → C.1 22 z = b2 (cf z)) : ∃ C', Em mMd_findPowers 3 [vR M] (hM h M C) none (hM h M C') ∧ kx [23] C C' ∧ ∀ z, z < N → C'.1 23 z = b2 (r_pow N E cf z) := by
  obtain ⟨C1, ⟨k1, h1⟩, go1⟩ := l_pz (h := h) (M := M) (j2 := none) (j3 := none) N 0 C (by omega) hN q.1 (fun z hz => by omega)
  obtain ⟨C2, pw', ⟨k2, h2, i2⟩, go2⟩ := l_pe (h := h) (M := M) (cf := cf) hN hP hW N 0 C1 (fun _ => false) none none (by omega) (q.kx hP k1 (by decide)) (fun z hz => by rw [k1.1 22 (by decide)]; exact hc z hz) h1
  refine ⟨C2, ?_, k1.tr k2, fun z hz => ?_⟩
  · show Ev tMd_findPowers 0 [some (vR M), none, none, none] [] _ _
    iterate 2 (refine ev_st rfl rfl ?_)
    refine go1 ?_
    iterate 2 (refine ev_st rfl rfl ?_)
    exact go2
  · rw [h2 z hz]
    congr 1
    apply Bool.eq_iff_iff.2
    unfold r_pow
    rw [i2 z hz, Bool.and_eq_true, b_any_iff]
    constructor
    · rintro (w | ⟨w0, f, -, w2, w3, w4, w5⟩)
      · cases w
      · refine ⟨w0, f, w2, ?_⟩
        rw [Bool.and_eq_true, Bool.and_eq_true, Bool.or_eq_true, decide_eq_true_eq]
        exact ⟨w3, w4, w5⟩
    · rintro ⟨w0, f, w2, w3⟩
      rw [Bool.and_eq_true, Bool.and_eq_true, Bool.or_eq_true, decide_eq_true_eq] at w3
      exact Or.inr ⟨w0, f, by omega, w2, w3.1, w3.2.1, w3.2.2⟩
