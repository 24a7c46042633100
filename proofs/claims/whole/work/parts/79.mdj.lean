-- the reference: forge
set_option maxRecDepth 20000
theorem l_fo {h : AH} {M N : Nat} {C : RM} {l : List Nat} {j1 j2 j3 j4 j5 j6 j7 j8 : Option AV} (hN : N < 400) (hl : l.length ≤ 4) (h5 : ∀ i, i < l.length → C.1 5 (4 * N + i) = (l.getD i 0 : Nat)) (h20 : C.2.2.1 = (l.length : Int)) : ∀ (k i : Nat) (f : Nat → Int), i + k = l.length → (∀ j, j < i → f j = (l.getD j 0 : Nat)) → ∃ f' : Nat → Int, (∀ j, j < l.length → f' j = (l.getD j 0 : Nat)) ∧ ∀ {o : Option AV × AH}, Ev tMd_forge 242 [some (vR M), j1, j2, j3, j4, j5, j6, j7, j8, some (.inl (N : Int)), some (.inl (l.length : Int))] [] (hM h M (rU C 18 f')) o → Ev tMd_forge 208 [some (vR M), j1, j2, j3, j4, j5, j6, j7, j8, some (.inl (N : Int)), some (.inl (i : Int))] [] (hM h M (rU C 18 f)) o := by
  intro k
  induction k with
  | zero =>
    intro i f hi h1
    obtain rfl : i = l.length := by omega
    refine ⟨f, h1, fun {o} hgo => ?_⟩
    iterate 2 (refine ev_st rfl rfl ?_)
    refine ev_getf rfl hM_0 (by rfl) ?_
    rw [show (rU C 18 f).2.2.1 = (l.length : Int) from h20]
    refine ev_icT rfl (by simp only [ick, w32]; omega) ?_
    exact hgo
  | succ k ih =>
    intro i f hi h1
    obtain ⟨f', hf, go⟩ := ih (i + 1) (va_up f i (l.getD i 0 : Nat)) (by omega) (fun j hj => by
      simp only [va_up]
      by_cases w : j = i
      · rw [if_pos w, w]
      · rw [if_neg w, h1 j (by omega)])
    refine ⟨f', hf, fun {o} hgo => ?_⟩
    iterate 2 (refine ev_st rfl rfl ?_)
    refine ev_getf rfl hM_0 (by rfl) ?_
    rw [show (rU C 18 f).2.2.1 = (l.length : Int) from h20]
    refine ev_icF rfl (by simp only [ick, w32]; omega) ?_
    iterate 1 (refine ev_st rfl rfl ?_)
    refine ev_getf rfl hM_0 (by rfl) ?_
    iterate 2 (refine ev_st rfl rfl ?_)
    refine ev_getf rfl hM_0 (by rfl) ?_
    iterate 5 (refine ev_st rfl rfl ?_)
    refine ev_iald (4 * N + i) rfl hA5 (by simp only [w32]; omega) (by omega) ?_
    rw [show (rU C 18 f).1 5 (4 * N + i) = (l.getD i 0 : Nat) from h5 i (by omega)]
    refine ev_iast i rfl hA18 (by simp only [w32]; omega) (by omega) ?_
    rw [hP18, rU_rU]
    iterate 2 (refine ev_st rfl rfl ?_)
    exact go hgo
theorem d_can_N {N : Nat} {E : EL} {V : Nat → SV} {s : Nat} (hS : SOK N E (V s)) (hN : N ≤ 400) {n : Int} : d_can V s n = true ↔ n = -1 ∨ (0 ≤ n ∧ n < N ∧ (V s).1 n.toNat = true) := by
  unfold d_can
  rw [Bool.or_eq_true, Bool.and_eq_true, decide_eq_true_eq, decide_eq_true_eq]
  constructor
  · rintro (a | ⟨a, b⟩)
    · exact Or.inl a
    · have := hS.1 _ b
      exact Or.inr ⟨a.1, by omega, b⟩
  · rintro (a | ⟨a, b, c⟩)
    · exact Or.inl a
    · exact Or.inr ⟨⟨a, by omega⟩, c⟩
set_option maxHeartbeats 8000000 in
theorem c_mforge {h : AH} {M N : Nat} {C : RM} {E : EL} {V : Nat → SV} (hE : EOK N E) (hS : VOK N E V) (q : rE C N E) (rv : rV C N E V) {u k a b t one two : Int} (hu : InR u) (hk : InR k) (ha : InR a) (hb : InR b) (ht : InR t) (ho : InR one) (hw : InR two) : ∃ C', Em mMd_forge 3 [vR M, .inl u, .inl k, .inl a, .inl b, .inl t, .inl one, .inl two] (hM h M C) (some (.inl (d_forge N E V u k a b t one two).2)) (hM h M C') ∧ rE C' (d_forge N E V u k a b t one two).1.1 (d_forge N E V u k a b t one two).1.2.1 ∧ rV C' (d_forge N E V u k a b t one two).1.1 (d_forge N E V u k a b t one two).1.2.1 (d_forge N E V u k a b t one two).1.2.2 := by
  have hP := hE.2.2.1
  have hN4 := hE.1
  have cw := c_mwrong (h := hM h M C) hu hk ha hb
  unfold d_forge
  unfold InR at ho hw
  by_cases p : m_prop u k a b = true
  · rw [if_pos p]
    have u12 := prop_u p
    have hs4 : u.toNat % 4 < 4 := Nat.mod_lt _ (by omega)
    have hSs := hS _ hs4
    have e14 : ∀ y, y < N → C.1 14 (400 * (u.toNat % 4) + y) = b2 ((V (u.toNat % 4)).1 y) := fun y hy => ((rv _ hs4).1 y (by omega)).1
    generalize hss : u.toNat % 4 = s at *
    have st0 : ∀ {o : Option AV × AH}, Ev tMd_forge 18 [some (vR M), some (.inl u), some (.inl k), some (.inl a), some (.inl b), some (.inl t), some (.inl one), some (.inl two), some (.inl (s : Int)), none, none] [] (hM h M C) o → Ev tMd_forge 0 [some (vR M), some (.inl u), some (.inl k), some (.inl a), some (.inl b), some (.inl t), some (.inl one), some (.inl two), none, none, none] [] (hM h M C) o := by
      intro o hgo
      iterate 4 (refine ev_st rfl rfl ?_)
      refine ev_cl rfl rfl cw ?_
      refine ev_zeqT rfl (by rw [p]; rfl) ?_
      iterate 2 (refine ev_st rfl rfl ?_)
      refine ev_rem (s : Int) rfl (by decide) (by
        rw [w32_id (by omega) (by omega), show w32 4 = 4 by decide, Int.tmod_eq_emod_of_nonneg (by omega)]
        omega) ?_
      iterate 1 (refine ev_st rfl rfl ?_)
      exact hgo
    have st1 : d_can V s one = true → ∀ {o : Option AV × AH}, Ev tMd_forge 58 [some (vR M), some (.inl u), some (.inl k), some (.inl a), some (.inl b), some (.inl t), some (.inl one), some (.inl two), some (.inl (s : Int)), none, none] [] (hM h M C) o → Ev tMd_forge 18 [some (vR M), some (.inl u), some (.inl k), some (.inl a), some (.inl b), some (.inl t), some (.inl one), some (.inl two), some (.inl (s : Int)), none, none] [] (hM h M C) o := by
      intro hc o hgo
      rcases (d_can_N hSs hN4).1 hc with z | ⟨z1, z2, z3⟩
      · iterate 2 (refine ev_st rfl rfl ?_)
        refine ev_icT rfl (by simp only [ick, w32]; omega) ?_
        exact hgo
      · iterate 2 (refine ev_st rfl rfl ?_)
        refine ev_icF rfl (by simp only [ick, w32]; omega) ?_
        iterate 1 (refine ev_st rfl rfl ?_)
        refine ev_ifF rfl (by simp only [ick, w32]; omega) ?_
        iterate 2 (refine ev_st rfl rfl ?_)
        refine ev_getf rfl hM_0 (by rfl) ?_
        rw [q.1]
        refine ev_icF rfl (by simp only [ick, w32]; omega) ?_
        iterate 1 (refine ev_st rfl rfl ?_)
        refine ev_getf rfl hM_0 (by rfl) ?_
        iterate 5 (refine ev_st rfl rfl ?_)
        refine ev_iald (400 * s + one.toNat) rfl hA14 (by simp only [w32]; omega) (by omega) ?_
        rw [e14 _ (by omega)]
        refine ev_zneT rfl z3 ?_
        exact hgo
    have st1F : d_can V s one = false → Ev tMd_forge 18 [some (vR M), some (.inl u), some (.inl k), some (.inl a), some (.inl b), some (.inl t), some (.inl one), some (.inl two), some (.inl (s : Int)), none, none] [] (hM h M C) (some (.inl (-2)), hM h M C) := by
      intro hc
      have hn : ¬ (one = -1 ∨ (0 ≤ one ∧ one < N ∧ (V s).1 one.toNat = true)) := fun z => by rw [(d_can_N hSs hN4).2 z] at hc; cases hc
      iterate 2 (refine ev_st rfl rfl ?_)
      refine ev_icF rfl (by simp only [ick, w32]; omega) ?_
      iterate 1 (refine ev_st rfl rfl ?_)
      by_cases z1 : one < 0
      · refine ev_ifT rfl (by simp only [ick, w32]; omega) ?_
        iterate 1 (refine ev_st rfl rfl ?_)
        exact ev_rt rfl rfl rfl
      · refine ev_ifF rfl (by simp only [ick, w32]; omega) ?_
        iterate 2 (refine ev_st rfl rfl ?_)
        refine ev_getf rfl hM_0 (by rfl) ?_
        rw [q.1]
        by_cases z2 : one < N
        · refine ev_icF rfl (by simp only [ick, w32]; omega) ?_
          iterate 1 (refine ev_st rfl rfl ?_)
          refine ev_getf rfl hM_0 (by rfl) ?_
          iterate 5 (refine ev_st rfl rfl ?_)
          refine ev_iald (400 * s + one.toNat) rfl hA14 (by simp only [w32]; omega) (by omega) ?_
          rw [e14 _ (by omega)]
          refine ev_zneF rfl (by
            cases hz : (V s).1 one.toNat
            · rfl
            · exact absurd (Or.inr ⟨by omega, z2, hz⟩) hn) ?_
          iterate 1 (refine ev_st rfl rfl ?_)
          exact ev_rt rfl rfl rfl
        · refine ev_icT rfl (by simp only [ick, w32]; omega) ?_
          iterate 1 (refine ev_st rfl rfl ?_)
          exact ev_rt rfl rfl rfl
    have st2 : d_can V s two = true → ∀ {o : Option AV × AH}, Ev tMd_forge 98 [some (vR M), some (.inl u), some (.inl k), some (.inl a), some (.inl b), some (.inl t), some (.inl one), some (.inl two), some (.inl (s : Int)), none, none] [] (hM h M C) o → Ev tMd_forge 58 [some (vR M), some (.inl u), some (.inl k), some (.inl a), some (.inl b), some (.inl t), some (.inl one), some (.inl two), some (.inl (s : Int)), none, none] [] (hM h M C) o := by
      intro hc o hgo
      rcases (d_can_N hSs hN4).1 hc with z | ⟨z1, z2, z3⟩
      · iterate 2 (refine ev_st rfl rfl ?_)
        refine ev_icT rfl (by simp only [ick, w32]; omega) ?_
        exact hgo
      · iterate 2 (refine ev_st rfl rfl ?_)
        refine ev_icF rfl (by simp only [ick, w32]; omega) ?_
        iterate 1 (refine ev_st rfl rfl ?_)
        refine ev_ifF rfl (by simp only [ick, w32]; omega) ?_
        iterate 2 (refine ev_st rfl rfl ?_)
        refine ev_getf rfl hM_0 (by rfl) ?_
        rw [q.1]
        refine ev_icF rfl (by simp only [ick, w32]; omega) ?_
        iterate 1 (refine ev_st rfl rfl ?_)
        refine ev_getf rfl hM_0 (by rfl) ?_
        iterate 5 (refine ev_st rfl rfl ?_)
        refine ev_iald (400 * s + two.toNat) rfl hA14 (by simp only [w32]; omega) (by omega) ?_
        rw [e14 _ (by omega)]
        refine ev_zneT rfl z3 ?_
        exact hgo
    have st2F : d_can V s two = false → Ev tMd_forge 58 [some (vR M), some (.inl u), some (.inl k), some (.inl a), some (.inl b), some (.inl t), some (.inl one), some (.inl two), some (.inl (s : Int)), none, none] [] (hM h M C) (some (.inl (-2)), hM h M C) := by
      intro hc
      have hn : ¬ (two = -1 ∨ (0 ≤ two ∧ two < N ∧ (V s).1 two.toNat = true)) := fun z => by rw [(d_can_N hSs hN4).2 z] at hc; cases hc
      iterate 2 (refine ev_st rfl rfl ?_)
      refine ev_icF rfl (by simp only [ick, w32]; omega) ?_
      iterate 1 (refine ev_st rfl rfl ?_)
      by_cases z1 : two < 0
      · refine ev_ifT rfl (by simp only [ick, w32]; omega) ?_
        iterate 1 (refine ev_st rfl rfl ?_)
        exact ev_rt rfl rfl rfl
      · refine ev_ifF rfl (by simp only [ick, w32]; omega) ?_
        iterate 2 (refine ev_st rfl rfl ?_)
        refine ev_getf rfl hM_0 (by rfl) ?_
        rw [q.1]
        by_cases z2 : two < N
        · refine ev_icF rfl (by simp only [ick, w32]; omega) ?_
          iterate 1 (refine ev_st rfl rfl ?_)
          refine ev_getf rfl hM_0 (by rfl) ?_
          iterate 5 (refine ev_st rfl rfl ?_)
          refine ev_iald (400 * s + two.toNat) rfl hA14 (by simp only [w32]; omega) (by omega) ?_
          rw [e14 _ (by omega)]
          refine ev_zneF rfl (by
            cases hz : (V s).1 two.toNat
            · rfl
            · exact absurd (Or.inr ⟨by omega, z2, hz⟩) hn) ?_
          iterate 1 (refine ev_st rfl rfl ?_)
          exact ev_rt rfl rfl rfl
        · refine ev_icT rfl (by simp only [ick, w32]; omega) ?_
          iterate 1 (refine ev_st rfl rfl ?_)
          exact ev_rt rfl rfl rfl
    by_cases k1 : d_can V s one = true
    · by_cases k2 : d_can V s two = true
      · rw [if_pos (by rw [k1, k2]; rfl)]
        by_cases n4 : N = 400
        · rw [if_pos n4]
          refine ⟨C, ?_, q, rv⟩
          show Ev tMd_forge 0 [some (vR M), some (.inl u), some (.inl k), some (.inl a), some (.inl b), some (.inl t), some (.inl one), some (.inl two), none, none, none] [] _ _
          refine st0 (st1 k1 (st2 k2 ?_))
          iterate 1 (refine ev_st rfl rfl ?_)
          refine ev_getf rfl hM_0 (by rfl) ?_
          rw [q.1]
          iterate 1 (refine ev_st rfl rfl ?_)
          refine ev_icF rfl (by simp only [ick, w32]; omega) ?_
          iterate 1 (refine ev_st rfl rfl ?_)
          exact ev_rt rfl rfl rfl
        · rw [if_neg n4]
          have hN : N < 400 := by omega
          have r1 := can_rng hSs k1
          have r2 := can_rng hSs k2
          have tk := pair_ok r1 r2
          have so := res_ok hE tk.2
          have xK : evK N E (d_fe N E u k a b t one two) := ev_K hE p ha hb ht ⟨by omega, tk.2⟩ so so
          generalize hx : d_fe N E u k a b t one two = x at *
          have x1 : e_sd x = u := by rw [← hx]; rfl
          have x2 : e_kd x = k := by rw [← hx]; rfl
          have x3 : e_a x = a := by rw [← hx]; rfl
          have x4 : e_b x = b := by rw [← hx]; rfl
          have x5 : e_tm x = t := by rw [← hx]; rfl
          have x6 : e_pa x = l_pair one two := by rw [← hx]; rfl
          have x7 : e_ow x = m_need (r_res N E (l_pair one two)) (e_kd x) (e_sd x) (e_a x) := by rw [← hx]; rfl
          have x8 : e_ch x = m_ch E (e_ow x) := by rw [← hx]; rfl
          have x9 : e_lv x = m_lvs E (e_ow x) (e_a x) (e_b x) := by rw [← hx]; rfl
          have x10 : e_bf x = r_res N E (e_pa x) := by rw [← hx]; rfl
          have wf := xK.1
          obtain ⟨C1, c1, kp1, ⟨d0, d1, d2, d3, d4⟩, d6, d9, dI⟩ := c_mwrite (h := h) (M := M) (u := u) (k := k) (a := a) (b := b) (t := t) hN q.1
          -- the first parent
          have fst : ∃ C2, ((∀ i, i ≠ 5 → i ≠ 6 → C2.1 i = C1.1 i) ∧ C2.2 = C1.2 ∧ kp N C1 C2 ∧ rPa C2 N (if 0 ≤ one then [one.toNat] else [])) ∧ ∀ {o : Option AV × AH}, Ev tMd_forge 152 [some (vR M), some (.inl u), some (.inl k), some (.inl a), some (.inl b), some (.inl t), some (.inl one), some (.inl two), some (.inl (s : Int)), some (.inl (N : Int)), none] [] (hM h M C2) o → Ev tMd_forge 128 [some (vR M), some (.inl u), some (.inl k), some (.inl a), some (.inl b), some (.inl t), some (.inl one), some (.inl two), some (.inl (s : Int)), some (.inl (N : Int)), none] [] (hM h M C1) o := by
            by_cases z : 0 ≤ one
            · rw [if_pos z]
              refine ⟨rU (rU C1 5 (va_up (C1.1 5) (4 * N) one)) 6 (va_up (C1.1 6) N 1), ⟨fun i h5 h6 => (rU_ne h6).trans (rU_ne h5), rfl, (kp.u (i := 5) (by omega) (fun j hj => va_up_ne _ _ (by change j < 4 * N at hj; omega))).tr (kp.u (i := 6) (by omega) (fun j hj => va_up_ne _ _ (by change j < 1 * N at hj; omega))), ⟨va_up_self _ _ _, fun i hi => ?_⟩⟩, fun {o} hgo => ?_⟩
              · have : i = 0 := by simpa using hi
                subst this
                show va_up (C1.1 5) (4 * N) one (4 * N + 0) = ((one.toNat : Nat) : Int)
                rw [Nat.add_zero, va_up_self]
                omega
              · iterate 1 (refine ev_st rfl rfl ?_)
                refine ev_ifF rfl (by simp only [ick, w32]; omega) ?_
                iterate 1 (refine ev_st rfl rfl ?_)
                refine ev_getf rfl hM_0 (by rfl) ?_
                iterate 4 (refine ev_st rfl rfl ?_)
                refine ev_iast (4 * N) rfl hA5 (by simp only [w32]; omega) (by omega) ?_
                rw [hP5]
                iterate 1 (refine ev_st rfl rfl ?_)
                refine ev_getf rfl hM_0 (by rfl) ?_
                iterate 2 (refine ev_st rfl rfl ?_)
                refine ev_iast N rfl hA6 (by simp only [w32]; omega) (by omega) ?_
                rw [hP6]
                exact hgo
            · rw [if_neg z]
              refine ⟨C1, ⟨fun _ _ _ => rfl, rfl, kp.rf, d6, fun i hi => by simp at hi⟩, fun {o} hgo => ?_⟩
              iterate 1 (refine ev_st rfl rfl ?_)
              refine ev_ifT rfl (by simp only [ick, w32]; omega) ?_
              exact hgo
          obtain ⟨C2, ⟨f1, f2, kp2, rp2⟩, go2⟩ := fst
          -- the second
          have snd : ∃ C3, ((∀ i, i ≠ 5 → i ≠ 6 → C3.1 i = C2.1 i) ∧ C3.2 = C2.2 ∧ kp N C2 C3 ∧ rPa C3 N (l_pair one two)) ∧ ∀ {o : Option AV × AH}, Ev tMd_forge 194 [some (vR M), some (.inl u), some (.inl k), some (.inl a), some (.inl b), some (.inl t), some (.inl one), some (.inl two), some (.inl (s : Int)), some (.inl (N : Int)), none] [] (hM h M C3) o → Ev tMd_forge 152 [some (vR M), some (.inl u), some (.inl k), some (.inl a), some (.inl b), some (.inl t), some (.inl one), some (.inl two), some (.inl (s : Int)), some (.inl (N : Int)), none] [] (hM h M C2) o := by
            unfold l_pair
            have hl1 : (if 0 ≤ one then [one.toNat] else []).length ≤ 1 := by split <;> simp
            generalize (if 0 ≤ one then [one.toNat] else []) = P at *
            by_cases z : 0 ≤ two ∧ two ≠ one
            · rw [if_pos z]
              refine ⟨rU (rU C2 5 (va_up (C2.1 5) (4 * N + P.length) two)) 6 (va_up (C2.1 6) N ((P.length : Int) + 1)), ⟨fun i h5 h6 => (rU_ne h6).trans (rU_ne h5), rfl, (kp.u (i := 5) (by omega) (fun j hj => va_up_ne _ _ (by change j < 4 * N at hj; omega))).tr (kp.u (i := 6) (by omega) (fun j hj => va_up_ne _ _ (by change j < 1 * N at hj; omega))), ⟨by rw [List.length_append]; exact va_up_self _ _ _, fun i hi => ?_⟩⟩, fun {o} hgo => ?_⟩
              · show va_up (C2.1 5) (4 * N + P.length) two (4 * N + i) = _
                simp only [va_up]
                rw [List.length_append] at hi
                by_cases w : i = P.length
                · rw [if_pos (by omega), w, List.getD_eq_getElem?_getD, List.getElem?_append_right (Nat.le_refl _), Nat.sub_self]
                  show two = ((two.toNat : Nat) : Int)
                  omega
                · rw [if_neg (by omega), rp2.2 i (by simp at hi; omega), List.getD_eq_getElem?_getD, List.getD_eq_getElem?_getD, List.getElem?_append_left (by simp at hi; omega)]
              · iterate 1 (refine ev_st rfl rfl ?_)
                refine ev_ifF rfl (by simp only [ick, w32]; omega) ?_
                iterate 2 (refine ev_st rfl rfl ?_)
                refine ev_icF rfl (by have := z.2; simp only [ick, w32]; omega) ?_
                iterate 1 (refine ev_st rfl rfl ?_)
                refine ev_getf rfl hM_0 (by rfl) ?_
                iterate 4 (refine ev_st rfl rfl ?_)
                refine ev_getf rfl hM_0 (by rfl) ?_
                iterate 1 (refine ev_st rfl rfl ?_)
                refine ev_iald N rfl hA6 (by simp only [w32]; omega) (by omega) ?_
                rw [rp2.1]
                iterate 2 (refine ev_st rfl rfl ?_)
                refine ev_iast (4 * N + P.length) rfl hA5 (by simp only [w32]; omega) (by omega) ?_
                rw [hP5]
                iterate 1 (refine ev_st rfl rfl ?_)
                refine ev_getf rfl hM_0 (by rfl) ?_
                iterate 2 (refine ev_st rfl rfl ?_)
                refine ev_iald N rfl hA6 (by simp only [w32]; omega) (by omega) ?_
                rw [show (rU C2 5 (va_up (C2.1 5) (4 * N + P.length) two)).1 6 N = (P.length : Int) from rp2.1]
                iterate 2 (refine ev_st rfl rfl ?_)
                refine ev_iast N rfl hA6 (by simp only [w32]; omega) (by omega) ?_
                rw [hP6]
                exact hgo
            · rw [if_neg z, List.append_nil]
              refine ⟨C2, ⟨fun _ _ _ => rfl, rfl, kp.rf, rp2⟩, fun {o} hgo => ?_⟩
              by_cases z1 : two < 0
              · iterate 1 (refine ev_st rfl rfl ?_)
                refine ev_ifT rfl (by simp only [ick, w32]; omega) ?_
                exact hgo
              · have z2 : two = one := by
                  by_cases e : two = one
                  · exact e
                  · exact absurd ⟨by omega, e⟩ z
                iterate 1 (refine ev_st rfl rfl ?_)
                refine ev_ifF rfl (by simp only [ick, w32]; omega) ?_
                iterate 2 (refine ev_st rfl rfl ?_)
                refine ev_icT rfl (by rw [z2]; rfl) ?_
                exact hgo
          obtain ⟨C3, ⟨g1, g2, kp3, rp3⟩, go3⟩ := snd
          rw [← x6] at rp3 tk
          have k03 := (kp1.tr kp2).tr kp3
          have q3 := q.kp hP k03
          have o03 : ∀ i, i < 5 → C3.1 i = C1.1 i := fun i hi => (g1 i (by omega) (by omega)).trans (f1 i (by omega) (by omega))
          have fx3 : rF C3 N x := ⟨by rw [o03 0 (by omega), d0, x1], by rw [o03 1 (by omega), d1, x2], by rw [o03 2 (by omega), d2, x3], by rw [o03 3 (by omega), d3, x4], by rw [o03 4 (by omega), d4, x5]⟩
          -- what is before it
          generalize hC4 : rI C3 (C3.2.1, ((e_pa x).length : Int), C3.2.2.2) = C4 at *
          have e4 : C4.1 = C3.1 := by rw [← hC4]; rfl
          have e4' : C4.2.1 = C3.2.1 := by rw [← hC4]; rfl
          have e4'' : C4.2.2.1 = ((e_pa x).length : Int) := by rw [← hC4]; rfl
          obtain ⟨f5, d5, go5⟩ := l_fo (h := h) (M := M) (C := C4) (l := e_pa x) (j1 := some (.inl u)) (j2 := some (.inl k)) (j3 := some (.inl a)) (j4 := some (.inl b)) (j5 := some (.inl t)) (j6 := some (.inl one)) (j7 := some (.inl two)) (j8 := some (.inl (s : Int))) hN (by omega) (fun i hi => by rw [e4]; exact rp3.2 i hi) e4'' (e_pa x).length 0 (C4.1 18) (by omega) (fun j hj => by omega)
          rw [rU_self] at go5
          generalize hC5 : rU C4 18 f5 = C5 at *
          have e5 : ∀ i, i ≠ 18 → C5.1 i = C3.1 i := fun i hi => by rw [← hC5, rU_ne hi, e4]
          have e5' : C5.2.1 = C3.2.1 := by rw [← hC5]; exact e4'
          have ro5 : rO C5 (e_pa x) := by rw [← hC5]; exact ⟨e4'', fun i hi => by rw [rU_eq]; exact d5 i hi⟩
          have kq5 : kq C3 C5 := ⟨fun i hi => e5 i (by omega), e5'⟩
          have q5 := q3.kp hP kq5.kp
          obtain ⟨C6, c6, k6, r6⟩ := c_mres (h := h) (M := M) hE q5 ro5 tk.2 (by omega)
          have kq6 : kq C3 C6 := kq5.tr (k6.kq (by decide))
          have q6 := q3.kp hP kq6.kp
          have fx6 : rF C6 N x := by
            obtain ⟨y0, y1, y2, y3, y4⟩ := fx3
            exact ⟨by rw [kq6.1 0 (by omega)]; exact y0, by rw [kq6.1 1 (by omega)]; exact y1, by rw [kq6.1 2 (by omega)]; exact y2, by rw [kq6.1 3 (by omega)]; exact y3, by rw [kq6.1 4 (by omega)]; exact y4⟩
          rw [x6] at r6
          obtain ⟨C7, c7, k7, o7, au7, lv7, -⟩ := c_mauth (h := h) (M := M) (C := C6) (sa := M + 20) (fr := 0) hN q6 hE.2.1 hP (fun C' hc => ⟨23, C'.1 19, hA19, by omega, fun p hp => by rw [Nat.zero_add, hc 19 (by omega) (by omega) (by omega) (by omega)]; exact r6 p hp⟩) so fx6 wf x7 x9
          have k07 := (k03.tr kq6.kp).tr k7
          have q7 := q.kp hP k07
          have t7 : ∀ i, i < 7 → C7.1 i = C3.1 i := fun i hi => (o7 i (by omega) (by omega) (by omega) (by omega)).trans (kq6.1 i (by omega))
          have fx7 : rF C7 N x := by
            obtain ⟨y0, y1, y2, y3, y4⟩ := fx3
            exact ⟨by rw [t7 0 (by omega)]; exact y0, by rw [t7 1 (by omega)]; exact y1, by rw [t7 2 (by omega)]; exact y2, by rw [t7 3 (by omega)]; exact y3, by rw [t7 4 (by omega)]; exact y4⟩
          have pa7 : rPa C7 N (e_pa x) := rp3.cg (by omega) (by rw [t7 6 (by omega)]) (fun i _ => by rw [t7 5 (by omega)])
          obtain ⟨C8, c8, q8, e8⟩ := c_menter (h := h) (M := M) (C := C7) hE hN q7 ⟨fx7, pa7, au7, lv7⟩ xK x8 x10
          obtain ⟨C9, c9, q9, r9⟩ := m_after (h := h) (M := M) (s := s) (C := C) hE hN hS (xK.eok hE hN) e_up_ag q8 (fun i a b => (e8 i a b).trans (k07.2.1 i a b)) rv hs4 (fun p hp => by
            rw [e_up_N, x6] at hp
            unfold l_pair at hp
            rcases List.mem_append.1 hp with w | w
            · split at w
              · rename_i z
                rw [List.mem_singleton.1 w]
                rcases (d_can_N hSs hN4).1 k1 with y | ⟨-, -, y⟩
                · omega
                · exact y
              · cases w
            · split at w
              · rename_i z
                rw [List.mem_singleton.1 w]
                rcases (d_can_N hSs hN4).1 k2 with y | ⟨-, -, y⟩
                · omega
                · exact y
              · cases w)
          refine ⟨C9, ?_, q9, ?_⟩
          · show Ev tMd_forge 0 [some (vR M), some (.inl u), some (.inl k), some (.inl a), some (.inl b), some (.inl t), some (.inl one), some (.inl two), none, none, none] [] _ _
            refine st0 (st1 k1 (st2 k2 ?_))
            iterate 1 (refine ev_st rfl rfl ?_)
            refine ev_getf rfl hM_0 (by rfl) ?_
            rw [q.1]
            iterate 1 (refine ev_st rfl rfl ?_)
            refine ev_icT rfl (by simp only [ick, w32]; omega) ?_
            iterate 1 (refine ev_st rfl rfl ?_)
            refine ev_getf rfl hM_0 (by rfl) ?_
            rw [q.1]
            iterate 7 (refine ev_st rfl rfl ?_)
            refine ev_callV rfl rfl hM_0 rfl c1 ?_
            refine go2 (go3 ?_)
            iterate 2 (refine ev_st rfl rfl ?_)
            refine ev_getf rfl hM_0 (by rfl) ?_
            iterate 1 (refine ev_st rfl rfl ?_)
            refine ev_iald N rfl hA6 (by simp only [w32]; omega) (by omega) ?_
            rw [rp3.1]
            refine evM20 rfl rfl ?_
            rw [hC4]
            iterate 2 (refine ev_st rfl rfl ?_)
            refine go5 ?_
            iterate 1 (refine ev_st rfl rfl ?_)
            refine ev_callV rfl rfl hM_0 rfl c6 ?_
            iterate 2 (refine ev_st rfl rfl ?_)
            refine ev_getf rfl hM_0 (by rfl) ?_
            iterate 1 (refine ev_st rfl rfl ?_)
            refine ev_callV rfl rfl hM_0 rfl c7 ?_
            iterate 1 (refine ev_st rfl rfl ?_)
            refine ev_callV rfl rfl hM_0 rfl c8 ?_
            iterate 1 (refine ev_st rfl rfl ?_)
            refine ev_getf rfl hM_0 (by rfl) ?_
            iterate 6 (refine ev_st rfl rfl ?_)
            refine ev_bast (400 * s + N) rfl hA14 (by simp only [w32]; omega) (by omega) (Or.inr rfl) ?_
            rw [hP14]
            iterate 2 (refine ev_st rfl rfl ?_)
            refine ev_callV rfl rfl hM_0 rfl c9 ?_
            iterate 1 (refine ev_st rfl rfl ?_)
            exact ev_rt rfl rfl rfl
          · show rV C9 (N + 1) (e_up E N x) (d_enter N E V x).2.2
            unfold d_enter
            rw [x1, hss]
            exact r9
      · rw [if_neg (by rw [k1]; simpa using k2)]
        refine ⟨C, ?_, q, rv⟩
        show Ev tMd_forge 0 [some (vR M), some (.inl u), some (.inl k), some (.inl a), some (.inl b), some (.inl t), some (.inl one), some (.inl two), none, none, none] [] _ _
        exact st0 (st1 k1 (st2F (by simpa using k2)))
    · rw [if_neg (by rw [Bool.and_eq_true]; exact fun z => k1 z.1)]
      refine ⟨C, ?_, q, rv⟩
      show Ev tMd_forge 0 [some (vR M), some (.inl u), some (.inl k), some (.inl a), some (.inl b), some (.inl t), some (.inl one), some (.inl two), none, none, none] [] _ _
      exact st0 (st1F (by simpa using k1))
  · rw [if_neg p]
    refine ⟨C, ?_, q, rv⟩
    show Ev tMd_forge 0 [some (vR M), some (.inl u), some (.inl k), some (.inl a), some (.inl b), some (.inl t), some (.inl one), some (.inl two), none, none, none] [] _ _
    iterate 4 (refine ev_st rfl rfl ?_)
    refine ev_cl rfl rfl cw ?_
    refine ev_zeqF rfl (by simpa using p) ?_
    iterate 1 (refine ev_st rfl rfl ?_)
    exact ev_rt rfl rfl rfl
