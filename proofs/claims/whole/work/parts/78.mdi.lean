-- the reference: send
set_option maxRecDepth 20000
def rV (C : RM) (N : Nat) (E : EL) (V : Nat → SV) : Prop := ∀ s, s < 4 → (∀ y, y < 400 → C.1 14 (400 * s + y) = b2 ((V s).1 y) ∧ C.1 15 (400 * s + y) = b2 ((V s).2.1 y)) ∧ C.1 16 s = (b_cnt 448 (V s).2.1 : Nat) ∧ ∀ p, p < 23 → C.1 17 (23 * s + p) = m_state N E (V s).1 p
theorem rV.cg {C C' : RM} {N : Nat} {E : EL} {V : Nat → SV} (q : rV C N E V) (h : ∀ i, 14 ≤ i → i ≤ 17 → C'.1 i = C.1 i) : rV C' N E V := by
  intro s hs
  obtain ⟨a, b, c⟩ := q s hs
  exact ⟨fun y hy => by rw [h 14 (by omega) (by omega), h 15 (by omega) (by omega)]; exact a y hy, by rw [h 16 (by omega) (by omega)]; exact b, fun p hp => by rw [h 17 (by omega) (by omega)]; exact c p hp⟩
theorem recv_new {N : Nat} {E' : EL} {V : SV} (h1 : V.1 N = false) (h2 : V.2.1 N = false) (h3 : v_par E' N V.1 = true) : v_recv E' (N + 1) N V = (v_learn E' N V, 1) := by
  unfold v_recv
  rw [if_neg (by rw [h1]; simp), if_neg (by rw [h2]; simp), if_pos h3, Nat.sub_self]
  rfl
theorem m_after {h : AH} {M N s : Nat} {C C6 : RM} {E E' : EL} {V : Nat → SV} (hE : EOK N E) (hN : N < 400) (hS : VOK N E V) (hE1 : EOK (N + 1) E') (ag : agE N E E') (q6 : rE C6 (N + 1) E') (e6 : ∀ i, 14 ≤ i → i ≤ 17 → C6.1 i = C.1 i) (rv : rV C N E V) (hs : s < 4) (hp : ∀ p ∈ e_pa (E' N), (V s).1 p = true) : ∃ C8, Em mMd_renew 1 [vR M, .inl (s : Int)] (hM h M (rU C6 14 (va_up (C6.1 14) (400 * s + N) 1))) none (hM h M C8) ∧ rE C8 (N + 1) E' ∧ rV C8 (N + 1) E' (v_set V s (v_recv E' (N + 1) N (V s)).1) := by
  obtain ⟨s1, s2, s3, s4, s5⟩ := hS s hs
  have n1 : (V s).1 N = false := by cases hz : (V s).1 N; rfl; have := s1 N hz; omega
  have n2 : (V s).2.1 N = false := by cases hz : (V s).2.1 N; rfl; have := s2 N hz; omega
  rw [recv_new n1 n2 (v_par_iff.2 hp)]
  have q7 : rE (rU C6 14 (va_up (C6.1 14) (400 * s + N) 1)) (N + 1) E' := q6
  have h14 : ∀ t, t < 4 → ∀ y, y < 400 → (rU C6 14 (va_up (C6.1 14) (400 * s + N) 1)).1 14 (400 * t + y) = b2 ((v_set V s (v_learn E' N (V s)) t).1 y) := by
    intro t ht y hy
    show va_up (C6.1 14) (400 * s + N) 1 (400 * t + y) = _
    simp only [va_up]
    by_cases hts : t = s
    · subst hts
      unfold v_set v_learn
      rw [if_pos rfl]
      show _ = b2 (f_on (V t).1 N y)
      unfold f_on
      by_cases w : y = N
      · rw [if_pos (by omega), w, show Nat.beq N N = true from Nat.beq_refl N]; rfl
      · rw [if_neg (by omega), e6 14 (by omega) (by omega), ((rv t ht).1 y hy).1, beq_ne w]; rfl
    · rw [if_neg (by omega), e6 14 (by omega) (by omega), ((rv t ht).1 y hy).1]
      unfold v_set
      rw [if_neg hts]
  obtain ⟨C8, c8, a1, a2, a3, a4⟩ := c_mrenew (h := h) (M := M) (s := s) (kn := (v_learn E' N (V s)).1) hE1 q7 hs (fun y hy => by
    have := h14 s hs y (by omega)
    unfold v_set at this
    rw [if_pos rfl] at this
    exact this)
  have q8 : rE C8 (N + 1) E' := q7.k2 hE1.2.2.1 (fun i hi j _ => by rw [a1 i (by omega)]) a2
  · refine ⟨C8, c8, q8, fun t ht => ⟨fun y hy => ⟨?_, ?_⟩, ?_, fun p hp' => ?_⟩⟩
    · rw [a1 14 (by omega)]; exact h14 t ht y hy
    · rw [a1 15 (by omega)]
      show C6.1 15 _ = _
      rw [e6 15 (by omega) (by omega), ((rv t ht).1 y hy).2]
      unfold v_set
      by_cases hts : t = s
      · rw [if_pos hts, hts]; rfl
      · rw [if_neg hts]
    · rw [a1 16 (by omega)]
      show C6.1 16 _ = _
      rw [e6 16 (by omega) (by omega), (rv t ht).2.1]
      unfold v_set
      by_cases hts : t = s
      · rw [if_pos hts, hts]; rfl
      · rw [if_neg hts]
    · unfold v_set
      by_cases hts : t = s
      · rw [if_pos hts, hts]; exact a3 p hp'
      · rw [if_neg hts, a4 _ (by omega)]
        show C6.1 17 _ = _
        rw [e6 17 (by omega) (by omega), (rv t ht).2.2 p hp', x_state ag hE (hS t ht).1]
theorem l_msp {h : AH} {M N s : Nat} {E : EL} {kn : Nat → Bool} {j1 j2 j3 j4 j5 : Option AV} (hE : EOK N E) (hN : N < 400) (hs : s < 4) : ∀ (x : Nat) (C : RM) (P : List Nat), x ≤ N → rE C N E → (∀ y, y < N → C.1 14 (400 * s + y) = b2 (kn y)) → P.length ≤ 4 → rPa C N P → ∃ C', ((∀ i, i ≠ 5 → i ≠ 6 → C'.1 i = C.1 i) ∧ C'.2 = C.2 ∧ kp N C C' ∧ rPa C' N ((P ++ v_ds (m_head N E kn) x).take 4)) ∧ ∀ {o : Option AV × AH}, Ev tMd_send 122 [some (vR M), j1, j2, j3, j4, j5, some (.inl (s : Int)), some (.inl (N : Int)), some (.inl (-1))] [] (hM h M C') o → Ev tMd_send 56 [some (vR M), j1, j2, j3, j4, j5, some (.inl (s : Int)), some (.inl (N : Int)), some (.inl ((x : Int) - 1))] [] (hM h M C) o := by
  have hP := hE.2.2.1
  intro x
  induction x with
  | zero =>
    intro C P hx q h14 hl hp
    refine ⟨C, ⟨fun _ _ _ => rfl, rfl, kp.rf, ?_⟩, fun {o} hgo => ?_⟩
    · simp only [v_ds]
      rw [List.append_nil, List.take_of_length_le hl]
      exact hp
    · iterate 1 (refine ev_st rfl rfl ?_)
      refine ev_ifT rfl (by simp only [ick, w32]; omega) ?_
      exact hgo
  | succ x ih =>
    intro C P hx q h14 hl hp
    have ch := c_mhead (h := h) (M := M) (Nat.le_of_lt hN) hP q hs (show x < N by omega) h14
    have pre : ∀ {o : Option AV × AH}, Ev tMd_send 69 [some (vR M), j1, j2, j3, j4, j5, some (.inl (s : Int)), some (.inl (N : Int)), some (.inl (x : Int))] [.inl 4, .inl (P.length : Int)] (hM h M C) o → Ev tMd_send 56 [some (vR M), j1, j2, j3, j4, j5, some (.inl (s : Int)), some (.inl (N : Int)), some (.inl (((x + 1 : Nat) : Int) - 1))] [] (hM h M C) o := by
      intro o hgo
      rw [show ((x + 1 : Nat) : Int) - 1 = (x : Int) by omega]
      iterate 1 (refine ev_st rfl rfl ?_)
      refine ev_ifF rfl (by simp only [ick, w32]; omega) ?_
      iterate 1 (refine ev_st rfl rfl ?_)
      refine ev_getf rfl hM_0 (by rfl) ?_
      iterate 1 (refine ev_st rfl rfl ?_)
      refine ev_iald N rfl hA6 (by simp only [w32]; omega) (by omega) ?_
      rw [hp.1]
      iterate 1 (refine ev_st rfl rfl ?_)
      exact hgo
    have next : ∀ {o : Option AV × AH} {C : RM}, Ev tMd_send 56 [some (vR M), j1, j2, j3, j4, j5, some (.inl (s : Int)), some (.inl (N : Int)), some (.inl ((x : Int) - 1))] [] (hM h M C) o → Ev tMd_send 116 [some (vR M), j1, j2, j3, j4, j5, some (.inl (s : Int)), some (.inl (N : Int)), some (.inl (x : Int))] [] (hM h M C) o := by
      intro o C hgo
      rw [show (x : Int) - 1 = (x : Int) + -1 by omega] at hgo
      iterate 2 (refine ev_st rfl rfl ?_)
      exact hgo
    by_cases l4 : P.length = 4
    · obtain ⟨C', ⟨a1, a2, a3, a4⟩, go⟩ := ih C P (by omega) q h14 hl hp
      refine ⟨C', ⟨a1, a2, a3, ?_⟩, fun {o} hgo => pre ?_⟩
      · have e1 : ∀ {Q : List Nat}, (P ++ Q).take 4 = P := fun {Q} => by rw [← l4, List.take_left]
        rw [e1] at a4 ⊢
        exact a4
      · refine ev_icT rfl (by simp only [ick, w32]; omega) ?_
        exact next (go hgo)
    · cases hh : m_head N E kn x with
      | false =>
        rw [hh] at ch
        obtain ⟨C', ⟨a1, a2, a3, a4⟩, go⟩ := ih C P (by omega) q h14 hl hp
        refine ⟨C', ⟨a1, a2, a3, ?_⟩, fun {o} hgo => pre ?_⟩
        · simp only [v_ds, hh, cond_false]; exact a4
        · refine ev_icF rfl (by simp only [ick, w32]; omega) ?_
          iterate 3 (refine ev_st rfl rfl ?_)
          refine ev_callV rfl rfl hM_0 rfl ch ?_
          refine ev_zneF rfl rfl ?_
          iterate 1 (refine ev_st rfl rfl ?_)
          exact next (go hgo)
      | true =>
        rw [hh] at ch
        have k0 : kp N C (rU (rU C 5 (va_up (C.1 5) (4 * N + P.length) (x : Int))) 6 (va_up (C.1 6) N ((P.length : Int) + 1))) := (kp.u (i := 5) (by omega) (fun j hj => va_up_ne _ _ (by change j < 4 * N at hj; omega))).tr (kp.u (i := 6) (by omega) (fun j hj => va_up_ne _ _ (by change j < 1 * N at hj; omega)))
        have hp' : rPa (rU (rU C 5 (va_up (C.1 5) (4 * N + P.length) (x : Int))) 6 (va_up (C.1 6) N ((P.length : Int) + 1))) N (P ++ [x]) := by
          refine ⟨?_, fun i hi => ?_⟩
          · rw [List.length_append]; exact va_up_self _ _ _
          · show va_up (C.1 5) (4 * N + P.length) (x : Int) (4 * N + i) = _
            simp only [va_up]
            rw [List.length_append] at hi
            by_cases w : i = P.length
            · rw [if_pos (by omega), w, List.getD_eq_getElem?_getD, List.getElem?_append_right (Nat.le_refl _), Nat.sub_self]; rfl
            · rw [if_neg (by omega), hp.2 i (by simp at hi; omega), List.getD_eq_getElem?_getD, List.getD_eq_getElem?_getD, List.getElem?_append_left (by simp at hi; omega)]
        obtain ⟨C', ⟨a1, a2, a3, a4⟩, go⟩ := ih (rU (rU C 5 (va_up (C.1 5) (4 * N + P.length) (x : Int))) 6 (va_up (C.1 6) N ((P.length : Int) + 1))) (P ++ [x]) (by omega) (q.kp hP k0) h14 (by rw [List.length_append]; simp; omega) hp'
        refine ⟨C', ⟨fun i h5 h6 => (a1 i h5 h6).trans ((rU_ne h6).trans (rU_ne h5)), a2, k0.tr a3, ?_⟩, fun {o} hgo => pre ?_⟩
        · simp only [v_ds, hh, cond_true]
          rw [List.append_assoc] at a4
          exact a4
        · refine ev_icF rfl (by simp only [ick, w32]; omega) ?_
          iterate 3 (refine ev_st rfl rfl ?_)
          refine ev_callV rfl rfl hM_0 rfl ch ?_
          refine ev_zneT rfl rfl ?_
          iterate 1 (refine ev_st rfl rfl ?_)
          refine ev_getf rfl hM_0 (by rfl) ?_
          iterate 4 (refine ev_st rfl rfl ?_)
          refine ev_getf rfl hM_0 (by rfl) ?_
          iterate 1 (refine ev_st rfl rfl ?_)
          refine ev_iald N rfl hA6 (by simp only [w32]; omega) (by omega) ?_
          rw [hp.1]
          iterate 2 (refine ev_st rfl rfl ?_)
          refine ev_iast (4 * N + P.length) rfl hA5 (by simp only [w32]; omega) (by omega) ?_
          rw [hP5]
          iterate 1 (refine ev_st rfl rfl ?_)
          refine ev_getf rfl hM_0 (by rfl) ?_
          iterate 2 (refine ev_st rfl rfl ?_)
          refine ev_iald N rfl hA6 (by simp only [w32]; omega) (by omega) ?_
          rw [show (rU C 5 (va_up (C.1 5) (4 * N + P.length) (x : Int))).1 6 N = (P.length : Int) from hp.1]
          iterate 2 (refine ev_st rfl rfl ?_)
          refine ev_iast N rfl hA6 (by simp only [w32]; omega) (by omega) ?_
          rw [hP6]
          exact next (go hgo)
set_option maxHeartbeats 8000000 in
theorem c_msend {h : AH} {M N : Nat} {C : RM} {E : EL} {V : Nat → SV} (hE : EOK N E) (hS : VOK N E V) (q : rE C N E) (rv : rV C N E V) {u k a b t : Int} (hu : InR u) (hk : InR k) (ha : InR a) (hb : InR b) (ht : InR t) : ∃ C', Em mMd_send 3 [vR M, .inl u, .inl k, .inl a, .inl b, .inl t] (hM h M C) (some (.inl (d_send N E V u k a b t).2)) (hM h M C') ∧ rE C' (d_send N E V u k a b t).1.1 (d_send N E V u k a b t).1.2.1 ∧ rV C' (d_send N E V u k a b t).1.1 (d_send N E V u k a b t).1.2.1 (d_send N E V u k a b t).1.2.2 := by
  have hP := hE.2.2.1
  have cw := c_mwrong (h := hM h M C) hu hk ha hb
  unfold d_send
  by_cases p : m_prop u k a b = true
  · rw [if_pos p]
    have u12 := prop_u p
    have hs4 : u.toNat % 4 < 4 := Nat.mod_lt _ (by omega)
    by_cases n4 : N = 400
    · rw [if_pos n4]
      refine ⟨C, ?_, q, rv⟩
      show Ev tMd_send 0 [some (vR M), some (.inl u), some (.inl k), some (.inl a), some (.inl b), some (.inl t), none, none, none] [] _ _
      iterate 4 (refine ev_st rfl rfl ?_)
      refine ev_cl rfl rfl cw ?_
      refine ev_zeqT rfl (by rw [p]; rfl) ?_
      iterate 1 (refine ev_st rfl rfl ?_)
      refine ev_getf rfl hM_0 (by rfl) ?_
      rw [q.1]
      iterate 1 (refine ev_st rfl rfl ?_)
      refine ev_icF rfl (by simp only [ick, w32]; omega) ?_
      iterate 1 (refine ev_st rfl rfl ?_)
      exact ev_rt rfl rfl rfl
    · rw [if_neg n4]
      have hN : N < 400 := by have := hE.1; omega
      have tk := tk_ok (N := N) (dh := (V (u.toNat % 4)).2.2)
      have so1 := state_ok (kn := (V (u.toNat % 4)).1) hE
      have xK : evK N E (d_ev N E V u k a b t) := ev_K hE p ha hb ht tk so1 (res_ok hE tk.2)
      generalize hx : d_ev N E V u k a b t = x at *
      have x1 : e_sd x = u := by rw [← hx]; rfl
      have x2 : e_kd x = k := by rw [← hx]; rfl
      have x3 : e_a x = a := by rw [← hx]; rfl
      have x4 : e_b x = b := by rw [← hx]; rfl
      have x5 : e_tm x = t := by rw [← hx]; rfl
      have x6 : e_pa x = (v_ds (V (u.toNat % 4)).2.2 N).take 4 := by rw [← hx]; rfl
      have x7 : e_ow x = m_need (m_state N E (V (u.toNat % 4)).1) (e_kd x) (e_sd x) (e_a x) := by rw [← hx]; rfl
      have x8 : e_ch x = m_ch E (e_ow x) := by rw [← hx]; rfl
      have x9 : e_lv x = m_lvs E (e_ow x) (e_a x) (e_b x) := by rw [← hx]; rfl
      have x10 : e_bf x = r_res N E (e_pa x) := by rw [← hx]; rfl
      have wf := xK.1
      obtain ⟨C1, c1, k1, ⟨d0, d1, d2, d3, d4⟩, d6, d9, dI⟩ := c_mwrite (h := h) (M := M) (u := u) (k := k) (a := a) (b := b) (t := t) hN q.1
      have q1 := q.kp hP k1
      obtain ⟨C2, ⟨f1, f2, k2, r2⟩, go2⟩ := l_msp (h := h) (M := M) (kn := (V (u.toNat % 4)).1) (j1 := some (.inl u)) (j2 := some (.inl k)) (j3 := some (.inl a)) (j4 := some (.inl b)) (j5 := some (.inl t)) hE hN hs4 N C1 [] (Nat.le_refl _) q1 (fun y hy => by rw [d9 14 (by omega)]; exact ((rv _ hs4).1 y (by omega)).1) (by simp) ⟨d6, fun i hi => by simp at hi⟩
      rw [List.nil_append, ← (hS _ hs4).2.2.2.2, ← x6] at r2
      have k02 := k1.tr k2
      have q2 := q.kp hP k02
      have fx2 : rF C2 N x := ⟨by rw [f1 0 (by omega) (by omega), d0, x1], by rw [f1 1 (by omega) (by omega), d1, x2], by rw [f1 2 (by omega) (by omega), d2, x3], by rw [f1 3 (by omega) (by omega), d3, x4], by rw [f1 4 (by omega) (by omega), d4, x5]⟩
      have hst : ∀ C', (∀ i, i ≠ 28 → i ≠ 7 → i ≠ 8 → i ≠ 9 → C'.1 i = C2.1 i) → rS (hM h M C') (M + 18) (23 * (u.toNat % 4)) (m_state N E (V (u.toNat % 4)).1) := by
        intro C' hc
        refine ⟨92, C'.1 17, hA17, by omega, fun p hp => ?_⟩
        rw [hc 17 (by omega) (by omega) (by omega) (by omega), f1 17 (by omega) (by omega), d9 17 (by omega)]
        exact (rv _ hs4).2.2 p hp
      obtain ⟨C3, c3, k3, o3, au3, lv3, -⟩ := c_mauth (h := h) (M := M) (C := C2) (sa := M + 18) (fr := 23 * (u.toNat % 4)) hN q2 hE.2.1 hP hst so1 fx2 wf x7 x9
      have k03 := k02.tr k3
      have q3 := q.kp hP k03
      have fx3 : rF C3 N x := by
        obtain ⟨y0, y1, y2, y3, y4⟩ := fx2
        exact ⟨by rw [o3 0 (by omega) (by omega) (by omega) (by omega)]; exact y0, by rw [o3 1 (by omega) (by omega) (by omega) (by omega)]; exact y1, by rw [o3 2 (by omega) (by omega) (by omega) (by omega)]; exact y2, by rw [o3 3 (by omega) (by omega) (by omega) (by omega)]; exact y3, by rw [o3 4 (by omega) (by omega) (by omega) (by omega)]; exact y4⟩
      have pa3 : rPa C3 N (e_pa x) := r2.cg xK.2.1.1 (by rw [o3 6 (by omega) (by omega) (by omega) (by omega)]) (fun i _ => by rw [o3 5 (by omega) (by omega) (by omega) (by omega)])
      have cal := c_mallow (h := h) (M := M) (C := C3) hE.1 q3 (hst C3 o3) hE.2.1 so1 hN fx3 wf lv3 pa3.1 xK.2.1.1
      have v3 : ∀ i, 14 ≤ i → i ≤ 17 → C3.1 i = C.1 i := k03.2.1
      have start : ∀ {o : Option AV × AH}, Ev tMd_send 150 [some (vR M), some (.inl u), some (.inl k), some (.inl a), some (.inl b), some (.inl t), some (.inl ((u.toNat % 4 : Nat) : Int)), some (.inl (N : Int)), some (.inl (-1))] [vB (m_allow E x (m_state N E (V (u.toNat % 4)).1))] (hM h M C3) o → Ev tMd_send 0 [some (vR M), some (.inl u), some (.inl k), some (.inl a), some (.inl b), some (.inl t), none, none, none] [] (hM h M C) o := by
        intro o hgo
        iterate 4 (refine ev_st rfl rfl ?_)
        refine ev_cl rfl rfl cw ?_
        refine ev_zeqT rfl (by rw [p]; rfl) ?_
        iterate 1 (refine ev_st rfl rfl ?_)
        refine ev_getf rfl hM_0 (by rfl) ?_
        rw [q.1]
        iterate 1 (refine ev_st rfl rfl ?_)
        refine ev_icT rfl (by simp only [ick, w32]; omega) ?_
        iterate 2 (refine ev_st rfl rfl ?_)
        refine ev_rem (((u.toNat % 4 : Nat)) : Int) rfl (by decide) (by
          rw [w32_id (by omega) (by omega), show w32 4 = 4 by decide, Int.tmod_eq_emod_of_nonneg (by omega)]
          omega) ?_
        iterate 2 (refine ev_st rfl rfl ?_)
        refine ev_getf rfl hM_0 (by rfl) ?_
        rw [q.1]
        iterate 7 (refine ev_st rfl rfl ?_)
        refine ev_callV rfl rfl hM_0 rfl c1 ?_
        iterate 1 (refine ev_st rfl rfl ?_)
        refine ev_getf rfl hM_0 (by rfl) ?_
        rw [show C1.2.1 = (N : Int) from q1.1]
        iterate 3 (refine ev_st rfl rfl ?_)
        refine go2 ?_
        iterate 2 (refine ev_st rfl rfl ?_)
        refine ev_getf rfl hM_0 (by rfl) ?_
        iterate 3 (refine ev_st rfl rfl ?_)
        rw [show (23 : Int) * ((u.toNat % 4 : Nat) : Int) = ((23 * (u.toNat % 4) : Nat) : Int) by omega]
        refine ev_callV rfl rfl hM_0 rfl c3 ?_
        iterate 3 (refine ev_st rfl rfl ?_)
        refine ev_getf rfl hM_0 (by rfl) ?_
        iterate 3 (refine ev_st rfl rfl ?_)
        rw [show (23 : Int) * ((u.toNat % 4 : Nat) : Int) = ((23 * (u.toNat % 4) : Nat) : Int) by omega]
        refine ev_callV rfl rfl hM_0 rfl cal ?_
        exact hgo
      by_cases al : m_allow E x (m_state N E (V (u.toNat % 4)).1) = true
      · rw [if_pos al]
        obtain ⟨C6, c6, q6, e6⟩ := c_menter (h := h) (M := M) (C := C3) hE hN q3 ⟨fx3, pa3, au3, lv3⟩ xK x8 x10
        obtain ⟨C8, c8, q8, r8⟩ := m_after (h := h) (M := M) (s := u.toNat % 4) (C := C) hE hN hS (xK.eok hE hN) e_up_ag q6 (fun i a b => (e6 i a b).trans (v3 i a b)) rv hs4 (fun p hp => by
          rw [e_up_N, x6] at hp
          have := (v_ds_mem.1 (List.mem_of_mem_take hp)).2
          rw [(hS _ hs4).2.2.2.2, m_head_iff] at this
          exact this.1)
        refine ⟨C8, ?_, q8, ?_⟩
        · show Ev tMd_send 0 [some (vR M), some (.inl u), some (.inl k), some (.inl a), some (.inl b), some (.inl t), none, none, none] [] _ _
          refine start ?_
          refine ev_zneT rfl al ?_
          iterate 1 (refine ev_st rfl rfl ?_)
          refine ev_callV rfl rfl hM_0 rfl c6 ?_
          iterate 1 (refine ev_st rfl rfl ?_)
          refine ev_getf rfl hM_0 (by rfl) ?_
          iterate 6 (refine ev_st rfl rfl ?_)
          refine ev_bast (400 * (u.toNat % 4) + N) rfl hA14 (by simp only [w32]; omega) (by omega) (Or.inr rfl) ?_
          rw [hP14]
          iterate 2 (refine ev_st rfl rfl ?_)
          refine ev_callV rfl rfl hM_0 rfl c8 ?_
          iterate 1 (refine ev_st rfl rfl ?_)
          exact ev_rt rfl rfl rfl
        · show rV C8 (N + 1) (e_up E N x) (d_enter N E V x).2.2
          unfold d_enter
          rw [x1]
          exact r8
      · rw [if_neg al]
        refine ⟨C3, ?_, q3, rv.cg v3⟩
        show Ev tMd_send 0 [some (vR M), some (.inl u), some (.inl k), some (.inl a), some (.inl b), some (.inl t), none, none, none] [] _ _
        refine start ?_
        refine ev_zneF rfl (by simpa using al) ?_
        iterate 1 (refine ev_st rfl rfl ?_)
        exact ev_rt rfl rfl rfl
  · rw [if_neg p]
    refine ⟨C, ?_, q, rv⟩
    show Ev tMd_send 0 [some (vR M), some (.inl u), some (.inl k), some (.inl a), some (.inl b), some (.inl t), none, none, none] [] _ _
    iterate 4 (refine ev_st rfl rfl ?_)
    refine ev_cl rfl rfl cw ?_
    refine ev_zeqF rfl (by simpa using p) ?_
    iterate 1 (refine ev_st rfl rfl ?_)
    exact ev_rt rfl rfl rfl
