-- the reference: tryOne, senderLevel, first
theorem l_mtrial {h : AH} {M e : Nat} {s τ : SS} : ∀ (k p : Nat) (C : RM), p + k = 23 → (∀ p, p < 23 → C.1 19 p = s p ∧ -1 ≤ s p ∧ s p < 400) → (∀ p, p < 23 → C.1 27 p = τ p) → (∀ p', p' < p → C.1 26 p' = s_over s τ p') → ∃ C', (kx [26] C C' ∧ ∀ p, p < 23 → C'.1 26 p = s_over s τ p) ∧ ∀ {o : Option AV × AH}, Ev tMd_tryOne 49 [some (vR M), some (.inl (e : Int)), some (.inl 23)] [] (hM h M C') o → Ev tMd_tryOne 7 [some (vR M), some (.inl (e : Int)), some (.inl (p : Int))] [] (hM h M C) o := by
  intro k
  induction k with
  | zero =>
    intro p C hp hs ht h26
    obtain rfl : p = 23 := by omega
    refine ⟨C, ⟨kx.rf, h26⟩, fun {o} hgo => ?_⟩
    iterate 2 (refine ev_st rfl rfl ?_)
    refine ev_icT rfl (by simp only [ick, w32]; omega) ?_
    exact hgo
  | succ k ih =>
    intro p C hp hs ht h26
    obtain ⟨s1, s2, s3⟩ := hs p (by omega)
    obtain ⟨C', ⟨k1, h1⟩, go⟩ := ih (p + 1) (rU C 26 (va_up (C.1 26) p (s_over s τ p))) (by omega) hs ht (fun p' hp' => by
      show va_up (C.1 26) p _ p' = _
      simp only [va_up]
      by_cases w : p' = p
      · rw [if_pos w, w]
      · rw [if_neg w]; exact h26 p' (by omega))
    refine ⟨C', ⟨(kx.u (by decide)).tr k1, h1⟩, fun {o} hgo => ?_⟩
    have := go hgo
    unfold s_over at this
    iterate 2 (refine ev_st rfl rfl ?_)
    refine ev_icF rfl (by simp only [ick, w32]; omega) ?_
    iterate 1 (refine ev_st rfl rfl ?_)
    refine ev_getf rfl hM_0 (by rfl) ?_
    iterate 2 (refine ev_st rfl rfl ?_)
    refine ev_getf rfl hM_0 (by rfl) ?_
    iterate 1 (refine ev_st rfl rfl ?_)
    refine ev_iald p rfl hA19 (by simp only [w32]; omega) (by omega) ?_
    rw [s1]
    by_cases z : 0 ≤ s p
    · rw [if_pos z] at this
      refine ev_ifF rfl (by simp only [ick, w32]; omega) ?_
      iterate 1 (refine ev_st rfl rfl ?_)
      refine ev_getf rfl hM_0 (by rfl) ?_
      iterate 1 (refine ev_st rfl rfl ?_)
      refine ev_iald p rfl hA19 (by simp only [w32]; omega) (by omega) ?_
      rw [s1]
      iterate 1 (refine ev_st rfl rfl ?_)
      refine ev_iast p rfl hA26 (by simp only [w32]; omega) (by omega) ?_
      rw [hP26]
      iterate 2 (refine ev_st rfl rfl ?_)
      exact this
    · rw [if_neg z] at this
      refine ev_ifT rfl (by simp only [ick, w32]; omega) ?_
      iterate 1 (refine ev_st rfl rfl ?_)
      refine ev_getf rfl hM_0 (by rfl) ?_
      iterate 1 (refine ev_st rfl rfl ?_)
      refine ev_iald p rfl hA27 (by simp only [w32]; omega) (by omega) ?_
      rw [ht p (by omega)]
      refine ev_iast p rfl hA26 (by simp only [w32]; omega) (by omega) ?_
      rw [hP26]
      iterate 2 (refine ev_st rfl rfl ?_)
      exact this
theorem sOK.r400 {N : Nat} {E : EL} {σ : SS} (hN : N ≤ 400) (h : sOK N E σ) (p : Nat) : -1 ≤ σ p ∧ σ p < 400 := by
  rcases h.at p with z | ⟨m, z1, z2, -⟩ <;> omega
theorem c_mtry {h : AH} {M N e : Nat} {C : RM} {E : EL} {s : SS} (hE : EOK N E) (q : rE C N E) (he : e < N) (hk : ¬ e_kd (E e) = 5) (hs : sOK N E s) (hr : ∀ p, p < 23 → C.1 19 p = s p) : ∃ C', Em mMd_tryOne 1 [vR M, .inl (e : Int)] (hM h M C) none (hM h M C') ∧ kx [19, 26, 27] C C' ∧ ∀ p, p < 23 → C'.1 19 p = r_try E s e p := by
  obtain ⟨hN, hW, hP, hX, hO, hB⟩ := id hE
  have qe := q.2 e he
  have hto : sOK N E (e_ow (E e)) := hO.ow e he
  obtain ⟨f1, g1, c1⟩ := c_mown (h := h) (M := M) hN q hW hto (by omega) qe.2.2.1
  obtain ⟨C2, ⟨k2, h2⟩, go2⟩ := l_mtrial (h := h) (M := M) (e := e) (s := s) (τ := e_ow (E e)) 23 0 (rU C 27 f1) (by omega) (fun p hp => ⟨hr p hp, hs.r400 hN p⟩) g1 (fun p hp => by omega)
  have k0 : kx [19, 26, 27] C C2 := (kx.u (S := [19, 26, 27]) (by decide)).tr (k2.mono (by decide))
  have q2 := q.kx hP k0 (by decide)
  have wf := hW e he
  have qe2 := q2.2 e he
  have sov := over_ok hs hto
  have cal := c_mallow (h := h) (M := M) (sa := M + 27) (fr := 0) hN q2 ⟨23, C2.1 26, hA26, by omega, fun p hp => by rw [Nat.zero_add]; exact h2 p hp⟩ hW sov (show e < 400 by omega) qe2.1 wf qe2.2.2.2.1 qe2.2.1.1 (hP e he).1
  have hr2 : ∀ p, p < 23 → C2.1 19 p = s p := fun p hp => by rw [k2.1 19 (by decide)]; exact hr p hp
  have start : ∀ {o : Option AV × AH}, Ev tMd_tryOne 59 [some (vR M), some (.inl (e : Int)), some (.inl 23)] [vB (m_allow E (E e) (s_over s (e_ow (E e))))] (hM h M C2) o → Ev tMd_tryOne 0 [some (vR M), some (.inl (e : Int)), none] [] (hM h M C) o := by
    intro o hgo
    iterate 2 (refine ev_st rfl rfl ?_)
    refine ev_callV rfl rfl hM_0 rfl c1 ?_
    iterate 2 (refine ev_st rfl rfl ?_)
    refine go2 ?_
    iterate 3 (refine ev_st rfl rfl ?_)
    refine ev_getf rfl hM_0 (by rfl) ?_
    iterate 1 (refine ev_st rfl rfl ?_)
    refine ev_callV rfl rfl hM_0 rfl cal ?_
    exact hgo
  by_cases al : m_allow E (E e) (s_over s (e_ow (E e))) = true
  · have hpl := pl_rng wf
    have hpl0 : 0 ≤ e_pl (E e) := by
      rcases (show e_pl (E e) = -1 ∨ 0 ≤ e_pl (E e) by omega) with z | z
      · exfalso
        obtain ⟨-, w1, w2, w3, -⟩ := wf
        unfold e_pl m_pl at z
        repeat (first | omega | split at z)
      · exact z
    refine ⟨rU C2 19 (va_up (C2.1 19) (e_pl (E e)).toNat (e : Int)), ?_, k0.tr (kx.u (by decide)), fun p hp => ?_⟩
    · show Ev tMd_tryOne 0 [some (vR M), some (.inl (e : Int)), none] [] _ _
      refine start ?_
      refine ev_zeqF rfl al ?_
      iterate 1 (refine ev_st rfl rfl ?_)
      refine ev_getf rfl hM_0 (by rfl) ?_
      iterate 2 (refine ev_st rfl rfl ?_)
      refine ev_callV rfl rfl hM_0 rfl (c_mplace (by omega) qe2.1 wf) ?_
      iterate 1 (refine ev_st rfl rfl ?_)
      refine ev_iast (e_pl (E e)).toNat rfl hA19 (by simp only [w32]; omega) (by omega) ?_
      rw [hP19]
      exact ev_rt rfl rfl rfl
    · show va_up (C2.1 19) (e_pl (E e)).toNat (e : Int) p = r_try E s e p
      unfold r_try
      rw [if_pos (show m_allow E (E e) (fun p => if 0 ≤ s p then s p else e_ow (E e) p) = true from al)]
      simp only [va_up]
      by_cases w : p = (e_pl (E e)).toNat
      · rw [if_pos w, if_pos (by omega)]
      · rw [if_neg w, if_neg (by omega), hr2 p hp]
  · refine ⟨C2, ?_, k0, fun p hp => ?_⟩
    · show Ev tMd_tryOne 0 [some (vR M), some (.inl (e : Int)), none] [] _ _
      refine start ?_
      refine ev_zeqT rfl (by simpa using al) ?_
      exact ev_rt rfl rfl rfl
    · unfold r_try
      rw [if_neg (show ¬ m_allow E (E e) (fun p => if 0 ≤ s p then s p else e_ow (E e) p) = true from al), hr2 p hp]
theorem c_mslev {h : AH} {M N e : Nat} {C : RM} {E : EL} (hE : EOK N E) (q : rE C N E) (he : e < N) : ∃ C', Em mMd_senderLevel 0 [vR M, .inl (e : Int)] (hM h M C) (some (.inl (e_sl E e))) (hM h M C') ∧ kx [27] C C' := by
  obtain ⟨hN, hW, hP, hX, hO, hB⟩ := id hE
  have qe := q.2 e he
  have wf := hW e he
  have hto : sOK N E (e_ow (E e)) := hO.ow e he
  obtain ⟨f1, g1, c1⟩ := c_mown (h := h) (M := M) hN q hW hto (by omega) qe.2.2.1
  have k1 : kx [27] C (rU C 27 f1) := kx.u (by decide)
  have q1 := q.kx hP k1 (by decide)
  obtain ⟨us, hus, hus2⟩ : ∃ u : Nat, e_sd (E e) = u ∧ u < 12 := ⟨(e_sd (E e)).toNat, by have := wf.1; omega, by have := wf.1; omega⟩
  have cl := c_mlevel (h := h) (M := M) (sa := M + 28) (fr := 0) hN q1 ⟨23, f1, hA27, by omega, fun p hp => by rw [Nat.zero_add]; exact g1 p hp⟩ hW hto hus2
  rw [← hus] at cl
  refine ⟨rU C 27 f1, ?_, k1⟩
  show Ev tMd_senderLevel 0 [some (vR M), some (.inl (e : Int))] [] _ _
  iterate 2 (refine ev_st rfl rfl ?_)
  refine ev_callV rfl rfl hM_0 rfl c1 ?_
  iterate 2 (refine ev_st rfl rfl ?_)
  refine ev_getf rfl hM_0 (by rfl) ?_
  iterate 2 (refine ev_st rfl rfl ?_)
  refine ev_getf rfl hM_0 (by rfl) ?_
  iterate 1 (refine ev_st rfl rfl ?_)
  refine ev_iald e rfl hA0 (by simp only [w32]; omega) (by omega) ?_
  rw [show (rU C 27 f1).1 0 e = e_sd (E e) from qe.1.1]
  refine ev_callV rfl rfl hM_0 rfl cl ?_
  exact ev_rt rfl rfl rfl
theorem sl_rng {N e : Nat} {E : EL} (hE : EOK N E) (he : e < N) : -100 ≤ e_sl E e ∧ e_sl E e ≤ 100 := by
  have wf := hE.2.1 e he
  obtain ⟨us, hus, hus2⟩ : ∃ u : Nat, e_sd (E e) = u ∧ u < 12 := ⟨(e_sd (E e)).toNat, by have := wf.1; omega, by have := wf.1; omega⟩
  unfold e_sl
  rw [hus]
  exact lev_rng hE.2.1 (hE.2.2.2.2.1.ow e he) hus2
def ob (o : Option Nat) : Int := match o with | none => -1 | some f => (f : Int)
def fb (E : EL) (e : Nat) : Option Nat → Bool
  | none => true
  | some f => r_first E e f
theorem c_mfirst {h : AH} {M N e : Nat} {C : RM} {E : EL} {b : Option Nat} (hE : EOK N E) (q : rE C N E) (he : e < N) (hb : ∀ f, b = some f → f < N) : ∃ C', Em mMd_first 2 [vR M, .inl (e : Int), .inl (ob b)] (hM h M C) (some (vB (fb E e b))) (hM h M C') ∧ kx [27] C C' := by
  have hN := hE.1
  cases b with
  | none =>
    refine ⟨C, ?_, kx.rf⟩
    show Ev tMd_first 0 [some (vR M), some (.inl (e : Int)), some (.inl (-1)), none, none] [] _ _
    iterate 1 (refine ev_st rfl rfl ?_)
    refine ev_ifF rfl (by simp only [ick, w32]; omega) ?_
    iterate 1 (refine ev_st rfl rfl ?_)
    exact ev_rt rfl rfl rfl
  | some f =>
    have hf := hb f rfl
    obtain ⟨C1, c1, k1⟩ := c_mslev (h := h) (M := M) hE q he
    have q1 := q.kx hE.2.2.1 k1 (by decide)
    obtain ⟨C2, c2, k2⟩ := c_mslev (h := h) (M := M) hE q1 hf
    have q2 := q1.kx hE.2.2.1 k2 (by decide)
    have re := sl_rng hE he
    have rf_ := sl_rng hE hf
    obtain ⟨⟨-, -, -, -, t1⟩, -⟩ := q2.2 e he
    obtain ⟨⟨-, -, -, -, t2⟩, -⟩ := q2.2 f hf
    have w1 := (hE.2.1 e he).2.2.2.2.2.2.1
    have w2 := (hE.2.1 f hf).2.2.2.2.2.2.1
    unfold InR at w1 w2
    refine ⟨C2, ?_, k1.tr k2⟩
    show Ev tMd_first 0 [some (vR M), some (.inl (e : Int)), some (.inl (f : Int)), none, none] [] _ (some (vB (r_first E e f)), _)
    iterate 1 (refine ev_st rfl rfl ?_)
    refine ev_ifT rfl (by simp only [ick, w32]; omega) ?_
    iterate 2 (refine ev_st rfl rfl ?_)
    refine ev_callV rfl rfl hM_0 rfl c1 ?_
    iterate 3 (refine ev_st rfl rfl ?_)
    refine ev_callV rfl rfl hM_0 rfl c2 ?_
    iterate 3 (refine ev_st rfl rfl ?_)
    unfold r_first
    by_cases z : e_sl E e = e_sl E f
    · rw [if_pos z]
      refine ev_icT rfl (by simp only [ick, w32]; omega) ?_
      unfold r_old
      iterate 1 (refine ev_st rfl rfl ?_)
      refine ev_getf rfl hM_0 (by rfl) ?_
      iterate 1 (refine ev_st rfl rfl ?_)
      refine ev_iald e rfl hA4 (by simp only [w32]; omega) (by omega) ?_
      rw [t1]
      iterate 1 (refine ev_st rfl rfl ?_)
      refine ev_getf rfl hM_0 (by rfl) ?_
      iterate 1 (refine ev_st rfl rfl ?_)
      refine ev_iald f rfl hA4 (by simp only [w32]; omega) (by omega) ?_
      rw [t2]
      by_cases tt : e_tm (E e) = e_tm (E f)
      · rw [if_pos tt]
        refine ev_icT rfl (by simp only [ick, w32]; omega) ?_
        iterate 1 (refine ev_st rfl rfl ?_)
        refine ev_cl rfl rfl (c_mid (show e < 400 by omega)) ?_
        iterate 1 (refine ev_st rfl rfl ?_)
        refine ev_cl rfl rfl (c_mid (show f < 400 by omega)) ?_
        have i1 := id_rng e
        have i2 := id_rng f
        by_cases ii : e_id e < e_id f
        · refine ev_icF rfl (by simp only [ick, w32]; omega) ?_
          iterate 2 (refine ev_st rfl rfl ?_)
          exact ev_rb rfl (by rw [decide_eq_true ii]; rfl)
        · refine ev_icT rfl (by simp only [ick, w32]; omega) ?_
          iterate 1 (refine ev_st rfl rfl ?_)
          exact ev_rb rfl (by rw [decide_eq_false ii]; rfl)
      · rw [if_neg tt]
        refine ev_icF rfl (by simp only [ick, w32]; omega) ?_
        iterate 1 (refine ev_st rfl rfl ?_)
        refine ev_getf rfl hM_0 (by rfl) ?_
        iterate 1 (refine ev_st rfl rfl ?_)
        refine ev_iald e rfl hA4 (by simp only [w32]; omega) (by omega) ?_
        rw [t1]
        iterate 1 (refine ev_st rfl rfl ?_)
        refine ev_getf rfl hM_0 (by rfl) ?_
        iterate 1 (refine ev_st rfl rfl ?_)
        refine ev_iald f rfl hA4 (by simp only [w32]; omega) (by omega) ?_
        rw [t2]
        by_cases ii : e_tm (E e) < e_tm (E f)
        · refine ev_icF rfl (by simp only [ick, w32]; omega) ?_
          iterate 2 (refine ev_st rfl rfl ?_)
          exact ev_rb rfl (by rw [decide_eq_true ii]; rfl)
        · refine ev_icT rfl (by simp only [ick, w32]; omega) ?_
          iterate 1 (refine ev_st rfl rfl ?_)
          exact ev_rb rfl (by rw [decide_eq_false ii]; rfl)
    · rw [if_neg z]
      refine ev_icF rfl (by simp only [ick, w32]; omega) ?_
      iterate 2 (refine ev_st rfl rfl ?_)
      by_cases ii : e_sl E f < e_sl E e
      · refine ev_icF rfl (by simp only [ick, w32]; omega) ?_
        iterate 2 (refine ev_st rfl rfl ?_)
        exact ev_rb rfl (by rw [decide_eq_true ii]; rfl)
      · refine ev_icT rfl (by simp only [ick, w32]; omega) ?_
        iterate 1 (refine ev_st rfl rfl ?_)
        exact ev_rb rfl (by rw [decide_eq_false ii]; rfl)
