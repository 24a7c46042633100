-- the reference: isHead, renew, ready, wrong
set_option maxRecDepth 20000
theorem l_hk {h : AH} {M N s e x : Nat} {C : RM} {E : EL} (hN : N ≤ 400) (hP : PW N E) (q : rE C N E) (hx : x < N) (he : e < 400) {j1 : Option AV} : ∀ (k i : Nat), i + k = (e_pa (E x)).length → (∀ j, j < i → (e_pa (E x)).getD j 0 ≠ e) → ((e_pa (E x)).contains e = true → Ev tMd_isHead 50 [some (vR M), j1, some (.inl (e : Int)), some (.inl (x : Int)), some (.inl (i : Int))] [] (hM h M C) (some (vB false), hM h M C)) ∧ ((e_pa (E x)).contains e = false → ∀ {o : Option AV × AH}, Ev tMd_isHead 84 [some (vR M), j1, some (.inl (e : Int)), some (.inl (x : Int)), some (.inl ((e_pa (E x)).length : Int))] [] (hM h M C) o → Ev tMd_isHead 50 [some (vR M), j1, some (.inl (e : Int)), some (.inl (x : Int)), some (.inl (i : Int))] [] (hM h M C) o) := by
  obtain ⟨p6, p5⟩ := (q.2 x hx).2.1
  obtain ⟨w4, wl⟩ := hP x hx
  intro k
  induction k with
  | zero =>
    intro i hi hj
    obtain rfl : i = (e_pa (E x)).length := by omega
    constructor
    · intro hc
      rw [List.contains_iff_mem] at hc
      obtain ⟨j, j1, j2⟩ := List.getElem_of_mem hc
      exact absurd (by rw [List.getD_eq_getElem?_getD, List.getElem?_eq_getElem j1, j2]; rfl) (hj j j1)
    · intro _ o hgo
      iterate 2 (refine ev_st rfl rfl ?_)
      refine ev_getf rfl hM_0 (by rfl) ?_
      iterate 1 (refine ev_st rfl rfl ?_)
      refine ev_iald x rfl hA6 (by simp only [w32]; omega) (by omega) ?_
      rw [p6]
      refine ev_icT rfl (by simp only [ick, w32]; omega) ?_
      exact hgo
  | succ k ih =>
    intro i hi hj
    have pi := p5 i (by omega)
    have pl := wl _ (getD_mem (show i < (e_pa (E x)).length by omega))
    have pre : ∀ {o : Option AV × AH}, Ev tMd_isHead 73 [some (vR M), j1, some (.inl (e : Int)), some (.inl (x : Int)), some (.inl (i : Int))] [.inl (e : Int), .inl ((e_pa (E x)).getD i 0 : Int)] (hM h M C) o → Ev tMd_isHead 50 [some (vR M), j1, some (.inl (e : Int)), some (.inl (x : Int)), some (.inl (i : Int))] [] (hM h M C) o := by
      intro o hgo
      iterate 2 (refine ev_st rfl rfl ?_)
      refine ev_getf rfl hM_0 (by rfl) ?_
      iterate 1 (refine ev_st rfl rfl ?_)
      refine ev_iald x rfl hA6 (by simp only [w32]; omega) (by omega) ?_
      rw [p6]
      refine ev_icF rfl (by simp only [ick, w32]; omega) ?_
      iterate 1 (refine ev_st rfl rfl ?_)
      refine ev_getf rfl hM_0 (by rfl) ?_
      iterate 5 (refine ev_st rfl rfl ?_)
      refine ev_iald (4 * x + i) rfl hA5 (by simp only [w32]; omega) (by omega) ?_
      rw [pi]
      iterate 1 (refine ev_st rfl rfl ?_)
      exact hgo
    by_cases hee : (e_pa (E x)).getD i 0 = e
    · constructor
      · intro _
        refine pre ?_
        refine ev_icF rfl (by simp only [ick, w32]; omega) ?_
        iterate 1 (refine ev_st rfl rfl ?_)
        exact ev_rt rfl rfl rfl
      · intro hc
        have := getD_mem (show i < (e_pa (E x)).length by omega)
        rw [hee, ← List.contains_iff_mem, hc] at this
        cases this
    · obtain ⟨a, b⟩ := ih (i + 1) (by omega) (fun j hj' => by
        by_cases w : j = i
        · rw [w]; exact hee
        · exact hj j (by omega))
      constructor
      · intro hc
        refine pre ?_
        refine ev_icT rfl (by simp only [ick, w32]; omega) ?_
        iterate 2 (refine ev_st rfl rfl ?_)
        exact a hc
      · intro hc o hgo
        refine pre ?_
        refine ev_icT rfl (by simp only [ick, w32]; omega) ?_
        iterate 2 (refine ev_st rfl rfl ?_)
        exact b hc hgo
theorem l_hx {h : AH} {M N s e : Nat} {C : RM} {E : EL} {kn : Nat → Bool} (hN : N ≤ 400) (hP : PW N E) (q : rE C N E) (hs : s < 4) (he : e < N) (h14 : ∀ y, y < N → C.1 14 (400 * s + y) = b2 (kn y)) : ∀ (k x : Nat) (j4 : Option AV), x + k = N → (∀ y, y < x → (kn y && (e_pa (E y)).contains e) = false) → Ev tMd_isHead 21 [some (vR M), some (.inl (s : Int)), some (.inl (e : Int)), some (.inl (x : Int)), j4] [] (hM h M C) (some (vB (!b_any N fun y => kn y && (e_pa (E y)).contains e)), hM h M C) := by
  intro k
  induction k with
  | zero =>
    intro x j4 hx hj
    obtain rfl : x = N := by omega
    have : (b_any x fun y => kn y && (e_pa (E y)).contains e) = false := by
      cases hb : b_any x fun y => kn y && (e_pa (E y)).contains e
      · rfl
      · obtain ⟨y, y1, y2⟩ := b_any_iff.1 hb
        rw [hj y y1] at y2; cases y2
    rw [this]
    iterate 2 (refine ev_st rfl rfl ?_)
    refine ev_getf rfl hM_0 (by rfl) ?_
    rw [q.1]
    refine ev_icT rfl (by simp only [ick, w32]; omega) ?_
    iterate 1 (refine ev_st rfl rfl ?_)
    exact ev_rt rfl rfl rfl
  | succ k ih =>
    intro x j4 hx hj
    have e14 := h14 x (by omega)
    have pre : ∀ {o : Option AV × AH}, Ev tMd_isHead 41 [some (vR M), some (.inl (s : Int)), some (.inl (e : Int)), some (.inl (x : Int)), j4] [vB (kn x)] (hM h M C) o → Ev tMd_isHead 21 [some (vR M), some (.inl (s : Int)), some (.inl (e : Int)), some (.inl (x : Int)), j4] [] (hM h M C) o := by
      intro o hgo
      iterate 2 (refine ev_st rfl rfl ?_)
      refine ev_getf rfl hM_0 (by rfl) ?_
      rw [q.1]
      refine ev_icF rfl (by simp only [ick, w32]; omega) ?_
      iterate 1 (refine ev_st rfl rfl ?_)
      refine ev_getf rfl hM_0 (by rfl) ?_
      iterate 5 (refine ev_st rfl rfl ?_)
      refine ev_iald (400 * s + x) rfl hA14 (by simp only [w32]; omega) (by omega) ?_
      rw [e14]
      exact hgo
    cases hk : kn x with
    | false =>
      rw [hk] at pre
      refine pre ?_
      refine ev_zneF rfl rfl ?_
      iterate 3 (refine ev_st rfl rfl ?_)
      exact ih (x + 1) j4 (by omega) (fun y hy => by
        by_cases w : y = x
        · rw [w, hk]; rfl
        · exact hj y (by omega))
    | true =>
      rw [hk] at pre
      refine pre ?_
      obtain ⟨a, b⟩ := l_hk (h := h) (M := M) (s := s) (e := e) (x := x) (j1 := some (.inl (s : Int))) hN hP q (by omega) (by omega) (e_pa (E x)).length 0 (by omega) (fun j hj => by omega)
      refine ev_zneT rfl rfl ?_
      iterate 2 (refine ev_st rfl rfl ?_)
      cases hc : (e_pa (E x)).contains e with
      | true =>
        have : (b_any N fun y => kn y && (e_pa (E y)).contains e) = true := b_any_iff.2 ⟨x, by omega, by rw [hk, hc]; rfl⟩
        rw [this]
        exact a hc
      | false =>
        refine b hc ?_
        iterate 2 (refine ev_st rfl rfl ?_)
        exact ih (x + 1) _ (by omega) (fun y hy => by
          by_cases w : y = x
          · rw [w, hc, Bool.and_false]
          · exact hj y (by omega))
theorem c_mhead {h : AH} {M N s e : Nat} {C : RM} {E : EL} {kn : Nat → Bool} (hN : N ≤ 400) (hP : PW N E) (q : rE C N E) (hs : s < 4) (he : e < N) (h14 : ∀ y, y < N → C.1 14 (400 * s + y) = b2 (kn y)) : Em mMd_isHead 2 [vR M, .inl (s : Int), .inl (e : Int)] (hM h M C) (some (vB (m_head N E kn e))) (hM h M C) := by
  show Ev tMd_isHead 0 [some (vR M), some (.inl (s : Int)), some (.inl (e : Int)), none, none] [] _ _
  unfold m_head
  iterate 1 (refine ev_st rfl rfl ?_)
  refine ev_getf rfl hM_0 (by rfl) ?_
  iterate 5 (refine ev_st rfl rfl ?_)
  refine ev_iald (400 * s + e) rfl hA14 (by simp only [w32]; omega) (by omega) ?_
  rw [h14 e he]
  cases hk : kn e with
  | false =>
    refine ev_zneF rfl rfl ?_
    iterate 1 (refine ev_st rfl rfl ?_)
    exact ev_rt rfl rfl rfl
  | true =>
    rw [Bool.true_and]
    refine ev_zneT rfl rfl ?_
    iterate 4 (refine ev_st rfl rfl ?_)
    exact l_hx hN hP q hs he h14 (N - (e + 1)) (e + 1) none (by omega) (fun y hy => by
      cases hc : (e_pa (E y)).contains e
      · rw [Bool.and_false]
      · have := (hP y (by omega)).2 e (List.contains_iff_mem.1 hc)
        omega)
theorem l_rn {h : AH} {M N s : Nat} {E : EL} {kn : Nat → Bool} (hN : N ≤ 400) (hP : PW N E) (hs : s < 4) : ∀ (k e : Nat) (C : RM), e + k = N → rE C N E → (∀ y, y < N → C.1 14 (400 * s + y) = b2 (kn y)) → rO C (v_up (m_head N E kn) e) → ∃ C', ((∀ i, i ≠ 18 → C'.1 i = C.1 i) ∧ C'.2.1 = C.2.1 ∧ rO C' (v_up (m_head N E kn) N)) ∧ ∀ {o : Option AV × AH}, Ev tMd_renew 53 [some (vR M), some (.inl (s : Int)), some (.inl (N : Int))] [] (hM h M C') o → Ev tMd_renew 7 [some (vR M), some (.inl (s : Int)), some (.inl (e : Int))] [] (hM h M C) o := by
  intro k
  induction k with
  | zero =>
    intro e C he q h14 ro
    obtain rfl : e = N := by omega
    refine ⟨C, ⟨fun _ _ => rfl, rfl, ro⟩, fun {o} hgo => ?_⟩
    iterate 2 (refine ev_st rfl rfl ?_)
    refine ev_getf rfl hM_0 (by rfl) ?_
    rw [q.1]
    refine ev_icT rfl (by simp only [ick, w32]; omega) ?_
    exact hgo
  | succ k ih =>
    intro e C he q h14 ro
    have ch := c_mhead (h := h) (M := M) hN hP q hs (show e < N by omega) h14
    have hlen := v_up_len (m_head N E kn) e
    have hle := b_cnt_le (m_head N E kn) e
    have pre : ∀ {o : Option AV × AH}, Ev tMd_renew 21 [some (vR M), some (.inl (s : Int)), some (.inl (e : Int))] [vB (m_head N E kn e)] (hM h M C) o → Ev tMd_renew 7 [some (vR M), some (.inl (s : Int)), some (.inl (e : Int))] [] (hM h M C) o := by
      intro o hgo
      iterate 2 (refine ev_st rfl rfl ?_)
      refine ev_getf rfl hM_0 (by rfl) ?_
      rw [q.1]
      refine ev_icF rfl (by simp only [ick, w32]; omega) ?_
      iterate 3 (refine ev_st rfl rfl ?_)
      refine ev_callV rfl rfl hM_0 rfl ch ?_
      exact hgo
    cases hh : m_head N E kn e with
    | false =>
      rw [hh] at pre
      obtain ⟨C', hc', go⟩ := ih (e + 1) C (by omega) q h14 (by simp only [v_up, hh, cond_false]; exact ro)
      refine ⟨C', hc', fun {o} hgo => pre ?_⟩
      refine ev_zneF rfl rfl ?_
      iterate 3 (refine ev_st rfl rfl ?_)
      exact go hgo
    | true =>
      rw [hh] at pre
      generalize hL : v_up (m_head N E kn) e = L at *
      have k0 : kq C (rI (rU C 18 (va_up (C.1 18) L.length (e : Int))) (C.2.1, (L.length : Int) + 1, C.2.2.2)) := ⟨fun i hi => rU_ne (by omega), rfl⟩
      obtain ⟨C', ⟨a1, a2, a3⟩, go⟩ := ih (e + 1) (rI (rU C 18 (va_up (C.1 18) L.length (e : Int))) (C.2.1, (L.length : Int) + 1, C.2.2.2)) (by omega) (q.kp hP k0.kp) h14 (by
        simp only [v_up, hh, cond_true, hL]
        refine ⟨by rw [List.length_append]; rfl, fun i hi => ?_⟩
        show va_up (C.1 18) L.length (e : Int) i = _
        simp only [va_up]
        rw [List.length_append] at hi
        by_cases w : i = L.length
        · rw [if_pos w, w, List.getD_eq_getElem?_getD, List.getElem?_append_right (Nat.le_refl _), Nat.sub_self]; rfl
        · rw [if_neg w, ro.2 i (by simp at hi; omega), List.getD_eq_getElem?_getD, List.getD_eq_getElem?_getD, List.getElem?_append_left (by simp at hi; omega)])
      refine ⟨C', ⟨fun i hi => (a1 i hi).trans (rU_ne hi), a2, a3⟩, fun {o} hgo => pre ?_⟩
      refine ev_zneT rfl rfl ?_
      iterate 1 (refine ev_st rfl rfl ?_)
      refine ev_getf rfl hM_0 (by rfl) ?_
      iterate 1 (refine ev_st rfl rfl ?_)
      refine ev_getf rfl hM_0 (by rfl) ?_
      rw [ro.1]
      iterate 1 (refine ev_st rfl rfl ?_)
      refine ev_iast L.length rfl hA18 (by simp only [w32]; omega) (by omega) ?_
      rw [hP18]
      iterate 2 (refine ev_st rfl rfl ?_)
      refine ev_getf rfl hM_0 (by rfl) ?_
      iterate 2 (refine ev_st rfl rfl ?_)
      refine evM20 rfl rfl ?_
      rw [show (rU C 18 (va_up (C.1 18) L.length (e : Int))).2.2.1 = (L.length : Int) from ro.1]
      iterate 2 (refine ev_st rfl rfl ?_)
      exact go hgo
theorem l_rs {h : AH} {M s : Nat} {σ : SS} (hs : s < 4) : ∀ (k p : Nat) (C : RM), p + k = 23 → (∀ p, p < 23 → C.1 19 p = σ p) → (∀ p', p' < p → C.1 17 (23 * s + p') = σ p') → ∃ C', ((∀ i, i ≠ 17 → C'.1 i = C.1 i) ∧ C'.2 = C.2 ∧ (∀ p, p < 23 → C'.1 17 (23 * s + p) = σ p) ∧ ∀ j, ¬ (23 * s ≤ j ∧ j < 23 * s + 23) → C'.1 17 j = C.1 17 j) ∧ Ev tMd_renew 59 [some (vR M), some (.inl (s : Int)), some (.inl (p : Int))] [] (hM h M C) (none, hM h M C') := by
  intro k
  induction k with
  | zero =>
    intro p C hp h19 h17
    obtain rfl : p = 23 := by omega
    refine ⟨C, ⟨fun _ _ => rfl, rfl, h17, fun _ _ => rfl⟩, ?_⟩
    iterate 2 (refine ev_st rfl rfl ?_)
    refine ev_icT rfl (by simp only [ick, w32]; omega) ?_
    exact ev_rt rfl rfl rfl
  | succ k ih =>
    intro p C hp h19 h17
    obtain ⟨C', ⟨a1, a2, a3, a4⟩, go⟩ := ih (p + 1) (rU C 17 (va_up (C.1 17) (23 * s + p) (σ p))) (by omega) h19 (fun p' hp' => by
      show va_up (C.1 17) _ _ (23 * s + p') = _
      simp only [va_up]
      by_cases w : p' = p
      · rw [if_pos (by omega), w]
      · rw [if_neg (by omega)]; exact h17 p' (by omega))
    refine ⟨C', ⟨fun i hi => (a1 i hi).trans (rU_ne hi), a2, a3, fun j hj => (a4 j hj).trans (va_up_ne _ _ (by omega))⟩, ?_⟩
    iterate 2 (refine ev_st rfl rfl ?_)
    refine ev_icF rfl (by simp only [ick, w32]; omega) ?_
    iterate 1 (refine ev_st rfl rfl ?_)
    refine ev_getf rfl hM_0 (by rfl) ?_
    iterate 6 (refine ev_st rfl rfl ?_)
    refine ev_getf rfl hM_0 (by rfl) ?_
    iterate 1 (refine ev_st rfl rfl ?_)
    refine ev_iald p rfl hA19 (by simp only [w32]; omega) (by omega) ?_
    rw [h19 p (by omega)]
    refine ev_iast (23 * s + p) rfl hA17 (by simp only [w32]; omega) (by omega) ?_
    rw [hP17]
    iterate 2 (refine ev_st rfl rfl ?_)
    exact go
theorem c_mrenew {h : AH} {M N s : Nat} {C : RM} {E : EL} {kn : Nat → Bool} (hE : EOK N E) (q : rE C N E) (hs : s < 4) (h14 : ∀ y, y < N → C.1 14 (400 * s + y) = b2 (kn y)) : ∃ C', Em mMd_renew 1 [vR M, .inl (s : Int)] (hM h M C) none (hM h M C') ∧ (∀ i, i ≤ 16 → C'.1 i = C.1 i) ∧ C'.2.1 = C.2.1 ∧ (∀ p, p < 23 → C'.1 17 (23 * s + p) = m_state N E kn p) ∧ ∀ j, ¬ (23 * s ≤ j ∧ j < 23 * s + 23) → C'.1 17 j = C.1 17 j := by
  have hN := hE.1
  have hP := hE.2.2.1
  obtain ⟨C1, ⟨a1, a2, a3⟩, go1⟩ := l_rn (h := h) (M := M) (kn := kn) hN hP hs N 0 (rI C (C.2.1, 0, C.2.2.2)) (by omega) q h14 ⟨rfl, fun i hi => by simp [v_up] at hi⟩
  have k1 : kq C C1 := ⟨fun i hi => a1 i (by omega), a2⟩
  have q1 := q.kp hP k1.kp
  have hlen := v_up_len (m_head N E kn) N
  have hle := b_cnt_le (m_head N E kn) N
  obtain ⟨C2, c2, k2, r2⟩ := c_mres (h := h) (M := M) hE q1 a3 (fun n hn => (v_up_mem.1 hn).1) (by omega)
  rw [v_up_filter] at r2
  obtain ⟨C3, ⟨b1, b2_, b3, b4⟩, go3⟩ := l_rs (h := h) (M := M) (s := s) (σ := m_state N E kn) hs 23 0 C2 (by omega) r2 (fun p hp => by omega)
  refine ⟨C3, ?_, fun i hi => ?_, ?_, b3, fun j hj => ?_⟩
  · show Ev tMd_renew 0 [some (vR M), some (.inl (s : Int)), none] [] _ _
    iterate 2 (refine ev_st rfl rfl ?_)
    refine evM20 rfl rfl ?_
    iterate 2 (refine ev_st rfl rfl ?_)
    refine go1 ?_
    iterate 1 (refine ev_st rfl rfl ?_)
    refine ev_callV rfl rfl hM_0 rfl c2 ?_
    iterate 2 (refine ev_st rfl rfl ?_)
    exact go3
  · rw [b1 i (by omega), k2.1 i (by simp; omega), k1.1 i (by omega)]
  · rw [b2_, k2.2.1, k1.2]
  · rw [b4 j hj, k2.1 17 (by decide), k1.1 17 (by omega)]
theorem l_mready {h : AH} {M N s e : Nat} {C : RM} {E : EL} {kn : Nat → Bool} (hN : N ≤ 400) (hP : PW N E) (q : rE C N E) (hs : s < 4) (he : e < N) (h14 : ∀ y, y < N → C.1 14 (400 * s + y) = b2 (kn y)) : ∀ (k i : Nat), i + k = (e_pa (E e)).length → b_all i (fun i => kn ((e_pa (E e)).getD i 0)) = true → Ev tMd_ready 2 [some (vR M), some (.inl (s : Int)), some (.inl (e : Int)), some (.inl (i : Int))] [] (hM h M C) (some (vB (v_par E e kn)), hM h M C) := by
  obtain ⟨p6, p5⟩ := (q.2 e he).2.1
  obtain ⟨w4, wl⟩ := hP e he
  intro k
  induction k with
  | zero =>
    intro i hi hb
    obtain rfl : i = (e_pa (E e)).length := by omega
    rw [show v_par E e kn = true from hb]
    iterate 2 (refine ev_st rfl rfl ?_)
    refine ev_getf rfl hM_0 (by rfl) ?_
    iterate 1 (refine ev_st rfl rfl ?_)
    refine ev_iald e rfl hA6 (by simp only [w32]; omega) (by omega) ?_
    rw [p6]
    refine ev_icT rfl (by simp only [ick, w32]; omega) ?_
    iterate 1 (refine ev_st rfl rfl ?_)
    exact ev_rt rfl rfl rfl
  | succ k ih =>
    intro i hi hb
    have pi := p5 i (by omega)
    have pl := wl _ (getD_mem (show i < (e_pa (E e)).length by omega))
    have pre : ∀ {o : Option AV × AH}, Ev tMd_ready 33 [some (vR M), some (.inl (s : Int)), some (.inl (e : Int)), some (.inl (i : Int))] [vB (kn ((e_pa (E e)).getD i 0))] (hM h M C) o → Ev tMd_ready 2 [some (vR M), some (.inl (s : Int)), some (.inl (e : Int)), some (.inl (i : Int))] [] (hM h M C) o := by
      intro o hgo
      iterate 2 (refine ev_st rfl rfl ?_)
      refine ev_getf rfl hM_0 (by rfl) ?_
      iterate 1 (refine ev_st rfl rfl ?_)
      refine ev_iald e rfl hA6 (by simp only [w32]; omega) (by omega) ?_
      rw [p6]
      refine ev_icF rfl (by simp only [ick, w32]; omega) ?_
      iterate 1 (refine ev_st rfl rfl ?_)
      refine ev_getf rfl hM_0 (by rfl) ?_
      iterate 4 (refine ev_st rfl rfl ?_)
      refine ev_getf rfl hM_0 (by rfl) ?_
      iterate 5 (refine ev_st rfl rfl ?_)
      refine ev_iald (4 * e + i) rfl hA5 (by simp only [w32]; omega) (by omega) ?_
      rw [pi]
      iterate 1 (refine ev_st rfl rfl ?_)
      refine ev_iald (400 * s + (e_pa (E e)).getD i 0) rfl hA14 (by simp only [w32]; omega) (by omega) ?_
      rw [h14 _ (by omega)]
      exact hgo
    cases hk : kn ((e_pa (E e)).getD i 0) with
    | false =>
      rw [hk] at pre
      have : v_par E e kn = false := b_all_F (show i < (e_pa (E e)).length by omega) hk
      rw [this]
      refine pre ?_
      refine ev_zneF rfl rfl ?_
      iterate 1 (refine ev_st rfl rfl ?_)
      exact ev_rt rfl rfl rfl
    | true =>
      rw [hk] at pre
      refine pre ?_
      refine ev_zneT rfl rfl ?_
      iterate 2 (refine ev_st rfl rfl ?_)
      exact ih (i + 1) (by omega) (by simp only [b_all, hb, hk]; rfl)
theorem c_mready {h : AH} {M N s e : Nat} {C : RM} {E : EL} {kn : Nat → Bool} (hN : N ≤ 400) (hP : PW N E) (q : rE C N E) (hs : s < 4) (he : e < N) (h14 : ∀ y, y < N → C.1 14 (400 * s + y) = b2 (kn y)) : Em mMd_ready 1 [vR M, .inl (s : Int), .inl (e : Int)] (hM h M C) (some (vB (v_par E e kn))) (hM h M C) := by
  show Ev tMd_ready 0 [some (vR M), some (.inl (s : Int)), some (.inl (e : Int)), none] [] _ _
  iterate 2 (refine ev_st rfl rfl ?_)
  exact l_mready hN hP q hs he h14 (e_pa (E e)).length 0 (by omega) rfl
theorem c_mwrong {h : AH} {u k a b : Int} (hu : InR u) (hk : InR k) (ha : InR a) (hb : InR b) : Em mMd_wrong 0 [.inl u, .inl k, .inl a, .inl b] h (some (vB (!m_prop u k a b))) h := by
  unfold InR at hu hk ha hb
  show Ev tMd_wrong 0 [some (.inl u), some (.inl k), some (.inl a), some (.inl b)] [] _ _
  by_cases c1 : 0 ≤ u ∧ u < 12
  · by_cases k0 : k = 0 ∨ k = 3 ∨ k = 5
    · have : m_prop u k a b = true := by unfold m_prop; rw [decide_eq_true c1, if_pos k0]; rfl
      rw [this]
      repeat (first | refine ev_st rfl rfl ?_ | refine ev_getf rfl hM_0 (by rfl) ?_ | refine ev_ifT rfl (by simp only [ick, w32]; omega) ?_ | refine ev_ifF rfl (by simp only [ick, w32]; omega) ?_ | refine ev_icT rfl (by simp only [ick, w32]; omega) ?_ | refine ev_icF rfl (by simp only [ick, w32]; omega) ?_)
      exact ev_rt rfl rfl rfl
    · by_cases k1 : k = 1
      · by_cases ca : 0 ≤ a ∧ a < 12
        · have : m_prop u k a b = true := by unfold m_prop; rw [decide_eq_true c1, if_neg k0, if_pos k1, decide_eq_true ca]; rfl
          rw [this]
          repeat (first | refine ev_st rfl rfl ?_ | refine ev_getf rfl hM_0 (by rfl) ?_ | refine ev_ifT rfl (by simp only [ick, w32]; omega) ?_ | refine ev_ifF rfl (by simp only [ick, w32]; omega) ?_ | refine ev_icT rfl (by simp only [ick, w32]; omega) ?_ | refine ev_icF rfl (by simp only [ick, w32]; omega) ?_)
          exact ev_rt rfl rfl rfl
        · have : m_prop u k a b = false := by unfold m_prop; rw [decide_eq_true c1, if_neg k0, if_pos k1, decide_eq_false ca]; rfl
          rw [this]
          by_cases cc : a < 0
          · repeat (first | refine ev_st rfl rfl ?_ | refine ev_getf rfl hM_0 (by rfl) ?_ | refine ev_ifT rfl (by simp only [ick, w32]; omega) ?_ | refine ev_ifF rfl (by simp only [ick, w32]; omega) ?_ | refine ev_icT rfl (by simp only [ick, w32]; omega) ?_ | refine ev_icF rfl (by simp only [ick, w32]; omega) ?_)
            exact ev_rt rfl rfl rfl
          · repeat (first | refine ev_st rfl rfl ?_ | refine ev_getf rfl hM_0 (by rfl) ?_ | refine ev_ifT rfl (by simp only [ick, w32]; omega) ?_ | refine ev_ifF rfl (by simp only [ick, w32]; omega) ?_ | refine ev_icT rfl (by simp only [ick, w32]; omega) ?_ | refine ev_icF rfl (by simp only [ick, w32]; omega) ?_)
            exact ev_rt rfl rfl rfl
      · by_cases k2 : k = 2
        · by_cases ca : 0 ≤ a ∧ a < 12
          · by_cases cb : -100 ≤ b ∧ b ≤ 100
            · have : m_prop u k a b = true := by unfold m_prop; rw [decide_eq_true c1, if_neg k0, if_neg k1, if_pos k2, decide_eq_true ca, decide_eq_true cb]; rfl
              rw [this]
              repeat (first | refine ev_st rfl rfl ?_ | refine ev_getf rfl hM_0 (by rfl) ?_ | refine ev_ifT rfl (by simp only [ick, w32]; omega) ?_ | refine ev_ifF rfl (by simp only [ick, w32]; omega) ?_ | refine ev_icT rfl (by simp only [ick, w32]; omega) ?_ | refine ev_icF rfl (by simp only [ick, w32]; omega) ?_)
              exact ev_rt rfl rfl rfl
            · have : m_prop u k a b = false := by unfold m_prop; rw [decide_eq_true c1, if_neg k0, if_neg k1, if_pos k2, decide_eq_true ca, decide_eq_false cb]; rfl
              rw [this]
              by_cases cc : b < -100
              · repeat (first | refine ev_st rfl rfl ?_ | refine ev_getf rfl hM_0 (by rfl) ?_ | refine ev_ifT rfl (by simp only [ick, w32]; omega) ?_ | refine ev_ifF rfl (by simp only [ick, w32]; omega) ?_ | refine ev_icT rfl (by simp only [ick, w32]; omega) ?_ | refine ev_icF rfl (by simp only [ick, w32]; omega) ?_)
                exact ev_rt rfl rfl rfl
              · repeat (first | refine ev_st rfl rfl ?_ | refine ev_getf rfl hM_0 (by rfl) ?_ | refine ev_ifT rfl (by simp only [ick, w32]; omega) ?_ | refine ev_ifF rfl (by simp only [ick, w32]; omega) ?_ | refine ev_icT rfl (by simp only [ick, w32]; omega) ?_ | refine ev_icF rfl (by simp only [ick, w32]; omega) ?_)
                exact ev_rt rfl rfl rfl
          · have : m_prop u k a b = false := by unfold m_prop; rw [decide_eq_true c1, if_neg k0, if_neg k1, if_pos k2, decide_eq_false ca]; rfl
            rw [this]
            by_cases cc : a < 0
            · repeat (first | refine ev_st rfl rfl ?_ | refine ev_getf rfl hM_0 (by rfl) ?_ | refine ev_ifT rfl (by simp only [ick, w32]; omega) ?_ | refine ev_ifF rfl (by simp only [ick, w32]; omega) ?_ | refine ev_icT rfl (by simp only [ick, w32]; omega) ?_ | refine ev_icF rfl (by simp only [ick, w32]; omega) ?_)
              exact ev_rt rfl rfl rfl
            · repeat (first | refine ev_st rfl rfl ?_ | refine ev_getf rfl hM_0 (by rfl) ?_ | refine ev_ifT rfl (by simp only [ick, w32]; omega) ?_ | refine ev_ifF rfl (by simp only [ick, w32]; omega) ?_ | refine ev_icT rfl (by simp only [ick, w32]; omega) ?_ | refine ev_icF rfl (by simp only [ick, w32]; omega) ?_)
              exact ev_rt rfl rfl rfl
        · by_cases k4 : k = 4
          · by_cases ca : 0 ≤ a ∧ a < 8
            · have : m_prop u k a b = true := by unfold m_prop; rw [decide_eq_true c1, if_neg k0, if_neg k1, if_neg k2, if_pos k4, decide_eq_true ca]; rfl
              rw [this]
              repeat (first | refine ev_st rfl rfl ?_ | refine ev_getf rfl hM_0 (by rfl) ?_ | refine ev_ifT rfl (by simp only [ick, w32]; omega) ?_ | refine ev_ifF rfl (by simp only [ick, w32]; omega) ?_ | refine ev_icT rfl (by simp only [ick, w32]; omega) ?_ | refine ev_icF rfl (by simp only [ick, w32]; omega) ?_)
              exact ev_rt rfl rfl rfl
            · have : m_prop u k a b = false := by unfold m_prop; rw [decide_eq_true c1, if_neg k0, if_neg k1, if_neg k2, if_pos k4, decide_eq_false ca]; rfl
              rw [this]
              by_cases cc : a < 0
              · repeat (first | refine ev_st rfl rfl ?_ | refine ev_getf rfl hM_0 (by rfl) ?_ | refine ev_ifT rfl (by simp only [ick, w32]; omega) ?_ | refine ev_ifF rfl (by simp only [ick, w32]; omega) ?_ | refine ev_icT rfl (by simp only [ick, w32]; omega) ?_ | refine ev_icF rfl (by simp only [ick, w32]; omega) ?_)
                exact ev_rt rfl rfl rfl
              · repeat (first | refine ev_st rfl rfl ?_ | refine ev_getf rfl hM_0 (by rfl) ?_ | refine ev_ifT rfl (by simp only [ick, w32]; omega) ?_ | refine ev_ifF rfl (by simp only [ick, w32]; omega) ?_ | refine ev_icT rfl (by simp only [ick, w32]; omega) ?_ | refine ev_icF rfl (by simp only [ick, w32]; omega) ?_)
                exact ev_rt rfl rfl rfl
          · have : m_prop u k a b = false := by unfold m_prop; rw [decide_eq_true c1, if_neg k0, if_neg k1, if_neg k2, if_neg k4]; rfl
            rw [this]
            by_cases cc : k < 0
            · repeat (first | refine ev_st rfl rfl ?_ | refine ev_getf rfl hM_0 (by rfl) ?_ | refine ev_ifT rfl (by simp only [ick, w32]; omega) ?_ | refine ev_ifF rfl (by simp only [ick, w32]; omega) ?_ | refine ev_icT rfl (by simp only [ick, w32]; omega) ?_ | refine ev_icF rfl (by simp only [ick, w32]; omega) ?_)
              exact ev_rt rfl rfl rfl
            · repeat (first | refine ev_st rfl rfl ?_ | refine ev_getf rfl hM_0 (by rfl) ?_ | refine ev_ifT rfl (by simp only [ick, w32]; omega) ?_ | refine ev_ifF rfl (by simp only [ick, w32]; omega) ?_ | refine ev_icT rfl (by simp only [ick, w32]; omega) ?_ | refine ev_icF rfl (by simp only [ick, w32]; omega) ?_)
              exact ev_rt rfl rfl rfl
  · have : m_prop u k a b = false := by unfold m_prop; rw [decide_eq_false c1]; rfl
    rw [this]
    by_cases cc : u < 0
    · repeat (first | refine ev_st rfl rfl ?_ | refine ev_getf rfl hM_0 (by rfl) ?_ | refine ev_ifT rfl (by simp only [ick, w32]; omega) ?_ | refine ev_ifF rfl (by simp only [ick, w32]; omega) ?_ | refine ev_icT rfl (by simp only [ick, w32]; omega) ?_ | refine ev_icF rfl (by simp only [ick, w32]; omega) ?_)
      exact ev_rt rfl rfl rfl
    · repeat (first | refine ev_st rfl rfl ?_ | refine ev_getf rfl hM_0 (by rfl) ?_ | refine ev_ifT rfl (by simp only [ick, w32]; omega) ?_ | refine ev_ifF rfl (by simp only [ick, w32]; omega) ?_ | refine ev_icT rfl (by simp only [ick, w32]; omega) ?_ | refine ev_icF rfl (by simp only [ick, w32]; omega) ?_)
      exact ev_rt rfl rfl rfl
