-- the reference: learn
set_option maxRecDepth 20000
theorem recv_soi {N : Nat} {E : EL} (hP : PW N E) {n : Nat} (hn : n < N) {V : SV} (q : SOK N E V) (h1 : V.1 n = false) (h2 : V.2.1 n = false) (h3 : v_par E n V.1 = true) : SOI N E (n + 1) (v_learn E n V) := by
  obtain ⟨kn, hl, hd⟩ := V
  exact learn_soi hP hn (Nat.le_refl _) (q.soi (n + 1)) h1 h3 (fun y => ⟨fun z => ⟨fun w => (by
    subst w
    simp only at h2
    rw [h2] at z
    cases z), z⟩, fun z => z.2⟩) (Or.inl rfl)
def rK (C : RM) (s : Nat) (kn hl : Nat → Bool) : Prop := (∀ y, y < 400 → C.1 14 (400 * s + y) = b2 (kn y) ∧ C.1 15 (400 * s + y) = b2 (hl y)) ∧ C.1 16 s = (b_cnt 448 hl : Nat)
def kL (s : Nat) (C C' : RM) : Prop := (∀ i, i ≠ 14 → i ≠ 15 → i ≠ 16 → C'.1 i = C.1 i) ∧ C'.2 = C.2 ∧ (∀ j, ¬ (400 * s ≤ j ∧ j < 400 * s + 400) → C'.1 14 j = C.1 14 j ∧ C'.1 15 j = C.1 15 j) ∧ ∀ j, j ≠ s → C'.1 16 j = C.1 16 j
theorem kL.rf {s : Nat} {C : RM} : kL s C C := ⟨fun _ _ _ _ => rfl, rfl, fun _ _ => ⟨rfl, rfl⟩, fun _ _ => rfl⟩
theorem kL.tr {s : Nat} {C C1 C2 : RM} (p : kL s C C1) (q : kL s C1 C2) : kL s C C2 := ⟨fun i a b c => (q.1 i a b c).trans (p.1 i a b c), q.2.1.trans p.2.1, fun j hj => ⟨((q.2.2.1 j hj).1).trans (p.2.2.1 j hj).1, ((q.2.2.1 j hj).2).trans (p.2.2.1 j hj).2⟩, fun j hj => (q.2.2.2 j hj).trans (p.2.2.2 j hj)⟩
theorem rE.kL {C C' : RM} {N s : Nat} {E : EL} (q : rE C N E) (hP : PW N E) (k : kL s C C') : rE C' N E := q.k2 hP (fun i hi j _ => by rw [k.1 i (by omega) (by omega) (by omega)]) (by rw [k.2.1])
-- the search for one that is ready
theorem l_scF {h : AH} {M N s : Nat} {C : RM} {E : EL} {kn hl : Nat → Bool} {e : Nat} {n : Int} (hN : N ≤ 400) (hP : PW N E) (q : rE C N E) (hs : s < 4) (hK : rK C s kn hl) {o : Option AV × AH} : ∀ (k x : Nat), x + k = N → (∀ y, x ≤ y → y < N → (hl y && v_par E y kn) = false) → Ev tMd_learn 122 [some (vR M), some (.inl (s : Int)), some (.inl (e : Int)), some (.inl n), some (.inl 0), some (.inl (N : Int))] [] (hM h M C) o → Ev tMd_learn 29 [some (vR M), some (.inl (s : Int)), some (.inl (e : Int)), some (.inl n), some (.inl 0), some (.inl (x : Int))] [] (hM h M C) o := by
  intro k
  induction k with
  | zero =>
    intro x hx hr hgo
    obtain rfl : x = N := by omega
    iterate 2 (refine ev_st rfl rfl ?_)
    refine ev_getf rfl hM_0 (by rfl) ?_
    rw [q.1]
    refine ev_icT rfl (by simp only [ick, w32]; omega) ?_
    exact hgo
  | succ k ih =>
    intro x hx hr hgo
    have nx := ih (x + 1) (by omega) (fun y a b => hr y (by omega) b) hgo
    have hx0 := hr x (Nat.le_refl _) (by omega)
    iterate 2 (refine ev_st rfl rfl ?_)
    refine ev_getf rfl hM_0 (by rfl) ?_
    rw [q.1]
    refine ev_icF rfl (by simp only [ick, w32]; omega) ?_
    iterate 1 (refine ev_st rfl rfl ?_)
    refine ev_ifF rfl (by simp only [ick, w32]; omega) ?_
    iterate 1 (refine ev_st rfl rfl ?_)
    refine ev_getf rfl hM_0 (by rfl) ?_
    iterate 5 (refine ev_st rfl rfl ?_)
    refine ev_iald (400 * s + x) rfl hA15 (by simp only [w32]; omega) (by omega) ?_
    rw [(hK.1 x (by omega)).2]
    cases hh : hl x with
    | false =>
      refine ev_zeqT rfl rfl ?_
      iterate 2 (refine ev_st rfl rfl ?_)
      exact nx
    | true =>
      rw [hh, Bool.true_and] at hx0
      have cr := c_mready (h := h) (M := M) hN hP q hs (show x < N by omega) (fun y hy => (hK.1 y (by omega)).1)
      rw [hx0] at cr
      refine ev_zeqF rfl rfl ?_
      iterate 3 (refine ev_st rfl rfl ?_)
      refine ev_callV rfl rfl hM_0 rfl cr ?_
      refine ev_zneF rfl rfl ?_
      iterate 3 (refine ev_st rfl rfl ?_)
      exact nx
theorem l_scT {h : AH} {M N s z : Nat} {C : RM} {E : EL} {kn hl : Nat → Bool} {e : Nat} {n : Int} (hN : N ≤ 400) (hP : PW N E) (q : rE C N E) (hs : s < 4) (hK : rK C s kn hl) (hz : z < N) (hz1 : hl z = true) (hz2 : v_par E z kn = true) {o : Option AV × AH} : ∀ (k x : Nat), x + k = z → (∀ y, x ≤ y → y < z → (hl y && v_par E y kn) = false) → Ev tMd_learn 72 [some (vR M), some (.inl (s : Int)), some (.inl (e : Int)), some (.inl n), some (.inl 0), some (.inl (z : Int))] [] (hM h M C) o → Ev tMd_learn 29 [some (vR M), some (.inl (s : Int)), some (.inl (e : Int)), some (.inl n), some (.inl 0), some (.inl (x : Int))] [] (hM h M C) o := by
  intro k
  induction k with
  | zero =>
    intro x hx hr hgo
    obtain rfl : x = z := by omega
    have cr := c_mready (h := h) (M := M) hN hP q hs hz (fun y hy => (hK.1 y (by omega)).1)
    rw [hz2] at cr
    iterate 2 (refine ev_st rfl rfl ?_)
    refine ev_getf rfl hM_0 (by rfl) ?_
    rw [q.1]
    refine ev_icF rfl (by simp only [ick, w32]; omega) ?_
    iterate 1 (refine ev_st rfl rfl ?_)
    refine ev_ifF rfl (by simp only [ick, w32]; omega) ?_
    iterate 1 (refine ev_st rfl rfl ?_)
    refine ev_getf rfl hM_0 (by rfl) ?_
    iterate 5 (refine ev_st rfl rfl ?_)
    refine ev_iald (400 * s + x) rfl hA15 (by simp only [w32]; omega) (by omega) ?_
    rw [(hK.1 x (by omega)).2, hz1]
    refine ev_zeqF rfl rfl ?_
    iterate 3 (refine ev_st rfl rfl ?_)
    refine ev_callV rfl rfl hM_0 rfl cr ?_
    refine ev_zneT rfl rfl ?_
    exact hgo
  | succ k ih =>
    intro x hx hr hgo
    have nx := ih (x + 1) (by omega) (fun y a b => hr y (by omega) b) hgo
    have hx0 := hr x (Nat.le_refl _) (by omega)
    iterate 2 (refine ev_st rfl rfl ?_)
    refine ev_getf rfl hM_0 (by rfl) ?_
    rw [q.1]
    refine ev_icF rfl (by simp only [ick, w32]; omega) ?_
    iterate 1 (refine ev_st rfl rfl ?_)
    refine ev_ifF rfl (by simp only [ick, w32]; omega) ?_
    iterate 1 (refine ev_st rfl rfl ?_)
    refine ev_getf rfl hM_0 (by rfl) ?_
    iterate 5 (refine ev_st rfl rfl ?_)
    refine ev_iald (400 * s + x) rfl hA15 (by simp only [w32]; omega) (by omega) ?_
    rw [(hK.1 x (by omega)).2]
    cases hh : hl x with
    | false =>
      refine ev_zeqT rfl rfl ?_
      iterate 2 (refine ev_st rfl rfl ?_)
      exact nx
    | true =>
      rw [hh, Bool.true_and] at hx0
      have cr := c_mready (h := h) (M := M) hN hP q hs (show x < N by omega) (fun y hy => (hK.1 y (by omega)).1)
      rw [hx0] at cr
      refine ev_zeqF rfl rfl ?_
      iterate 3 (refine ev_st rfl rfl ?_)
      refine ev_callV rfl rfl hM_0 rfl cr ?_
      refine ev_zneF rfl rfl ?_
      iterate 3 (refine ev_st rfl rfl ?_)
      exact nx
theorem l_mlearn {h : AH} {M N s e : Nat} {E : EL} (hE : EOK N E) (hs : s < 4) : ∀ (k i : Nat) (T : SV × Nat) (C : RM) (j5 : Option AV), i + k = N → T.2 ≤ 400 + i → rE C N E → SOI N E i T.1 → rK C s T.1.1 T.1.2.1 → ∃ C', (kL s C C' ∧ rK C' s (v_rel E k i T).1.1 (v_rel E k i T).1.2.1) ∧ Ev tMd_learn 18 [some (vR M), some (.inl (s : Int)), some (.inl (e : Int)), some (.inl (1 + (T.2 : Int))), some (.inl 1), j5] [] (hM h M C) (some (.inl (1 + ((v_rel E k i T).2 : Int))), hM h M C') := by
  have hN := hE.1
  have hP := hE.2.2.1
  intro k
  induction k with
  | zero =>
    intro i T C j5 hi hT q so hK
    obtain rfl : i = N := by omega
    refine ⟨C, ⟨kL.rf, hK⟩, ?_⟩
    iterate 1 (refine ev_st rfl rfl ?_)
    refine ev_ifF rfl (by simp only [ick, w32]; omega) ?_
    iterate 4 (refine ev_st rfl rfl ?_)
    refine l_scF hN hP q hs hK i 0 (by omega) (fun y _ hy => ?_) ?_
    · cases hh : T.1.2.1 y
      · rfl
      · rw [so.2.2.1 y hy hh]; rfl
    · iterate 2 (refine ev_st rfl rfl ?_)
      refine ev_ifT rfl (by simp only [ick, w32]; omega) ?_
      iterate 1 (refine ev_st rfl rfl ?_)
      exact ev_rt rfl rfl rfl
  | succ k ih =>
    intro i T C j5 hi hT q so hK
    have so1 := rel1_ok hP (show i < N by omega) (T := T) so
    show ∃ C', (kL s C C' ∧ rK C' s (v_rel E k (i + 1) (v_rel1 E i T)).1.1 (v_rel E k (i + 1) (v_rel1 E i T)).1.2.1) ∧ Ev tMd_learn 18 [some (vR M), some (.inl (s : Int)), some (.inl (e : Int)), some (.inl (1 + (T.2 : Int))), some (.inl 1), j5] [] (hM h M C) (some (.inl (1 + ((v_rel E k (i + 1) (v_rel1 E i T)).2 : Int))), hM h M C')
    cases hb : (T.1.2.1 i && v_par E i T.1.1) with
    | false =>
      have e1 : v_rel1 E i T = T := by unfold v_rel1; rw [hb]; rfl
      rw [e1] at so1 ⊢
      exact ih (i + 1) T C j5 (by omega) (by omega) q so1 hK
    | true =>
      have e1 : v_rel1 E i T = (v_learn E i (T.1.1, f_off T.1.2.1 i, T.1.2.2), T.2 + 1) := by unfold v_rel1; rw [hb]; rfl
      rw [e1] at so1 ⊢
      rw [Bool.and_eq_true] at hb
      have hlt := so.2.1 i hb.1
      have hcnt := cnt_off (N := 448) hb.1 (by omega)
      have hcl := b_cnt_le T.1.2.1 448
      let C1 : RM := rU (rU (rU C 15 (va_up (C.1 15) (400 * s + i) 0)) 16 (va_up (C.1 16) s (C.1 16 s - 1))) 14 (va_up (C.1 14) (400 * s + i) 1)
      have k1 : kL s C C1 := by
        refine ⟨fun j h1 h2 h3 => (rU_ne h1).trans ((rU_ne h3).trans (rU_ne h2)), rfl, fun j hj => ⟨?_, ?_⟩, fun j hj => ?_⟩
        · show va_up (C.1 14) (400 * s + i) 1 j = _
          exact va_up_ne _ _ (by omega)
        · show va_up (C.1 15) (400 * s + i) 0 j = _
          exact va_up_ne _ _ (by omega)
        · show va_up (C.1 16) s (C.1 16 s - 1) j = _
          exact va_up_ne _ _ hj
      have hK1 : rK C1 s (f_on T.1.1 i) (f_off T.1.2.1 i) := by
        refine ⟨fun y hy => ⟨?_, ?_⟩, ?_⟩
        · show va_up (C.1 14) (400 * s + i) 1 (400 * s + y) = _
          simp only [va_up]
          unfold f_on
          by_cases w : y = i
          · rw [if_pos (by omega), w, show Nat.beq i i = true from Nat.beq_refl i]; rfl
          · rw [if_neg (by omega), (hK.1 y hy).1, beq_ne w]; rfl
        · show va_up (C.1 15) (400 * s + i) 0 (400 * s + y) = _
          simp only [va_up]
          unfold f_off
          by_cases w : y = i
          · rw [if_pos (by omega), w, show Nat.beq i i = true from Nat.beq_refl i]; rfl
          · rw [if_neg (by omega), (hK.1 y hy).2, beq_ne w]; rfl
        · show va_up (C.1 16) s (C.1 16 s - 1) s = _
          rw [va_up_self, hK.2]
          omega
      obtain ⟨C', ⟨k2, r2⟩, go⟩ := ih (i + 1) (v_learn E i (T.1.1, f_off T.1.2.1 i, T.1.2.2), T.2 + 1) C1 (some (.inl ((i : Int) + 1))) (by omega) (by show T.2 + 1 ≤ _; omega) (q.kL hP k1) so1 hK1
      refine ⟨C', ⟨k1.tr k2, r2⟩, ?_⟩
      have go' : Ev tMd_learn 122 [some (vR M), some (.inl (s : Int)), some (.inl (e : Int)), some (.inl (1 + (T.2 : Int) + 1)), some (.inl 1), some (.inl ((i : Int) + 1))] [] (hM h M C1) (some (.inl (1 + ((v_rel E k (i + 1) (v_learn E i (T.1.1, f_off T.1.2.1 i, T.1.2.2), T.2 + 1)).2 : Int))), hM h M C') := by
        have e2 : (1 + ((T.2 + 1 : Nat) : Int)) = 1 + (T.2 : Int) + 1 := by omega
        rw [← e2]
        iterate 1 (refine ev_st rfl rfl ?_)
        exact go
      iterate 1 (refine ev_st rfl rfl ?_)
      refine ev_ifF rfl (by simp only [ick, w32]; omega) ?_
      iterate 4 (refine ev_st rfl rfl ?_)
      refine l_scT hN hP q hs hK (show i < N by omega) hb.1 hb.2 i 0 (by omega) (fun y _ hy => ?_) ?_
      · cases hh : T.1.2.1 y
        · rfl
        · rw [so.2.2.1 y hy hh]; rfl
      · iterate 1 (refine ev_st rfl rfl ?_)
        refine ev_getf rfl hM_0 (by rfl) ?_
        iterate 6 (refine ev_st rfl rfl ?_)
        refine ev_bast (400 * s + i) rfl hA15 (by simp only [w32]; omega) (by omega) (Or.inl rfl) ?_
        rw [hP15]
        iterate 1 (refine ev_st rfl rfl ?_)
        refine ev_getf rfl hM_0 (by rfl) ?_
        iterate 2 (refine ev_st rfl rfl ?_)
        refine ev_iald s rfl hA16 (by simp only [w32]; omega) (by omega) ?_
        iterate 2 (refine ev_st rfl rfl ?_)
        refine ev_iast s rfl hA16 (by simp only [w32]; omega) (by omega) ?_
        rw [hP16]
        iterate 1 (refine ev_st rfl rfl ?_)
        refine ev_getf rfl hM_0 (by rfl) ?_
        iterate 6 (refine ev_st rfl rfl ?_)
        refine ev_bast (400 * s + i) rfl hA14 (by simp only [w32]; omega) (by omega) (Or.inr rfl) ?_
        rw [hP14]
        iterate 7 (refine ev_st rfl rfl ?_)
        refine ev_getf rfl hM_0 (by rfl) ?_
        rw [show (rU (rU (rU C 15 (va_up (C.1 15) (400 * s + i) 0)) 16 (va_up ((rU C 15 (va_up (C.1 15) (400 * s + i) 0)).1 16) s ((rU C 15 (va_up (C.1 15) (400 * s + i) 0)).1 16 s - 1))) 14 (va_up ((rU (rU C 15 (va_up (C.1 15) (400 * s + i) 0)) 16 (va_up ((rU C 15 (va_up (C.1 15) (400 * s + i) 0)).1 16) s ((rU C 15 (va_up (C.1 15) (400 * s + i) 0)).1 16 s - 1))).1 14) (400 * s + i) 1)).2.1 = (N : Int) from q.1]
        by_cases hend : i + 1 < N
        · refine ev_icF rfl (by simp only [ick, w32]; omega) ?_
          iterate 1 (refine ev_st rfl rfl ?_)
          refine ev_ifT rfl (by simp only [ick, w32]; omega) ?_
          exact go'
        · refine ev_icT rfl (by simp only [ick, w32]; omega) ?_
          exact go'
theorem c_mlearn {h : AH} {M N s n : Nat} {C : RM} {E : EL} {V : SV} (hE : EOK N E) (hs : s < 4) (hn : n < N) (q : rE C N E) (qV : SOK N E V) (h1 : V.1 n = false) (h2 : V.2.1 n = false) (h3 : v_par E n V.1 = true) (hK : rK C s V.1 V.2.1) : ∃ C', Em mMd_learn 3 [vR M, .inl (s : Int), .inl (n : Int)] (hM h M C) (some (.inl (v_recv E N n V).2)) (hM h M C') ∧ kL s C C' ∧ rK C' s (v_recv E N n V).1.1 (v_recv E N n V).1.2.1 := by
  have hN := hE.1
  have hP := hE.2.2.1
  have so := recv_soi hP hn qV h1 h2 h3
  have ev : v_recv E N n V = ((v_rel E (N - (n + 1)) (n + 1) (v_learn E n V, 0)).1, 1 + ((v_rel E (N - (n + 1)) (n + 1) (v_learn E n V, 0)).2 : Int)) := by
    unfold v_recv
    rw [if_neg (by rw [h1]; simp), if_neg (by rw [h2]; simp), if_pos h3]
  rw [ev]
  have k1 : kL s C (rU C 14 (va_up (C.1 14) (400 * s + n) 1)) := ⟨fun j a _ _ => rU_ne a, rfl, fun j hj => ⟨va_up_ne _ _ (by omega), rfl⟩, fun _ _ => rfl⟩
  obtain ⟨C', ⟨k2, r2⟩, go⟩ := l_mlearn (h := h) (M := M) (e := n) hE hs (N - (n + 1)) (n + 1) (v_learn E n V, 0) (rU C 14 (va_up (C.1 14) (400 * s + n) 1)) none (by omega) (by omega) (q.kL hP k1) so (by
    refine ⟨fun y hy => ⟨?_, (hK.1 y hy).2⟩, hK.2⟩
    show va_up (C.1 14) (400 * s + n) 1 (400 * s + y) = b2 (f_on V.1 n y)
    simp only [va_up]
    unfold f_on
    by_cases w : y = n
    · rw [if_pos (by omega), w, show Nat.beq n n = true from Nat.beq_refl n]; rfl
    · rw [if_neg (by omega), (hK.1 y hy).1, beq_ne w]; rfl)
  refine ⟨C', ?_, k1.tr k2, r2⟩
  show Ev tMd_learn 0 [some (vR M), some (.inl (s : Int)), some (.inl (n : Int)), none, none, none] [] _ _
  iterate 1 (refine ev_st rfl rfl ?_)
  refine ev_getf rfl hM_0 (by rfl) ?_
  iterate 6 (refine ev_st rfl rfl ?_)
  refine ev_bast (400 * s + n) rfl hA14 (by simp only [w32]; omega) (by omega) (Or.inr rfl) ?_
  rw [hP14]
  iterate 4 (refine ev_st rfl rfl ?_)
  exact go
