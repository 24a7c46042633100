-- the reference: deliver, sync
set_option maxRecDepth 20000
def HOK (V : Nat → SV) : Prop := ∀ s, s < 4 → b_cnt 448 (V s).2.1 ≤ 32
theorem cnt_mono {f g : Nat → Bool} (h : ∀ y, f y = true → g y = true) : ∀ n, b_cnt n f ≤ b_cnt n g := by
  intro n
  induction n with
  | zero => exact Nat.le_refl _
  | succ n ih =>
    simp only [b_cnt]
    cases hf : f n
    · simp; omega
    · rw [h n hf]; simp; omega
theorem cnt_on {f : Nat → Bool} {e n : Nat} (hf : f e = false) (he : e < n) : b_cnt n (f_on f e) = b_cnt n f + 1 := by
  have h1 : f_on f e e = true := f_on_i.2 (Or.inl rfl)
  rw [cnt_off h1 he]
  congr 2
  funext y
  unfold f_off f_on
  by_cases w : y = e
  · rw [w, show Nat.beq e e = true from Nat.beq_refl e, hf]; rfl
  · rw [beq_ne w]; rfl
theorem rel_sub {E : EL} : ∀ (k i : Nat) (T : SV × Nat), (∀ y, (v_rel E k i T).1.2.1 y = true → T.1.2.1 y = true) ∧ ∀ y, T.1.1 y = true → (v_rel E k i T).1.1 y = true := by
  intro k
  induction k with
  | zero => intro i T; exact ⟨fun y h => h, fun y h => h⟩
  | succ k ih =>
    intro i T
    obtain ⟨a, b⟩ := ih (i + 1) (v_rel1 E i T)
    have c : (∀ y, (v_rel1 E i T).1.2.1 y = true → T.1.2.1 y = true) ∧ ∀ y, T.1.1 y = true → (v_rel1 E i T).1.1 y = true := by
      unfold v_rel1
      cases (T.1.2.1 i && v_par E i T.1.1)
      · exact ⟨fun y h => h, fun y h => h⟩
      · exact ⟨fun y h => (f_off_iff.1 h).2, fun y h => f_on_i.2 (Or.inr h)⟩
    exact ⟨fun y h => c.1 y (a y h), fun y h => b y (c.2 y h)⟩
theorem recv_h {E : EL} {N n : Nat} {V : SV} (hn : n < 448) (h : b_cnt 448 V.2.1 ≤ 32) : b_cnt 448 (v_recv E N n V).1.2.1 ≤ 32 := by
  unfold v_recv
  split
  · exact h
  · split
    · exact h
    · rename_i h2
      split
      · exact Nat.le_trans (cnt_mono (rel_sub _ _ _).1 448) h
      · split
        · exact h
        · rename_i h4
          show b_cnt 448 (f_on V.2.1 n) ≤ 32
          rw [cnt_on (by simpa using h2) hn]
          omega
theorem rel_cnt {N : Nat} {E : EL} (hN : N ≤ 400) (hP : PW N E) : ∀ (k i : Nat) (T : SV × Nat), i + k = N → SOI N E i T.1 → b_cnt 448 (v_rel E k i T).1.1 + T.2 = b_cnt 448 T.1.1 + (v_rel E k i T).2 := by
  intro k
  induction k with
  | zero => intro i T _ _; rfl
  | succ k ih =>
    intro i T hi so
    have so1 := rel1_ok hP (show i < N by omega) (T := T) so
    have := ih (i + 1) (v_rel1 E i T) (by omega) so1
    show b_cnt 448 (v_rel E k (i + 1) (v_rel1 E i T)).1.1 + T.2 = b_cnt 448 T.1.1 + (v_rel E k (i + 1) (v_rel1 E i T)).2
    cases hb : (T.1.2.1 i && v_par E i T.1.1) with
    | false =>
      have e1 : v_rel1 E i T = T := by unfold v_rel1; rw [hb]; rfl
      rw [e1] at this ⊢
      exact this
    | true =>
      have e1 : v_rel1 E i T = (v_learn E i (T.1.1, f_off T.1.2.1 i, T.1.2.2), T.2 + 1) := by unfold v_rel1; rw [hb]; rfl
      rw [e1] at this ⊢
      rw [Bool.and_eq_true] at hb
      have hk : T.1.1 i = false := by
        cases hz : T.1.1 i
        · rfl
        · rw [so.2.2.2.2.2 i hz] at hb; cases hb.1
      have hc : b_cnt 448 (v_learn E i (T.1.1, f_off T.1.2.1 i, T.1.2.2), T.2 + 1).1.1 = b_cnt 448 T.1.1 + 1 := cnt_on hk (by omega)
      rw [hc] at this
      change _ + (T.2 + 1) = _ at this
      omega
theorem recv_cnt {N : Nat} {E : EL} (hN : N ≤ 400) (hP : PW N E) {n : Nat} (hn : n < N) {V : SV} (q : SOK N E V) (h1 : V.1 n = false) (h2 : V.2.1 n = false) (h3 : v_par E n V.1 = true) : (b_cnt 448 (v_recv E N n V).1.1 : Int) = (b_cnt 448 V.1 : Int) + (v_recv E N n V).2 ∧ 1 ≤ (v_recv E N n V).2 ∧ (∀ y, V.1 y = true → (v_recv E N n V).1.1 y = true) ∧ (v_recv E N n V).1.1 n = true := by
  have so := recv_soi hP hn q h1 h2 h3
  have ev : v_recv E N n V = ((v_rel E (N - (n + 1)) (n + 1) (v_learn E n V, 0)).1, 1 + ((v_rel E (N - (n + 1)) (n + 1) (v_learn E n V, 0)).2 : Int)) := by
    unfold v_recv
    rw [if_neg (by rw [h1]; simp), if_neg (by rw [h2]; simp), if_pos h3]
  rw [ev]
  have rc := rel_cnt hN hP (N - (n + 1)) (n + 1) (v_learn E n V, 0) (by omega) so
  have hc : b_cnt 448 (v_learn E n V, 0).1.1 = b_cnt 448 V.1 + 1 := cnt_on h1 (by omega)
  obtain ⟨-, rs⟩ := rel_sub (E := E) (N - (n + 1)) (n + 1) (v_learn E n V, 0)
  rw [hc] at rc
  dsimp only at rc ⊢
  exact ⟨by omega, by omega, fun y hy => rs y (f_on_i.2 (Or.inr hy)), rs n (f_on_i.2 (Or.inl rfl))⟩
theorem v_set_self {V : Nat → SV} {s : Nat} : v_set V s (V s) = V := by
  funext t
  unfold v_set
  by_cases h : t = s
  · rw [if_pos h, h]
  · rw [if_neg h]
theorem rV.k {C : RM} {N : Nat} {E : EL} {V : Nat → SV} (q : rV C N E V) {s : Nat} (hs : s < 4) : rK C s (V s).1 (V s).2.1 := ⟨(q s hs).1, (q s hs).2.1⟩
theorem rV_set {C C' : RM} {N s : Nat} {E : EL} {V : Nat → SV} {W : SV} (rv : rV C N E V) (hK : rK C' s W.1 W.2.1) (h17 : ∀ p, p < 23 → C'.1 17 (23 * s + p) = m_state N E W.1 p) (f14 : ∀ j, ¬ (400 * s ≤ j ∧ j < 400 * s + 400) → C'.1 14 j = C.1 14 j ∧ C'.1 15 j = C.1 15 j) (f16 : ∀ j, j ≠ s → C'.1 16 j = C.1 16 j) (f17 : ∀ j, ¬ (23 * s ≤ j ∧ j < 23 * s + 23) → C'.1 17 j = C.1 17 j) : rV C' N E (v_set V s W) := by
  intro t ht
  unfold v_set
  by_cases hts : t = s
  · subst hts
    rw [if_pos rfl]
    exact ⟨hK.1, hK.2, h17⟩
  · rw [if_neg hts]
    obtain ⟨a, b, c⟩ := rv t ht
    refine ⟨fun y hy => ?_, ?_, fun p hp => ?_⟩
    · obtain ⟨x1, x2⟩ := f14 (400 * t + y) (by omega)
      rw [x1, x2]; exact a y hy
    · rw [f16 t hts]; exact b
    · rw [f17 _ (by omega)]; exact c p hp
theorem c_misrv {h : AH} {s : Int} (hs : InR s) : Em mMd_isServer 0 [.inl s] h (some (vB (d_srv s))) h := by
  unfold InR at hs
  show Ev tMd_isServer 0 [some (.inl s)] [] _ _
  unfold d_srv
  by_cases c : 0 ≤ s ∧ s < 4
  · rw [decide_eq_true c]
    repeat (first | refine ev_st rfl rfl ?_ | refine ev_getf rfl hM_0 (by rfl) ?_ | refine ev_ifT rfl (by simp only [ick, w32]; omega) ?_ | refine ev_ifF rfl (by simp only [ick, w32]; omega) ?_ | refine ev_icT rfl (by simp only [ick, w32]; omega) ?_ | refine ev_icF rfl (by simp only [ick, w32]; omega) ?_)
    exact ev_rt rfl rfl rfl
  · rw [decide_eq_false c]
    by_cases c1 : s < 0
    · repeat (first | refine ev_st rfl rfl ?_ | refine ev_getf rfl hM_0 (by rfl) ?_ | refine ev_ifT rfl (by simp only [ick, w32]; omega) ?_ | refine ev_ifF rfl (by simp only [ick, w32]; omega) ?_ | refine ev_icT rfl (by simp only [ick, w32]; omega) ?_ | refine ev_icF rfl (by simp only [ick, w32]; omega) ?_)
      exact ev_rt rfl rfl rfl
    · repeat (first | refine ev_st rfl rfl ?_ | refine ev_getf rfl hM_0 (by rfl) ?_ | refine ev_ifT rfl (by simp only [ick, w32]; omega) ?_ | refine ev_ifF rfl (by simp only [ick, w32]; omega) ?_ | refine ev_icT rfl (by simp only [ick, w32]; omega) ?_ | refine ev_icF rfl (by simp only [ick, w32]; omega) ?_)
      exact ev_rt rfl rfl rfl
theorem c_misev {h : AH} {M N : Nat} {C : RM} {e : Int} (hN : N ≤ 400) (q : C.2.1 = (N : Int)) (he : InR e) : Em mMd_isEvent 0 [vR M, .inl e] (hM h M C) (some (vB (decide (0 ≤ e ∧ e < N)))) (hM h M C) := by
  unfold InR at he
  show Ev tMd_isEvent 0 [some (vR M), some (.inl e)] [] _ _
  by_cases c : 0 ≤ e ∧ e < N
  · rw [decide_eq_true c]
    iterate 1 (refine ev_st rfl rfl ?_)
    refine ev_ifF rfl (by simp only [ick, w32]; omega) ?_
    iterate 2 (refine ev_st rfl rfl ?_)
    refine ev_getf rfl hM_0 (by rfl) ?_
    rw [q]
    refine ev_icF rfl (by simp only [ick, w32]; omega) ?_
    iterate 2 (refine ev_st rfl rfl ?_)
    exact ev_rt rfl rfl rfl
  · rw [decide_eq_false c]
    iterate 1 (refine ev_st rfl rfl ?_)
    by_cases c1 : e < 0
    · refine ev_ifT rfl (by simp only [ick, w32]; omega) ?_
      iterate 1 (refine ev_st rfl rfl ?_)
      exact ev_rt rfl rfl rfl
    · refine ev_ifF rfl (by simp only [ick, w32]; omega) ?_
      iterate 2 (refine ev_st rfl rfl ?_)
      refine ev_getf rfl hM_0 (by rfl) ?_
      rw [q]
      refine ev_icT rfl (by simp only [ick, w32]; omega) ?_
      iterate 1 (refine ev_st rfl rfl ?_)
      exact ev_rt rfl rfl rfl
set_option maxHeartbeats 4000000 in
theorem c_mdeliver {h : AH} {M N : Nat} {C : RM} {E : EL} {V : Nat → SV} (hE : EOK N E) (hS : VOK N E V) (hH : HOK V) (q : rE C N E) (rv : rV C N E V) {s e : Int} (hs : InR s) (he : InR e) : ∃ C', Em mMd_deliver 2 [vR M, .inl s, .inl e] (hM h M C) (some (.inl (d_deliver N E V s e).2)) (hM h M C') ∧ rE C' N E ∧ rV C' N E (d_deliver N E V s e).1 := by
  have hN := hE.1
  have hP := hE.2.2.1
  have c1 := c_misrv (h := hM h M C) hs
  have c2 := c_misev (h := h) (M := M) hN q.1 he
  unfold d_deliver
  cases hd : d_srv s with
  | false =>
    rw [hd] at c1
    refine ⟨C, ?_, q, rv⟩
    show Ev tMd_deliver 0 [some (vR M), some (.inl s), some (.inl e), none, none] [] _ _
    rw [if_neg (by simp)]
    iterate 1 (refine ev_st rfl rfl ?_)
    refine ev_cl rfl rfl c1 ?_
    refine ev_zneF rfl rfl ?_
    iterate 1 (refine ev_st rfl rfl ?_)
    exact ev_rt rfl rfl rfl
  | true =>
    rw [hd] at c1
    rw [if_pos rfl]
    have hs4 := d_srv_lt hd
    have hs0 : 0 ≤ s ∧ s < 4 := of_decide_eq_true hd
    by_cases hz : 0 ≤ e ∧ e < N
    · rw [if_pos hz]
      rw [decide_eq_true hz] at c2
      obtain ⟨sn, rfl⟩ : ∃ n : Nat, s = n := ⟨s.toNat, by omega⟩
      obtain ⟨en, rfl⟩ : ∃ n : Nat, e = n := ⟨e.toNat, by omega⟩
      rw [Int.toNat_natCast, Int.toNat_natCast] at *
      have hen : en < N := by omega
      have hSs := hS sn hs4
      have hK := rv.k hs4
      have cr := c_mready (h := h) (M := M) hN hP q hs4 hen (fun y hy => (hK.1 y (by omega)).1)
      have pre : ∀ {o : Option AV × AH}, Ev tMd_deliver 34 [some (vR M), some (.inl (sn : Int)), some (.inl (en : Int)), some (.inl (400 * (sn : Int) + (en : Int))), none] [vB ((V sn).1 en)] (hM h M C) o → Ev tMd_deliver 0 [some (vR M), some (.inl (sn : Int)), some (.inl (en : Int)), none, none] [] (hM h M C) o := by
        intro o hgo
        iterate 1 (refine ev_st rfl rfl ?_)
        refine ev_cl rfl rfl c1 ?_
        refine ev_zneT rfl rfl ?_
        iterate 2 (refine ev_st rfl rfl ?_)
        refine ev_callV rfl rfl hM_0 rfl c2 ?_
        refine ev_zneT rfl rfl ?_
        iterate 7 (refine ev_st rfl rfl ?_)
        refine ev_getf rfl hM_0 (by rfl) ?_
        iterate 1 (refine ev_st rfl rfl ?_)
        refine ev_iald (400 * sn + en) rfl hA14 (by simp only [w32]; omega) (by omega) ?_
        rw [(hK.1 en (by omega)).1]
        exact hgo
      by_cases h1 : (V sn).1 en = true
      · have ev : v_recv E N en (V sn) = (V sn, -5) := by unfold v_recv; rw [if_pos h1]
        rw [ev]
        refine ⟨C, ?_, q, by rw [v_set_self]; exact rv⟩
        show Ev tMd_deliver 0 [some (vR M), some (.inl (sn : Int)), some (.inl (en : Int)), none, none] [] _ _
        refine pre ?_
        refine ev_zeqF rfl h1 ?_
        iterate 1 (refine ev_st rfl rfl ?_)
        exact ev_rt rfl rfl rfl
      · have h1' : (V sn).1 en = false := by simpa using h1
        have pre2 : ∀ {o : Option AV × AH}, Ev tMd_deliver 46 [some (vR M), some (.inl (sn : Int)), some (.inl (en : Int)), some (.inl (400 * (sn : Int) + (en : Int))), none] [vB ((V sn).2.1 en)] (hM h M C) o → Ev tMd_deliver 0 [some (vR M), some (.inl (sn : Int)), some (.inl (en : Int)), none, none] [] (hM h M C) o := by
          intro o hgo
          refine pre ?_
          refine ev_zeqT rfl h1' ?_
          iterate 1 (refine ev_st rfl rfl ?_)
          refine ev_getf rfl hM_0 (by rfl) ?_
          iterate 1 (refine ev_st rfl rfl ?_)
          refine ev_iald (400 * sn + en) rfl hA15 (by simp only [w32]; omega) (by omega) ?_
          rw [(hK.1 en (by omega)).2]
          exact hgo
        by_cases h2 : (V sn).2.1 en = true
        · have ev : v_recv E N en (V sn) = (V sn, -6) := by unfold v_recv; rw [if_neg h1, if_pos h2]
          rw [ev]
          refine ⟨C, ?_, q, by rw [v_set_self]; exact rv⟩
          show Ev tMd_deliver 0 [some (vR M), some (.inl (sn : Int)), some (.inl (en : Int)), none, none] [] _ _
          refine pre2 ?_
          refine ev_zeqF rfl h2 ?_
          iterate 1 (refine ev_st rfl rfl ?_)
          exact ev_rt rfl rfl rfl
        · have h2' : (V sn).2.1 en = false := by simpa using h2
          have pre3 : ∀ {o : Option AV × AH}, Ev tMd_deliver 58 [some (vR M), some (.inl (sn : Int)), some (.inl (en : Int)), some (.inl (400 * (sn : Int) + (en : Int))), none] [vB (v_par E en (V sn).1)] (hM h M C) o → Ev tMd_deliver 0 [some (vR M), some (.inl (sn : Int)), some (.inl (en : Int)), none, none] [] (hM h M C) o := by
            intro o hgo
            refine pre2 ?_
            refine ev_zeqT rfl h2' ?_
            iterate 3 (refine ev_st rfl rfl ?_)
            refine ev_callV rfl rfl hM_0 rfl cr ?_
            exact hgo
          by_cases h3 : v_par E en (V sn).1 = true
          · obtain ⟨C1, cl, k1, r1⟩ := c_mlearn (h := h) (M := M) hE hs4 hen q hSs h1' h2' h3 hK
            have q1 := q.kL hP k1
            obtain ⟨C2, cn, a1, a2, a3, a4⟩ := c_mrenew (h := h) (M := M) (s := sn) (kn := (v_recv E N en (V sn)).1.1) hE q1 hs4 (fun y hy => (r1.1 y (by omega)).1)
            have q2 : rE C2 N E := q1.k2 hP (fun i hi j _ => by rw [a1 i (by omega)]) a2
            refine ⟨C2, ?_, q2, ?_⟩
            · show Ev tMd_deliver 0 [some (vR M), some (.inl (sn : Int)), some (.inl (en : Int)), none, none] [] _ _
              refine pre3 ?_
              refine ev_zneT rfl h3 ?_
              iterate 3 (refine ev_st rfl rfl ?_)
              refine ev_callV rfl rfl hM_0 rfl cl ?_
              iterate 3 (refine ev_st rfl rfl ?_)
              refine ev_callV rfl rfl hM_0 rfl cn ?_
              iterate 1 (refine ev_st rfl rfl ?_)
              exact ev_rt rfl rfl rfl
            · refine rV_set rv ⟨fun y hy => ?_, ?_⟩ a3 (fun j hj => ?_) (fun j hj => ?_) (fun j hj => ?_)
              · rw [a1 14 (by omega), a1 15 (by omega)]; exact r1.1 y hy
              · rw [a1 16 (by omega)]; exact r1.2
              · rw [a1 14 (by omega), a1 15 (by omega)]; exact k1.2.2.1 j hj
              · rw [a1 16 (by omega)]; exact k1.2.2.2 j hj
              · rw [a4 j hj, k1.1 17 (by omega) (by omega) (by omega)]
          · have h3' : v_par E en (V sn).1 = false := by simpa using h3
            have hh := hH sn hs4
            have pre4 : ∀ {o : Option AV × AH}, Ev tMd_deliver 69 [some (vR M), some (.inl (sn : Int)), some (.inl (en : Int)), some (.inl (400 * (sn : Int) + (en : Int))), none] [.inl 32, .inl (b_cnt 448 (V sn).2.1 : Int)] (hM h M C) o → Ev tMd_deliver 0 [some (vR M), some (.inl (sn : Int)), some (.inl (en : Int)), none, none] [] (hM h M C) o := by
              intro o hgo
              refine pre3 ?_
              refine ev_zneF rfl h3' ?_
              iterate 1 (refine ev_st rfl rfl ?_)
              refine ev_getf rfl hM_0 (by rfl) ?_
              iterate 1 (refine ev_st rfl rfl ?_)
              refine ev_iald sn rfl hA16 (by simp only [w32]; omega) (by omega) ?_
              rw [hK.2]
              iterate 1 (refine ev_st rfl rfl ?_)
              exact hgo
            by_cases h4 : 32 ≤ b_cnt 448 (V sn).2.1
            · have ev : v_recv E N en (V sn) = (V sn, -3) := by unfold v_recv; rw [if_neg h1, if_neg h2, if_neg h3, if_pos h4]
              rw [ev]
              refine ⟨C, ?_, q, by rw [v_set_self]; exact rv⟩
              show Ev tMd_deliver 0 [some (vR M), some (.inl (sn : Int)), some (.inl (en : Int)), none, none] [] _ _
              refine pre4 ?_
              refine ev_icF rfl (by simp only [ick, w32]; omega) ?_
              iterate 1 (refine ev_st rfl rfl ?_)
              exact ev_rt rfl rfl rfl
            · have ev : v_recv E N en (V sn) = (((V sn).1, f_on (V sn).2.1 en, (V sn).2.2), -6) := by unfold v_recv; rw [if_neg h1, if_neg h2, if_neg h3, if_neg h4]
              rw [ev]
              have k1 : kL sn C (rU (rU C 15 (va_up (C.1 15) (400 * sn + en) 1)) 16 (va_up (C.1 16) sn (C.1 16 sn + 1))) := ⟨fun j a b c => (rU_ne c).trans (rU_ne b), rfl, fun j hj => ⟨rfl, va_up_ne _ _ (by omega)⟩, fun j hj => va_up_ne _ _ hj⟩
              refine ⟨rU (rU C 15 (va_up (C.1 15) (400 * sn + en) 1)) 16 (va_up (C.1 16) sn (C.1 16 sn + 1)), ?_, q.kL hP k1, ?_⟩
              · show Ev tMd_deliver 0 [some (vR M), some (.inl (sn : Int)), some (.inl (en : Int)), none, none] [] _ _
                refine pre4 ?_
                refine ev_icT rfl (by simp only [ick, w32]; omega) ?_
                iterate 1 (refine ev_st rfl rfl ?_)
                refine ev_getf rfl hM_0 (by rfl) ?_
                iterate 2 (refine ev_st rfl rfl ?_)
                refine ev_bast (400 * sn + en) rfl hA15 (by simp only [w32]; omega) (by omega) (Or.inr rfl) ?_
                rw [hP15]
                iterate 1 (refine ev_st rfl rfl ?_)
                refine ev_getf rfl hM_0 (by rfl) ?_
                iterate 2 (refine ev_st rfl rfl ?_)
                refine ev_iald sn rfl hA16 (by simp only [w32]; omega) (by omega) ?_
                iterate 2 (refine ev_st rfl rfl ?_)
                refine ev_iast sn rfl hA16 (by simp only [w32]; omega) (by omega) ?_
                rw [hP16]
                iterate 1 (refine ev_st rfl rfl ?_)
                exact ev_rt rfl rfl rfl
              · refine rV_set rv ⟨fun y hy => ⟨(hK.1 y hy).1, ?_⟩, ?_⟩ (fun p hp => (rv sn hs4).2.2 p hp) (fun j hj => k1.2.2.1 j hj) (fun j hj => k1.2.2.2 j hj) (fun j hj => rfl)
                · show va_up (C.1 15) (400 * sn + en) 1 (400 * sn + y) = b2 (f_on (V sn).2.1 en y)
                  simp only [va_up]
                  unfold f_on
                  by_cases w : y = en
                  · rw [if_pos (by omega), w, show Nat.beq en en = true from Nat.beq_refl en]; rfl
                  · rw [if_neg (by omega), (hK.1 y hy).2, beq_ne w]; rfl
                · show va_up (C.1 16) sn (C.1 16 sn + 1) sn = (b_cnt 448 (f_on (V sn).2.1 en) : Nat)
                  rw [va_up_self, hK.2, cnt_on h2' (by omega)]
                  rfl
    · rw [if_neg hz]
      rw [decide_eq_false hz] at c2
      refine ⟨C, ?_, q, rv⟩
      show Ev tMd_deliver 0 [some (vR M), some (.inl s), some (.inl e), none, none] [] _ _
      iterate 1 (refine ev_st rfl rfl ?_)
      refine ev_cl rfl rfl c1 ?_
      refine ev_zneT rfl rfl ?_
      iterate 2 (refine ev_st rfl rfl ?_)
      refine ev_callV rfl rfl hM_0 rfl c2 ?_
      refine ev_zneF rfl rfl ?_
      iterate 1 (refine ev_st rfl rfl ?_)
      exact ev_rt rfl rfl rfl
