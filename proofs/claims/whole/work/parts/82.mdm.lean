-- the reference: sync
set_option maxRecDepth 20000
theorem l_msync {h : AH} {M N : Nat} {E : EL} {f t : Nat} (hE : EOK N E) (hf : f < 4) (ht : t < 4) {K : Nat} (hK4 : K ≤ 448) : ∀ (k e : Nat) (V : Nat → SV) (C : RM) (n : Int), e + k = N → VOK N E V → rE C N E → (∀ s, s < 4 → rK C s (V s).1 (V s).2.1) → (∀ y, y < e → (V f).1 y = true → (V t).1 y = true) → n = (b_cnt 448 (V t).1 : Int) - K → 0 ≤ n → ∃ (C' : RM) (n' : Int), (kL t C C' ∧ VOK N E (d_sy N E f t k e V) ∧ (∀ s, s < 4 → rK C' s (d_sy N E f t k e V s).1 (d_sy N E f t k e V s).2.1) ∧ n' = (b_cnt 448 (d_sy N E f t k e V t).1 : Int) - K ∧ n ≤ n' ∧ (n' = n → (d_sy N E f t k e V t).1 = (V t).1) ∧ ∀ s, s ≠ t → d_sy N E f t k e V s = V s) ∧ ∀ {o : Option AV × AH}, Ev tMd_sync 121 [some (vR M), some (.inl (f : Int)), some (.inl (t : Int)), some (.inl n'), some (.inl (N : Int))] [] (hM h M C') o → Ev tMd_sync 21 [some (vR M), some (.inl (f : Int)), some (.inl (t : Int)), some (.inl n), some (.inl (e : Int))] [] (hM h M C) o := by
  have hN := hE.1
  have hP := hE.2.2.1
  intro k
  induction k with
  | zero =>
    intro e V C n he hV q hK hI hn h0
    obtain rfl : e = N := by omega
    refine ⟨C, n, ⟨kL.rf, hV, hK, hn, Int.le_refl _, fun _ => rfl, fun _ _ => rfl⟩, fun {o} hgo => ?_⟩
    iterate 2 (refine ev_st rfl rfl ?_)
    refine ev_getf rfl hM_0 (by rfl) ?_
    rw [q.1]
    refine ev_icT rfl (by simp only [ick, w32]; omega) ?_
    exact hgo
  | succ k ih =>
    intro e V C n he hV q hK hI hn h0
    have heN : e < N := by omega
    have ef := ((hK f hf).1 e (by omega)).1
    have et := ((hK t ht).1 e (by omega)).1
    have eh := ((hK t ht).1 e (by omega)).2
    have cl448 := b_cnt_le (V t).1 448
    show ∃ (C' : RM) (n' : Int), (kL t C C' ∧ VOK N E (d_sy N E f t k (e + 1) (d_sy1 N E f t e V)) ∧ (∀ s, s < 4 → rK C' s (d_sy N E f t k (e + 1) (d_sy1 N E f t e V) s).1 (d_sy N E f t k (e + 1) (d_sy1 N E f t e V) s).2.1) ∧ n' = (b_cnt 448 (d_sy N E f t k (e + 1) (d_sy1 N E f t e V) t).1 : Int) - K ∧ n ≤ n' ∧ (n' = n → (d_sy N E f t k (e + 1) (d_sy1 N E f t e V) t).1 = (V t).1) ∧ ∀ s, s ≠ t → d_sy N E f t k (e + 1) (d_sy1 N E f t e V) s = V s) ∧ ∀ {o : Option AV × AH}, Ev tMd_sync 121 [some (vR M), some (.inl (f : Int)), some (.inl (t : Int)), some (.inl n'), some (.inl (N : Int))] [] (hM h M C') o → Ev tMd_sync 21 [some (vR M), some (.inl (f : Int)), some (.inl (t : Int)), some (.inl n), some (.inl (e : Int))] [] (hM h M C) o
    have pre : ∀ {o : Option AV × AH}, Ev tMd_sync 43 [some (vR M), some (.inl (f : Int)), some (.inl (t : Int)), some (.inl n), some (.inl (e : Int))] [vB ((V f).1 e)] (hM h M C) o → Ev tMd_sync 21 [some (vR M), some (.inl (f : Int)), some (.inl (t : Int)), some (.inl n), some (.inl (e : Int))] [] (hM h M C) o := by
      intro o hgo
      iterate 2 (refine ev_st rfl rfl ?_)
      refine ev_getf rfl hM_0 (by rfl) ?_
      rw [q.1]
      refine ev_icF rfl (by simp only [ick, w32]; omega) ?_
      iterate 1 (refine ev_st rfl rfl ?_)
      refine ev_getf rfl hM_0 (by rfl) ?_
      iterate 5 (refine ev_st rfl rfl ?_)
      refine ev_iald (400 * f + e) rfl hA14 (by simp only [w32]; omega) (by omega) ?_
      rw [ef]
      exact hgo
    -- nothing to do
    have skip : d_sy1 N E f t e V = V → ((V f).1 e = true → (V t).1 e = true) → ∃ (C' : RM) (n' : Int), (kL t C C' ∧ VOK N E (d_sy N E f t k (e + 1) V) ∧ (∀ s, s < 4 → rK C' s (d_sy N E f t k (e + 1) V s).1 (d_sy N E f t k (e + 1) V s).2.1) ∧ n' = (b_cnt 448 (d_sy N E f t k (e + 1) V t).1 : Int) - K ∧ n ≤ n' ∧ (n' = n → (d_sy N E f t k (e + 1) V t).1 = (V t).1) ∧ ∀ s, s ≠ t → d_sy N E f t k (e + 1) V s = V s) ∧ ∀ {o : Option AV × AH}, Ev tMd_sync 121 [some (vR M), some (.inl (f : Int)), some (.inl (t : Int)), some (.inl n'), some (.inl (N : Int))] [] (hM h M C') o → Ev tMd_sync 115 [some (vR M), some (.inl (f : Int)), some (.inl (t : Int)), some (.inl n), some (.inl (e : Int))] [] (hM h M C) o := by
      intro _ hft
      obtain ⟨C', n', hh, go⟩ := ih (e + 1) V C n (by omega) hV q hK (fun y hy hy' => by
        by_cases w : y = e
        · subst w; exact hft hy'
        · exact hI y (by omega) hy') hn h0
      refine ⟨C', n', hh, fun {o} hgo => ?_⟩
      iterate 2 (refine ev_st rfl rfl ?_)
      exact go hgo
    cases hfe : (V f).1 e with
    | false =>
      rw [hfe] at pre
      have e1 : d_sy1 N E f t e V = V := by unfold d_sy1; rw [hfe]; rfl
      obtain ⟨C', n', hh, go⟩ := skip e1 (fun z => by rw [hfe] at z; cases z)
      rw [e1]
      refine ⟨C', n', hh, fun {o} hgo => pre ?_⟩
      refine ev_zeqT rfl rfl ?_
      exact go hgo
    | true =>
      rw [hfe] at pre
      have e0 : d_sy1 N E f t e V = v_set V t (v_recv E N e (V t)).1 := by unfold d_sy1; rw [hfe]; rfl
      cases hte : (V t).1 e with
      | true =>
        have ev : v_recv E N e (V t) = (V t, -5) := by unfold v_recv; rw [if_pos hte]
        have e1 : d_sy1 N E f t e V = V := by rw [e0, ev, v_set_self]
        obtain ⟨C', n', hh, go⟩ := skip e1 (fun _ => hte)
        rw [e1]
        refine ⟨C', n', hh, fun {o} hgo => pre ?_⟩
        refine ev_zeqF rfl rfl ?_
        iterate 1 (refine ev_st rfl rfl ?_)
        refine ev_getf rfl hM_0 (by rfl) ?_
        iterate 5 (refine ev_st rfl rfl ?_)
        refine ev_iald (400 * t + e) rfl hA14 (by simp only [w32]; omega) (by omega) ?_
        rw [et, hte]
        refine ev_zeqF rfl rfl ?_
        iterate 1 (refine ev_st rfl rfl ?_)
        exact go hgo
      | false =>
        have hpar : v_par E e (V t).1 = true := v_par_iff.2 (fun p hp => hI p ((hP e heN).2 p hp) ((hV f hf).2.2.2.1 e hfe p hp))
        have hhe : (V t).2.1 e = false := by
          cases hz : (V t).2.1 e
          · rfl
          · have := (hV t ht).2.2.1 e hz
            rw [hpar] at this; cases this
        obtain ⟨C1, cl, k1, r1⟩ := c_mlearn (h := h) (M := M) hE ht heN q (hV t ht) hte hhe hpar (hK t ht)
        obtain ⟨rc1, rc2, rc3, rc4⟩ := recv_cnt hN hP heN (hV t ht) hte hhe hpar
        have hV1 : VOK N E (v_set V t (v_recv E N e (V t)).1) := vset_ok hV (recv_ok hP heN (hV t ht))
        have cl2 := b_cnt_le (v_recv E N e (V t)).1.1 448
        have vt : v_set V t (v_recv E N e (V t)).1 t = (v_recv E N e (V t)).1 := by unfold v_set; rw [if_pos rfl]
        have vo : ∀ s, s ≠ t → v_set V t (v_recv E N e (V t)).1 s = V s := fun s hs => by unfold v_set; rw [if_neg hs]
        obtain ⟨C', n', ⟨b1, b2_, b3, b4, b5, b6, b7⟩, go⟩ := ih (e + 1) (v_set V t (v_recv E N e (V t)).1) C1 (n + (v_recv E N e (V t)).2) (by omega) hV1 (q.kL hP k1) (fun s hs => by
          by_cases w : s = t
          · rw [w, vt]; exact r1
          · rw [vo s w]
            refine ⟨fun y hy => ?_, ?_⟩
            · obtain ⟨x1, x2⟩ := k1.2.2.1 (400 * s + y) (by omega)
              rw [x1, x2]; exact (hK s hs).1 y hy
            · rw [k1.2.2.2 s w]; exact (hK s hs).2) (fun y hy hy' => by
          rw [vt]
          by_cases w : f = t
          · rw [w, vt] at hy'; exact hy'
          · rw [vo f w] at hy'
            by_cases w2 : y = e
            · rw [w2]; exact rc4
            · exact rc3 y (hI y (by omega) hy')) (by rw [vt, rc1]; omega) (by omega)
        rw [e0]
        refine ⟨C', n', ⟨k1.tr b1, b2_, b3, b4, by omega, fun z => by omega, fun s hs => (b7 s hs).trans (vo s hs)⟩, fun {o} hgo => pre ?_⟩
        refine ev_zeqF rfl rfl ?_
        iterate 1 (refine ev_st rfl rfl ?_)
        refine ev_getf rfl hM_0 (by rfl) ?_
        iterate 5 (refine ev_st rfl rfl ?_)
        refine ev_iald (400 * t + e) rfl hA14 (by simp only [w32]; omega) (by omega) ?_
        rw [et, hte]
        refine ev_zeqT rfl rfl ?_
        iterate 1 (refine ev_st rfl rfl ?_)
        refine ev_getf rfl hM_0 (by rfl) ?_
        iterate 5 (refine ev_st rfl rfl ?_)
        refine ev_iald (400 * t + e) rfl hA15 (by simp only [w32]; omega) (by omega) ?_
        rw [eh, hhe]
        refine ev_zeqT rfl rfl ?_
        iterate 4 (refine ev_st rfl rfl ?_)
        refine ev_callV rfl rfl hM_0 rfl cl ?_
        iterate 4 (refine ev_st rfl rfl ?_)
        exact go hgo
set_option maxHeartbeats 4000000 in
theorem c_msync {h : AH} {M N : Nat} {C : RM} {E : EL} {V : Nat → SV} (hE : EOK N E) (hS : VOK N E V) (q : rE C N E) (rv : rV C N E V) {f t : Int} (hf : InR f) (ht : InR t) : ∃ C', Em mMd_sync 2 [vR M, .inl f, .inl t] (hM h M C) (some (.inl (d_sync N E V f t).2)) (hM h M C') ∧ rE C' N E ∧ rV C' N E (d_sync N E V f t).1 := by
  have hN := hE.1
  have hP := hE.2.2.1
  have c1 := c_misrv (h := hM h M C) hf
  have c2 := c_misrv (h := hM h M C) ht
  unfold d_sync
  cases hd : d_srv f with
  | false =>
    rw [hd] at c1
    refine ⟨C, ?_, q, rv⟩
    show Ev tMd_sync 0 [some (vR M), some (.inl f), some (.inl t), none, none] [] _ _
    iterate 1 (refine ev_st rfl rfl ?_)
    refine ev_cl rfl rfl c1 ?_
    refine ev_zeqT rfl rfl ?_
    iterate 1 (refine ev_st rfl rfl ?_)
    exact ev_rt rfl rfl rfl
  | true =>
    rw [hd] at c1
    cases hd2 : d_srv t with
    | false =>
      rw [hd2] at c2
      refine ⟨C, ?_, q, rv⟩
      show Ev tMd_sync 0 [some (vR M), some (.inl f), some (.inl t), none, none] [] _ _
      iterate 1 (refine ev_st rfl rfl ?_)
      refine ev_cl rfl rfl c1 ?_
      refine ev_zeqF rfl rfl ?_
      iterate 1 (refine ev_st rfl rfl ?_)
      refine ev_cl rfl rfl c2 ?_
      refine ev_zneF rfl rfl ?_
      iterate 1 (refine ev_st rfl rfl ?_)
      exact ev_rt rfl rfl rfl
    | true =>
      rw [hd2] at c2
      rw [if_pos (show (true && true) = true from rfl)]
      have hf4 := d_srv_lt hd
      have ht4 := d_srv_lt hd2
      have hf0 : 0 ≤ f ∧ f < 4 := of_decide_eq_true hd
      have ht0 : 0 ≤ t ∧ t < 4 := of_decide_eq_true hd2
      obtain ⟨fn, rfl⟩ : ∃ n : Nat, f = n := ⟨f.toNat, by omega⟩
      obtain ⟨tn, rfl⟩ : ∃ n : Nat, t = n := ⟨t.toNat, by omega⟩
      rw [Int.toNat_natCast] at *
      obtain ⟨C1, n', ⟨b1, b2_, b3, b4, b5, b6, b7⟩, go⟩ := l_msync (h := h) (M := M) hE hf4 ht4 (K := b_cnt 448 (V tn).1) (b_cnt_le _ _) N 0 V C 0 (by omega) hS q (fun s hs => rv.k hs) (fun y hy => by omega) (by omega) (by omega)
      have q1 := q.kL hP b1
      have cl448 := b_cnt_le (d_sy N E fn tn N 0 V tn).1 448
      have vset : ∀ {W : SV}, W = d_sy N E fn tn N 0 V tn → v_set V tn W = d_sy N E fn tn N 0 V := by
        intro W hW
        funext s
        unfold v_set
        by_cases w : s = tn
        · rw [if_pos w, hW, w]
        · rw [if_neg w, b7 s w]
      have start : ∀ {o : Option AV × AH}, Ev tMd_sync 121 [some (vR M), some (.inl (fn : Int)), some (.inl (tn : Int)), some (.inl n'), some (.inl (N : Int))] [] (hM h M C1) o → Ev tMd_sync 0 [some (vR M), some (.inl (fn : Int)), some (.inl (tn : Int)), none, none] [] (hM h M C) o := by
        intro o hgo
        iterate 1 (refine ev_st rfl rfl ?_)
        refine ev_cl rfl rfl c1 ?_
        refine ev_zeqF rfl rfl ?_
        iterate 1 (refine ev_st rfl rfl ?_)
        refine ev_cl rfl rfl c2 ?_
        refine ev_zneT rfl rfl ?_
        iterate 4 (refine ev_st rfl rfl ?_)
        exact go hgo
      rw [Int.toNat_natCast, ← b4]
      by_cases n0 : n' = 0
      · have hkn := b6 n0
        refine ⟨C1, ?_, q1, ?_⟩
        · show Ev tMd_sync 0 [some (vR M), some (.inl (fn : Int)), some (.inl (tn : Int)), none, none] [] _ _
          refine start ?_
          iterate 1 (refine ev_st rfl rfl ?_)
          refine ev_ifT rfl (by simp only [ick, w32]; omega) ?_
          iterate 1 (refine ev_st rfl rfl ?_)
          exact ev_rt rfl rfl rfl
        · show rV C1 N E (d_sy N E fn tn N 0 V)
          rw [← vset rfl]
          exact rV_set rv (b3 tn ht4) (fun p hp => by rw [b1.1 17 (by omega) (by omega) (by omega), hkn]; exact (rv tn ht4).2.2 p hp) b1.2.2.1 b1.2.2.2 (fun j _ => by rw [b1.1 17 (by omega) (by omega) (by omega)])
      · obtain ⟨C2, cn, a1, a2, a3, a4⟩ := c_mrenew (h := h) (M := M) (s := tn) (kn := (d_sy N E fn tn N 0 V tn).1) hE q1 ht4 (fun y hy => ((b3 tn ht4).1 y (by omega)).1)
        refine ⟨C2, ?_, q1.k2 hP (fun i hi j _ => by rw [a1 i (by omega)]) a2, ?_⟩
        · show Ev tMd_sync 0 [some (vR M), some (.inl (fn : Int)), some (.inl (tn : Int)), none, none] [] _ _
          refine start ?_
          iterate 1 (refine ev_st rfl rfl ?_)
          refine ev_ifF rfl (by simp only [ick, w32]; omega) ?_
          iterate 2 (refine ev_st rfl rfl ?_)
          refine ev_callV rfl rfl hM_0 rfl cn ?_
          iterate 1 (refine ev_st rfl rfl ?_)
          exact ev_rt rfl rfl rfl
        · show rV C2 N E (d_sy N E fn tn N 0 V)
          rw [← vset rfl]
          refine rV_set rv ⟨fun y hy => ?_, ?_⟩ a3 (fun j hj => ?_) (fun j hj => ?_) (fun j hj => ?_)
          · rw [a1 14 (by omega), a1 15 (by omega)]; exact (b3 tn ht4).1 y hy
          · rw [a1 16 (by omega)]; exact (b3 tn ht4).2
          · rw [a1 14 (by omega), a1 15 (by omega)]; exact b1.2.2.1 j hj
          · rw [a1 16 (by omega)]; exact b1.2.2.2 j hj
          · rw [a4 j hj, b1.1 17 (by omega) (by omega) (by omega)]
