-- Server.latestHeads, Log.pair
theorem ah_np {h : AH} {k : Nat} {e e' : AE} : ah_put (ah_new h k e) h.1 e' = ah_new h k e' := by
  unfold ah_put ah_new
  refine Prod.ext rfl (Prod.ext rfl ?_)
  funext a
  simp only [va_up]
  by_cases h1 : a = h.1 <;> simp [h1]
set_option maxHeartbeats 2000000 in
theorem c_latestHeads {h : AH} {R : Nat → Prop} {ad : Nat → Nat} {N S lo m : Nat} {E : EL} {gk gh gd : Nat → BitVec 64} {nw : Option Nat} (hN : N ≤ 400) (hO : hOK h) (hRl : ∀ a, R a → a < h.1) (q : svR h S gk gh gd nw) (hG : lgR h lo m N ad) (hL : LG h R ad N E) (hd : ∀ y, N ≤ y → bS gd y = false) : ∃ f', lsR ad ((v_ds (bS gd) N).take 4) f' ∧ Em mServer_latestHeads 3 [vR S, vR lo] h (some (vR h.1)) (ah_new h ((v_ds (bS gd) N).take 4).length (cEa ((v_ds (bS gd) N).take 4).length f')) := by
  have q0 := q
  obtain ⟨q1, q2, q3, q4, q5, q6, q7⟩ := q
  have o0 := hO _ _ q1
  have o1 := hO _ _ q2
  have o2 := hO _ _ q3
  have o3 := hO _ _ q4
  have o4 := hO _ _ q5
  have o5 := hO _ _ q6
  have o6 := hO _ _ q7
  have rn : ¬ R h.1 := fun z => absurd (hRl _ z) (Nat.lt_irrefl _)
  obtain ⟨g1, mf, g2, g3⟩ := id hG
  have ol := hO _ _ g1
  have om := hO _ _ g2
  have hcnt : b_cnt 448 (bS gd) = (v_ds (bS gd) N).length := by rw [b_cnt_stop (by omega) hd, v_ds_len]
  have hle := b_cnt_le (bS gd) 448
  have hlen : ((v_ds (bS gd) N).take 4).length = min 4 (b_cnt 448 (bS gd)) := by rw [List.length_take, hcnt]
  have hc := c_headCount q0
  have hG1 : ∀ k e, lgR (ah_new h k e) lo m N ad := fun k e => ⟨ah_nne (by omega) g1, mf, ah_nne (by omega) g2, g3⟩
  obtain ⟨f', hf', hE⟩ := l_latest (S := S) (gk := gk) (gh := gh) (gd := gd) (nw := nw) (lo := lo) (m := m) (R := R) (ad := ad) (E := E) hN (la := h.1) (len := ((v_ds (bS gd) N).take 4).length) (by rw [hlen]; omega) (fun i hi => by omega) (by omega) (by omega) rn N (ah_new h ((v_ds (bS gd) N).take 4).length (cEa ((v_ds (bS gd) N).take 4).length fun _ => none)) (fun _ => none) [] (Nat.le_refl _) (Nat.zero_le _) ⟨ah_nne (by omega) q1, ah_nne (by omega) q2, ah_nne (by omega) q3, ah_nne (by omega) q4, ah_nne (by omega) q5, ah_nne (by omega) q6, ah_nne (by omega) q7⟩ (hG1 _ _) (hL.fz (fz.new rn)) ah_neq (fun i hi => absurd hi (Nat.not_lt_zero _))
  rw [ah_np] at hE
  refine ⟨f', ?_, ?_⟩
  · have e : ([] : List Nat) ++ (v_ds (bS gd) N).take (((v_ds (bS gd) N).take 4).length - ([] : List Nat).length) = (v_ds (bS gd) N).take 4 := by
      simp only [List.nil_append, List.length_nil, Nat.sub_zero, List.length_take]
      rcases Nat.le_total 4 (v_ds (bS gd) N).length with z | z
      · rw [Nat.min_eq_left z]
      · rw [Nat.min_eq_right z, List.take_of_length_le (Nat.le_refl _), List.take_of_length_le z]
    rw [e] at hf'
    exact hf'
  · clear hf'
    rw [hlen] at hE ⊢
    generalize b_cnt 448 (bS gd) = C at *
    show Ev tServer_latestHeads 0 [some (vR S), some (vR lo), none, none, none] [] h _
    iterate 1 (refine ev_st rfl rfl ?_)
    refine ev_callV rfl rfl q1 rfl hc ?_
    iterate 2 (refine ev_st rfl rfl ?_)
    refine ev_newa (min 4 C) rfl (by
      rw [show (if w32 4 < w32 (C : Int) then (4 : Int) else (C : Int)) = ((min 4 C : Nat) : Int) from by
        rw [w32_id (x := 4) (by omega) (by omega), w32_id (x := (C : Int)) (by omega) (by omega)]
        by_cases z : (4 : Int) < (C : Int)
        · rw [if_pos z]; omega
        · rw [if_neg z]; omega]
      exact w32_id (by omega) (by omega)) (by omega) ?_
    iterate 4 (refine ev_st rfl rfl ?_)
    refine ev_callV rfl rfl (ah_nne (by omega) g1) rfl (c_lsize (hG1 _ _).1) ?_
    iterate 3 (refine ev_st rfl rfl ?_)
    exact hE
-- the events of two numbers
def l_pair (one two : Int) : List Nat := (if 0 ≤ one then [one.toNat] else []) ++ (if 0 ≤ two ∧ two ≠ one then [two.toNat] else [])
theorem c_findO {h : AH} {lo m N : Nat} {ad : Nat → Nat} (q : lgR h lo m N ad) (hN : N ≤ 400) {n : Int} (hn : n = -1 ∨ (0 ≤ n ∧ n < N)) : Em mLog_find 0 [vR lo, .inl n] h (some (.inr (.inr (if 0 ≤ n then some (ad n.toNat) else none)))) h := by
  obtain ⟨a, mf, b, c⟩ := q
  have := c_lfind a b hN (n := n) (by unfold InR; omega)
  rcases hn with rfl | hn
  · rw [if_neg (by omega)] at this
    exact this
  · rw [if_pos hn, c _ (by omega)] at this
    rw [if_pos hn.1]
    exact this
set_option maxHeartbeats 4000000 in
theorem c_pair {h : AH} {R : Nat → Prop} {ad : Nat → Nat} {N lo m : Nat} {E : EL} (hG : lgR h lo m N ad) (hO : hOK h) (hL : LG h R ad N E) (hN : N ≤ 400) {one two : Int} (h1 : one = -1 ∨ (0 ≤ one ∧ one < N)) (h2 : two = -1 ∨ (0 ≤ two ∧ two < N)) : ∃ f', lsR ad (l_pair one two) f' ∧ Em mLog_pair 4 [vR lo, .inl one, .inl two] h (some (vR h.1)) (ah_new h (l_pair one two).length (cEa (l_pair one two).length f')) := by
  have c1 := c_findO hG hN h1
  have c2 := c_findO hG hN h2
  unfold l_pair
  have put1 : ∀ {n : Int}, 0 ≤ n → n < N → ∃ fs, h.2.2 (ad n.toNat) = some (.inr (1, fs)) ∧ ad n.toNat < h.1 := fun {n} a b => by
    obtain ⟨fs, hfs⟩ := hL.isE (n := n.toNat) (by omega)
    exact ⟨fs, hfs, hO _ _ hfs⟩
  by_cases k1 : 0 ≤ one
  · rw [if_pos k1] at c1
    obtain ⟨fs1, e1, l1⟩ := put1 k1 (by omega)
    rw [if_pos k1]
    by_cases k2 : 0 ≤ two ∧ two ≠ one
    · rw [if_pos k2.1] at c2
      obtain ⟨fs2, e2, l2⟩ := put1 k2.1 (by omega)
      rw [if_pos k2]
      refine ⟨va_up (va_up (fun _ => none) 0 (some (ad one.toNat))) 1 (some (ad two.toNat)), ?_, ?_⟩
      · intro i hi
        have : i = 0 ∨ i = 1 := by simp at hi; omega
        rcases this with rfl | rfl <;> simp [va_up]
      · show Ev tLog_pair 0 [some (vR lo), some (.inl one), some (.inl two), none, none, none, none] [] h (some (vR h.1), ah_new h 2 (cEa 2 (va_up (va_up (fun _ => none) 0 (some (ad one.toNat))) 1 (some (ad two.toNat)))))
        repeat (refine ev_st rfl rfl ?_)
        refine ev_callV rfl rfl hG.1 rfl c1 ?_
        repeat (refine ev_st rfl rfl ?_)
        refine ev_icT rfl (by simp only [ick, w32]; omega) ?_
        repeat (refine ev_st rfl rfl ?_)
        refine ev_callV rfl rfl hG.1 rfl c2 ?_
        repeat (refine ev_st rfl rfl ?_)
        refine ev_newa 2 rfl (by decide) (by decide) ?_
        repeat (first | refine ev_st rfl rfl ?_ | refine ev_getf rfl (by first | assumption | exact ah_eq | (refine ah_ne (by omega) ?_; first | assumption | exact ah_eq | (refine ah_ne (by omega) ?_; first | assumption | exact ah_eq | (refine ah_ne (by omega) ?_; first | assumption | exact ah_eq)))) (by rfl) ?_ | refine ev_ifT rfl (by simp only [ick, w32]; omega) ?_ | refine ev_ifF rfl (by simp only [ick, w32]; omega) ?_ | refine ev_icT rfl (by simp only [ick, w32]; omega) ?_ | refine ev_icF rfl (by simp only [ick, w32]; omega) ?_)
        refine ev_aast 0 rfl ah_neq (ah_nne (by omega) e1) (by decide) (by decide) ?_
        rw [ah_np]
        repeat (refine ev_st rfl rfl ?_)
        refine ev_aast 1 rfl ah_neq (ah_nne (by omega) e2) (by decide) (by decide) ?_
        rw [ah_np]
        repeat (refine ev_st rfl rfl ?_)
        exact ev_rt rfl rfl rfl
    · rw [if_neg k2]
      refine ⟨va_up (fun _ => none) 0 (some (ad one.toNat)), ?_, ?_⟩
      · intro i hi
        have : i = 0 := by simp at hi; omega
        subst this; simp [va_up]
      · show Ev tLog_pair 0 [some (vR lo), some (.inl one), some (.inl two), none, none, none, none] [] h (some (vR h.1), ah_new h 1 (cEa 1 (va_up (fun _ => none) 0 (some (ad one.toNat)))))
        repeat (refine ev_st rfl rfl ?_)
        refine ev_callV rfl rfl hG.1 rfl c1 ?_
        have rest : Ev tLog_pair 20 [some (vR lo), some (.inl one), some (.inl two), some (vR (ad one.toNat)), none, none, none] [.inr (.inr none)] h (some (vR h.1), ah_new h 1 (cEa 1 (va_up (fun _ => none) 0 (some (ad one.toNat))))) := by
          repeat (refine ev_st rfl rfl ?_)
          refine ev_newa 1 rfl (by decide) (by decide) ?_
          repeat (first | refine ev_st rfl rfl ?_ | refine ev_getf rfl (by first | assumption | exact ah_eq | (refine ah_ne (by omega) ?_; first | assumption | exact ah_eq | (refine ah_ne (by omega) ?_; first | assumption | exact ah_eq | (refine ah_ne (by omega) ?_; first | assumption | exact ah_eq)))) (by rfl) ?_ | refine ev_ifT rfl (by simp only [ick, w32]; omega) ?_ | refine ev_ifF rfl (by simp only [ick, w32]; omega) ?_ | refine ev_icT rfl (by simp only [ick, w32]; omega) ?_ | refine ev_icF rfl (by simp only [ick, w32]; omega) ?_)
          refine ev_aast 0 rfl ah_neq (ah_nne (by omega) e1) (by decide) (by decide) ?_
          rw [ah_np]
          repeat (refine ev_st rfl rfl ?_)
          exact ev_rt rfl rfl rfl
        by_cases k3 : two = one
        · repeat (refine ev_st rfl rfl ?_)
          refine ev_icF rfl (by simp only [ick, w32]; omega) ?_
          iterate 2 (refine ev_st rfl rfl ?_)
          exact rest
        · repeat (refine ev_st rfl rfl ?_)
          refine ev_icT rfl (by simp only [ick, w32]; omega) ?_
          rw [if_neg (by omega)] at c2
          repeat (refine ev_st rfl rfl ?_)
          refine ev_callV rfl rfl hG.1 rfl c2 ?_
          exact rest
  · rw [if_neg k1] at c1
    rw [if_neg k1]
    by_cases k2 : 0 ≤ two ∧ two ≠ one
    · rw [if_pos k2.1] at c2
      obtain ⟨fs2, e2, l2⟩ := put1 k2.1 (by omega)
      rw [if_pos k2]
      refine ⟨va_up (fun _ => none) 0 (some (ad two.toNat)), ?_, ?_⟩
      · intro i hi
        have : i = 0 := by simp at hi; omega
        subst this; simp [va_up]
      · show Ev tLog_pair 0 [some (vR lo), some (.inl one), some (.inl two), none, none, none, none] [] h (some (vR h.1), ah_new h 1 (cEa 1 (va_up (fun _ => none) 0 (some (ad two.toNat)))))
        repeat (refine ev_st rfl rfl ?_)
        refine ev_callV rfl rfl hG.1 rfl c1 ?_
        repeat (refine ev_st rfl rfl ?_)
        refine ev_icT rfl (by simp only [ick, w32]; omega) ?_
        repeat (refine ev_st rfl rfl ?_)
        refine ev_callV rfl rfl hG.1 rfl c2 ?_
        repeat (refine ev_st rfl rfl ?_)
        refine ev_newa 1 rfl (by decide) (by decide) ?_
        repeat (first | refine ev_st rfl rfl ?_ | refine ev_getf rfl (by first | assumption | exact ah_eq | (refine ah_ne (by omega) ?_; first | assumption | exact ah_eq | (refine ah_ne (by omega) ?_; first | assumption | exact ah_eq | (refine ah_ne (by omega) ?_; first | assumption | exact ah_eq)))) (by rfl) ?_ | refine ev_ifT rfl (by simp only [ick, w32]; omega) ?_ | refine ev_ifF rfl (by simp only [ick, w32]; omega) ?_ | refine ev_icT rfl (by simp only [ick, w32]; omega) ?_ | refine ev_icF rfl (by simp only [ick, w32]; omega) ?_)
        refine ev_aast 0 rfl ah_neq (ah_nne (by omega) e2) (by decide) (by decide) ?_
        rw [ah_np]
        repeat (refine ev_st rfl rfl ?_)
        exact ev_rt rfl rfl rfl
    · rw [if_neg k2]
      refine ⟨fun _ => none, fun i hi => absurd hi (Nat.not_lt_zero _), ?_⟩
      show Ev tLog_pair 0 [some (vR lo), some (.inl one), some (.inl two), none, none, none, none] [] h (some (vR h.1), ah_new h 0 (cEa 0 (fun _ => none)))
      repeat (refine ev_st rfl rfl ?_)
      refine ev_callV rfl rfl hG.1 rfl c1 ?_
      repeat (refine ev_st rfl rfl ?_)
      have k3 : two = one := by omega
      refine ev_icF rfl (by simp only [ick, w32]; omega) ?_
      repeat (refine ev_st rfl rfl ?_)
      refine ev_newa 0 rfl (by decide) (by decide) ?_
      repeat (first | refine ev_st rfl rfl ?_ | refine ev_getf rfl (by first | assumption | exact ah_eq | (refine ah_ne (by omega) ?_; first | assumption | exact ah_eq | (refine ah_ne (by omega) ?_; first | assumption | exact ah_eq | (refine ah_ne (by omega) ?_; first | assumption | exact ah_eq)))) (by rfl) ?_ | refine ev_ifT rfl (by simp only [ick, w32]; omega) ?_ | refine ev_ifF rfl (by simp only [ick, w32]; omega) ?_ | refine ev_icT rfl (by simp only [ick, w32]; omega) ?_ | refine ev_icF rfl (by simp only [ick, w32]; omega) ?_)
      exact ev_rt rfl rfl rfl
