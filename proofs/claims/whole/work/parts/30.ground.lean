-- Event.setGrounds
theorem hOK.put {h : AH} {a : Nat} {e : AE} (hO : hOK h) (ha : a < h.1) : hOK (ah_put h a e) := by
  intro b x hx
  by_cases hb : b = a
  · subst hb; exact ha
  · exact hO b x ((ah_ne hb rfl).symm.trans hx)
theorem hOK.new {h : AH} {k : Nat} {e : AE} (hO : hOK h) : hOK (ah_new h k e) := by
  intro b x hx
  show b < h.1 + 1
  by_cases hb : b = h.1
  · omega
  · have := hO b x ((ah_nne hb rfl).symm.trans hx)
    omega
theorem ah_pcp {h : AH} {v w : Nat} {e1 e2 c : AE} (hvw : v ≠ w) : ah_put (ah_put (ah_put h v e1) w c) v e2 = ah_put (ah_put h w c) v e2 := by
  unfold ah_put
  refine Prod.ext rfl (Prod.ext rfl ?_)
  funext a
  simp only [va_up]
  by_cases h1 : a = v
  · simp [h1]
  · simp [h1]
theorem stR.put {h : AH} {ad : Nat → Nat} {s a : Nat} {σ : SS} {e : AE} (q : stR h ad s σ) (ha : ∀ p, h.2.2 s = some (cSt p) → s ≠ a ∧ p ≠ a) : stR (ah_put h a e) ad s σ := by
  obtain ⟨p, f, hs, hp, hf⟩ := q
  obtain ⟨n1, n2⟩ := ha p hs
  exact ⟨p, f, ah_ne n1 hs, ah_ne n2 hp, hf⟩
set_option maxHeartbeats 4000000 in
theorem l_mklev {h : AH} {R : Nat → Prop} {ad : Nat → Nat} {N : Nat} {E : EL} {τ : SS} {g p v la : Nat} (hS : ∀ fl, stR (ah_put h la (cIa 12 fl)) ad g τ) (hg : h.2.2 g = some (cSt p)) (hL : ∀ fl, LG (ah_put h la (cIa 12 fl)) R ad N E) (hW : WE N E) (hσ : sOK N E τ) {n c pa : Nat} {x : ED} {gr er bh : Option Nat} {sl gd : Int} (hv : h.2.2 v = some (cEv n x c pa gr sl (some la) er bh gd)) (n1 : g ≠ la) (n2 : v ≠ la) (ha : InR (e_a x)) : ∀ (k i : Nat), i + k = 12 → Ev tEvent_setGrounds 43 [some (vR v), some (vR g), some (.inl (i : Int))] [] (ah_put h la (cIa 12 (fill i (m_lvs E τ (e_a x) (e_b x)) fun _ => 0))) (none, ah_put h la (cIa 12 (fill 12 (m_lvs E τ (e_a x) (e_b x)) fun _ => 0))) := by
  unfold InR at ha
  intro k
  induction k with
  | zero =>
    intro i hi
    obtain rfl : i = 12 := by omega
    repeat (first | refine ev_st rfl rfl ?_ | refine ev_getf rfl (by first | assumption | exact ah_eq | (refine ah_ne (by omega) ?_; first | assumption | exact ah_eq | (refine ah_ne (by omega) ?_; first | assumption | exact ah_eq | (refine ah_ne (by omega) ?_; first | assumption | exact ah_eq)))) (by rfl) ?_ | refine ev_ifT rfl (by simp only [ick, w32]; omega) ?_ | refine ev_ifF rfl (by simp only [ick, w32]; omega) ?_ | refine ev_icT rfl (by simp only [ick, w32]; omega) ?_ | refine ev_icF rfl (by simp only [ick, w32]; omega) ?_)
    exact ev_rt rfl rfl rfl
  | succ k ih =>
    intro i hi
    have ih := ih (i + 1) (by omega)
    have cl := c_levelOf (hS (fill i (m_lvs E τ (e_a x) (e_b x)) fun _ => 0)) (hL _) hW hσ (u := i) (by omega)
    have hcv : (ah_put h la (cIa 12 (fill i (m_lvs E τ (e_a x) (e_b x)) fun _ => 0))).2.2 v = some (cEv n x c pa gr sl (some la) er bh gd) := ah_ne n2 hv
    have hcg : (ah_put h la (cIa 12 (fill i (m_lvs E τ (e_a x) (e_b x)) fun _ => 0))).2.2 g = some (cSt p) := ah_ne n1 hg
    rw [← fill_up] at ih
    clear hS hL
    repeat (first | refine ev_st rfl rfl ?_ | refine ev_getf rfl (by first | assumption | exact ah_eq | (refine ah_ne (by omega) ?_; first | assumption | exact ah_eq | (refine ah_ne (by omega) ?_; first | assumption | exact ah_eq | (refine ah_ne (by omega) ?_; first | assumption | exact ah_eq)))) (by rfl) ?_ | refine ev_ifT rfl (by simp only [ick, w32]; omega) ?_ | refine ev_ifF rfl (by simp only [ick, w32]; omega) ?_ | refine ev_icT rfl (by simp only [ick, w32]; omega) ?_ | refine ev_icF rfl (by simp only [ick, w32]; omega) ?_)
    by_cases hq : (i : Int) = e_a x
    · refine ev_icF rfl (by simp only [ick, w32]; omega) ?_
      repeat (first | refine ev_st rfl rfl ?_ | refine ev_getf rfl (by first | assumption | exact ah_eq | (refine ah_ne (by omega) ?_; first | assumption | exact ah_eq | (refine ah_ne (by omega) ?_; first | assumption | exact ah_eq | (refine ah_ne (by omega) ?_; first | assumption | exact ah_eq)))) (by rfl) ?_)
      refine ev_iastN rfl (by first | assumption | exact ah_eq | (refine ah_ne (by omega) ?_; first | assumption | exact ah_eq | (refine ah_ne (by omega) ?_; first | assumption | exact ah_eq | (refine ah_ne (by omega) ?_; first | assumption | exact ah_eq)))) (by omega) (by omega) ?_
      rw [ah_putput]
      iterate 2 (refine ev_st rfl rfl ?_)
      rw [nat_1]
      rw [show m_lvs E τ (e_a x) (e_b x) i = e_b x from if_pos hq] at ih
      exact ih
    · refine ev_icT rfl (by simp only [ick, w32]; omega) ?_
      iterate 2 (refine ev_st rfl rfl ?_)
      refine ev_callV rfl rfl hcg rfl cl ?_
      refine ev_iastN rfl (by first | assumption | exact ah_eq | (refine ah_ne (by omega) ?_; first | assumption | exact ah_eq | (refine ah_ne (by omega) ?_; first | assumption | exact ah_eq | (refine ah_ne (by omega) ?_; first | assumption | exact ah_eq)))) (by omega) (by omega) ?_
      rw [ah_putput]
      iterate 2 (refine ev_st rfl rfl ?_)
      rw [nat_1]
      rw [show m_lvs E τ (e_a x) (e_b x) i = m_lev E τ i from if_neg hq] at ih
      exact ih
set_option maxHeartbeats 4000000 in
theorem c_setGrounds {h : AH} {R : Nat → Prop} {ad : Nat → Nat} {N : Nat} {E : EL} {τ : SS} {g v n c pa w : Nat} {x : ED} (hS : stR h ad g τ) (hL : LG h R ad N E) (hN : N ≤ 400) (hO : hOK h) (hW : WE N E) (hσ : sOK N E τ) (hv : h.2.2 v = some (cEv n x c pa none 0 none none none 0)) (wf : wfE x) (hc : h.2.2 c = some (cSet w)) (hw : h.2.2 w = some (cLng fun _ => 0)) (rv : ¬ R v) (rw_ : ¬ R w) (hRl : ∀ a, R a → a < h.1) : ∃ h' lv g', Em mEvent_setGrounds 1 [vR v, vR g] h none h' ∧ h'.2.2 v = some (cEv n x c pa (some g) (m_lev E τ (e_sd x)) lv none none 0) ∧ h'.2.2 w = some (cLng g') ∧ (∀ y, bS g' y = m_ch E τ y) ∧ ((e_kd x = 2 → ∃ fl, lv = some h.1 ∧ h'.2.2 h.1 = some (cIa 12 fl) ∧ ∀ u, u < 12 → fl u = m_lvs E τ (e_a x) (e_b x) u) ∧ (¬ e_kd x = 2 → lv = none)) ∧ (h.1 ≤ h'.1 ∧ h'.1 ≤ h.1 + 1 ∧ h.2.1 ≤ h'.2.1 ∧ h'.2.1 ≤ h.2.1 + 12) ∧ (∀ a, a ≠ v → a ≠ w → a < h.1 → h'.2.2 a = h.2.2 a) ∧ hOK h' := by
  obtain ⟨us, hus, hus2⟩ : ∃ u : Nat, e_sd x = u ∧ u < 12 := ⟨(e_sd x).toNat, by have := wf.1; omega, by have := wf.1; omega⟩
  have hk := wf.2.1
  have rn : ¬ R h.1 := fun q => absurd (hRl _ q) (Nat.lt_irrefl _)
  obtain ⟨p, f, hs, hp, hf⟩ := id hS
  have n1 : g ≠ v := by rintro rfl; rw [hs] at hv; cases hv
  have n2 : p ≠ v := (ne_ao hv hp).symm
  have n3 : c ≠ v := by rintro rfl; rw [hc] at hv; cases hv
  have n4 : v ≠ w := ne_ao hv hw
  have n5 : g ≠ w := ne_ao hs hw
  have n6 : p ≠ w := by rintro rfl; rw [hp] at hw; cases hw
  have l1 := hO _ _ hv
  have l2 := hO _ _ hw
  have l3 := hO _ _ hs
  have l4 := hO _ _ hp
  have hS1 : ∀ e, stR (ah_put h v e) ad g τ := fun e => ⟨p, f, ah_ne n1 hs, ah_ne n2 hp, hf⟩
  obtain ⟨g', cE, hg'⟩ := c_addChain (hS1 (cEv n x c pa (some g) 0 none none none 0)) (hL.fz (fz.put rv)) hN hσ rw_ (ah_ne n3 hc) (ah_ne n4.symm hw)
  have hg2 : ∀ y, bS g' y = m_ch E τ y := fun y => by rw [hg' y]; simp [bS]
  have hS2 : stR (ah_put (ah_put h v (cEv n x c pa (some g) 0 none none none 0)) w (cLng g')) ad g τ := ⟨p, f, ah_ne n5 (ah_ne n1 hs), ah_ne n6 (ah_ne n2 hp), hf⟩
  have cl := c_levelOf hS2 ((hL.fz (fz.put rv)).fz (fz.put rw_)) hW hσ hus2
  rw [← hus] at cl
  by_cases k2 : e_kd x = 2
  · have wn : w ≠ h.1 := by omega
    have vn : v ≠ h.1 := by omega
    have hX1 : ah_new (ah_put (ah_put h w (cLng g')) v (cEv n x c pa (some g) (m_lev E τ (e_sd x)) none none none 0)) 12 (cIa 12 fun _ => 0) = ah_put (ah_put (ah_new h 12 (cIa 12 fun _ => 0)) w (cLng g')) v (cEv n x c pa (some g) (m_lev E τ (e_sd x)) none none none 0) := by
      rw [ah_new_put (show v ≠ (ah_put h w (cLng g')).1 from vn), ah_new_put (show w ≠ h.1 from wn)]
    generalize hX : ah_put (ah_put (ah_new h 12 (cIa 12 fun _ => 0)) w (cLng g')) v (cEv n x c pa (some g) (m_lev E τ (e_sd x)) (some h.1) none none 0) = X
    have xv : X.2.2 v = some (cEv n x c pa (some g) (m_lev E τ (e_sd x)) (some h.1) none none 0) := by rw [← hX]; exact ah_eq
    have xw : X.2.2 w = some (cLng g') := by rw [← hX]; exact ah_ne n4.symm ah_eq
    have xn : X.2.2 h.1 = some (cIa 12 fun _ => 0) := by rw [← hX]; exact ah_ne (Ne.symm vn) (ah_ne (Ne.symm wn) ah_neq)
    have xo : ∀ a, a ≠ v → a ≠ w → a < h.1 → X.2.2 a = h.2.2 a := fun a a1 a2 a3 => by rw [← hX]; exact ah_ne a1 (ah_ne a2 (ah_nne (by omega) rfl))
    have xz : fz R h X := fun a ha => xo a (fun q => rv (q ▸ ha)) (fun q => rw_ (q ▸ ha)) (hRl a ha)
    have xO : hOK X := by rw [← hX]; exact ((hO.new).put (by show w < h.1 + 1; omega)).put (by show v < h.1 + 1; omega)
    refine ⟨ah_put X h.1 (cIa 12 (fill 12 (m_lvs E τ (e_a x) (e_b x)) fun _ => 0)), some h.1, g', ?_, ah_ne vn xv, ah_ne wn xw, hg2, ⟨fun _ => ⟨_, rfl, ah_eq, fun u hu => by simp [fill, hu]⟩, fun q => absurd k2 q⟩, ?_, fun a a1 a2 a3 => ah_ne (by omega) (xo a a1 a2 a3), xO.put (by rw [← hX]; show h.1 < h.1 + 1; omega)⟩
    · have hS3 : ∀ fl, stR (ah_put X h.1 (cIa 12 fl)) ad g τ := fun fl => ⟨p, f, ah_ne (by omega) ((xo g n1 n5 l3).trans hs), ah_ne (by omega) ((xo p n2 n6 l4).trans hp), hf⟩
      have lp := l_mklev (h := X) (la := h.1) hS3 ((xo g n1 n5 l3).trans hs) (fun fl => (hL.fz xz).fz (fz.put rn)) hW hσ xv (by omega) vn wf.2.2.2.2.1 12 0 rfl
      rw [fill_0, ah_same xn] at lp
      show Ev tEvent_setGrounds 0 [some (vR v), some (vR g), none] [] h _
      iterate 2 (refine ev_st rfl rfl ?_)
      refine ev_putf rfl hv (Nat.le_of_ble_eq_true rfl) rfl ?_
      iterate 2 (refine ev_st rfl rfl ?_)
      refine ev_getf rfl ah_eq (by rfl) ?_
      refine ev_callV rfl rfl (ah_ne n1 hs) rfl cE ?_
      iterate 3 (refine ev_st rfl rfl ?_)
      refine ev_getf rfl (ah_ne n4 ah_eq) (by rfl) ?_
      refine ev_callV rfl rfl (ah_ne n5 (ah_ne n1 hs)) rfl cl ?_
      refine ev_putf rfl (ah_ne n4 ah_eq) (Nat.le_of_ble_eq_true rfl) rfl ?_
      rw [ah_pcp n4]
      iterate 1 (refine ev_st rfl rfl ?_)
      refine ev_getf rfl ah_eq (by rfl) ?_
      repeat (first | refine ev_st rfl rfl ?_ | refine ev_getf rfl (by first | assumption | exact ah_eq | (refine ah_ne (by omega) ?_; first | assumption | exact ah_eq | (refine ah_ne (by omega) ?_; first | assumption | exact ah_eq | (refine ah_ne (by omega) ?_; first | assumption | exact ah_eq)))) (by rfl) ?_ | refine ev_ifT rfl (by simp only [ick, w32]; omega) ?_ | refine ev_ifF rfl (by simp only [ick, w32]; omega) ?_ | refine ev_icT rfl (by simp only [ick, w32]; omega) ?_ | refine ev_icF rfl (by simp only [ick, w32]; omega) ?_)
      refine ev_newa 12 rfl (by decide) (by decide) ?_
      show Ev tEvent_setGrounds 38 [some (vR v), some (vR g), none] [vR h.1, vR v] (ah_new (ah_put (ah_put h w (cLng g')) v (cEv n x c pa (some g) (m_lev E τ (e_sd x)) none none none 0)) 12 (cIa 12 fun _ => 0)) _
      rw [hX1]
      refine ev_putf rfl ah_eq (Nat.le_of_ble_eq_true rfl) rfl ?_
      rw [ah_putput]
      iterate 2 (refine ev_st rfl rfl ?_)
      rw [← hX] at lp
      rw [← hX]
      exact lp
    · rw [← hX]
      show h.1 ≤ h.1 + 1 ∧ h.1 + 1 ≤ h.1 + 1 ∧ h.2.1 ≤ h.2.1 + 12 ∧ h.2.1 + 12 ≤ h.2.1 + 12
      omega
  · refine ⟨ah_put (ah_put h w (cLng g')) v (cEv n x c pa (some g) (m_lev E τ (e_sd x)) none none none 0), none, g', ?_, ah_eq, ah_ne n4.symm ah_eq, hg2, ⟨fun q => absurd q k2, fun _ => rfl⟩, ?_, fun a a1 a2 _ => ah_ne a1 (ah_ne a2 rfl), (hO.put l2).put l1⟩
    · show Ev tEvent_setGrounds 0 [some (vR v), some (vR g), none] [] h _
      iterate 2 (refine ev_st rfl rfl ?_)
      refine ev_putf rfl hv (Nat.le_of_ble_eq_true rfl) rfl ?_
      iterate 2 (refine ev_st rfl rfl ?_)
      refine ev_getf rfl ah_eq (by rfl) ?_
      refine ev_callV rfl rfl (ah_ne n1 hs) rfl cE ?_
      iterate 3 (refine ev_st rfl rfl ?_)
      refine ev_getf rfl (ah_ne n4 ah_eq) (by rfl) ?_
      refine ev_callV rfl rfl (ah_ne n5 (ah_ne n1 hs)) rfl cl ?_
      refine ev_putf rfl (ah_ne n4 ah_eq) (Nat.le_of_ble_eq_true rfl) rfl ?_
      rw [ah_pcp n4]
      iterate 1 (refine ev_st rfl rfl ?_)
      refine ev_getf rfl ah_eq (by rfl) ?_
      repeat (first | refine ev_st rfl rfl ?_ | refine ev_getf rfl (by first | assumption | exact ah_eq | (refine ah_ne (by omega) ?_; first | assumption | exact ah_eq | (refine ah_ne (by omega) ?_; first | assumption | exact ah_eq | (refine ah_ne (by omega) ?_; first | assumption | exact ah_eq)))) (by rfl) ?_ | refine ev_ifT rfl (by simp only [ick, w32]; omega) ?_ | refine ev_ifF rfl (by simp only [ick, w32]; omega) ?_ | refine ev_icT rfl (by simp only [ick, w32]; omega) ?_ | refine ev_icF rfl (by simp only [ick, w32]; omega) ?_)
      exact ev_rt rfl rfl rfl
    · show h.1 ≤ h.1 ∧ h.1 ≤ h.1 + 1 ∧ h.2.1 ≤ h.2.1 ∧ h.2.1 ≤ h.2.1 + 12
      omega
