-- State.with; an event is made
theorem ah_new_put {X : AH} {v k : Nat} {e c : AE} (hv : v ≠ X.1) : ah_new (ah_put X v e) k c = ah_put (ah_new X k c) v e := by
  unfold ah_put ah_new
  refine Prod.ext rfl (Prod.ext rfl ?_)
  funext a
  simp only [va_up]
  by_cases h1 : a = v
  · subst h1; simp [hv]
  · simp [h1]
set_option maxHeartbeats 2000000 in
theorem c_with {h : AH} {s p v : Nat} {f : Nat → Option Nat} {fs : List AV} {cp : Nat} (hs : h.2.2 s = some (cSt p)) (hp : h.2.2 p = some (cEa 23 f)) (hO : hOK h) (hE : ∀ i, i < 23 → ∀ x, f i = some x → isE h x) (hv : h.2.2 v = some (.inr (1, fs))) (h7 : fs[7]? = some (.inl (cp : Int))) (hcp : cp < 23) : Em mState_with 1 [vR s, vR v] h (some (vR h.1)) (hSt h (va_up (fill 23 f fun _ => none) cp (some v))) := by
  have n1 := hO _ _ hs
  have n2 := hO _ _ hp
  have n3 := hO _ _ hv
  have cc := c_stcopy (h := hSt h fun _ => none) hSt_0 hSt_1 ((hSt_o n1).trans hs) ((hSt_o n2).trans hp) (by omega) (fun i hi x hx => by
    obtain ⟨fs, hfs⟩ := hE i hi x hx
    exact ⟨fs, (hSt_o (hO _ _ hfs)).trans hfs⟩)
  rw [hSt_put] at cc
  have cput := c_putS (h := hSt h (fill 23 (fun j => f j) fun _ => none)) (v := v) hSt_0 hSt_1 ((hSt_o n3).trans hv) h7 hcp
  rw [hSt_put] at cput
  show Ev tState_with 0 [some (vR s), some (vR v), none] [] h _
  iterate 2 (refine ev_st rfl rfl ?_)
  refine ev_callV rfl rfl ah_neq rfl (c_stinit ah_neq (Nat.lt_succ_self _)) ?_
  rw [hSt_eq (k := List.length [((0 : Int), (2 : Nat))]) rfl]
  repeat (refine ev_st rfl rfl ?_)
  refine ev_callV rfl rfl hSt_0 rfl cc ?_
  repeat (refine ev_st rfl rfl ?_)
  refine ev_callV rfl rfl hSt_0 rfl cput ?_
  repeat (refine ev_st rfl rfl ?_)
  exact ev_rt rfl rfl rfl
def hSet (h : AH) : AH := (h.1 + 2, h.2.1 + 8, fun a => if a = h.1 then some (cSet (h.1 + 1)) else if a = h.1 + 1 then some (cLng fun _ => 0) else h.2.2 a)
theorem hSet_eq {h : AH} {e0 : AE} {k : Nat} (hk : k = 1) : ah_put (ah_new (ah_new h k e0) 7 (cLng fun _ => 0)) h.1 (cSet (ah_new h k e0).1) = hSet h := by
  subst hk
  unfold ah_put ah_new hSet
  refine Prod.ext rfl (Prod.ext rfl ?_)
  funext a
  simp only [va_up]
  by_cases h1 : a = h.1
  · subst h1; simp
  · by_cases h2 : a = h.1 + 1
    · subst h2; simp
    · simp [h1, h2]
theorem hSet_0 {h : AH} : (hSet h).2.2 h.1 = some (cSet (h.1 + 1)) := by simp [hSet]
theorem hSet_1 {h : AH} : (hSet h).2.2 (h.1 + 1) = some (cLng fun _ => 0) := by simp [hSet]
theorem hSet_o {h : AH} {a : Nat} (ha : a < h.1) : (hSet h).2.2 a = h.2.2 a := by
  simp only [hSet]
  rw [if_neg (by omega), if_neg (by omega)]
theorem e_cp_of {x : ED} (wf : wfE x) : m_cpl (e_kd x) (if e_kd x = 1 ∨ e_kd x = 4 then e_a x else 0) = e_cp x := by
  obtain ⟨-, h1, h2, h3, -⟩ := wf
  unfold m_cpl e_cp
  by_cases k0 : e_kd x = 0
  · rw [if_pos k0, if_pos k0, show (if e_kd x = 1 ∨ e_kd x = 4 then e_a x else 0) = 0 from if_neg (by omega), if_pos rfl]
  rw [if_neg k0, if_neg k0]
  by_cases k1 : e_kd x = 1
  · rw [if_pos k1, if_pos k1, if_pos (Or.inl k1), if_pos (by have := h2 (Or.inl k1); omega)]
  rw [if_neg k1, if_neg k1]
  by_cases k2 : e_kd x = 2
  · rw [if_pos k2, if_pos k2, show (if e_kd x = 1 ∨ e_kd x = 4 then e_a x else 0) = 0 from if_neg (by omega), if_pos rfl]
  rw [if_neg k2, if_neg k2]
  by_cases k3 : e_kd x = 3
  · rw [if_pos k3, if_pos k3, show (if e_kd x = 1 ∨ e_kd x = 4 then e_a x else 0) = 0 from if_neg (by omega), if_pos rfl]
  rw [if_neg k3, if_neg k3]
  by_cases k4 : e_kd x = 4
  · rw [if_pos k4, if_pos k4, if_pos (Or.inr k4), if_pos (by have := h3 k4; omega)]
  rw [if_neg k4, if_neg k4]
theorem id_eq {n : Nat} (hn : n < 400) : Int.tmod (w32 ((n : Int) * 40503)) (w32 65536) = e_id n := by
  rw [w32_id (by omega) (by omega), w32_id (by omega) (by omega)]
  unfold e_id
  have : ((n : Int) * 40503) = ((n * 40503 : Nat) : Int) := by omega
  rw [this]
  exact (Int.ofNat_tmod (n * 40503) 65536).symm
set_option maxHeartbeats 8000000 in
theorem c_evinit {h : AH} {v n : Nat} {x : ED} {d : List AV} (hv : h.2.2 v = some (.inr (1, d))) (hd : d = [.inl 0, .inl 0, .inl 0, .inl 0, .inl 0, .inl 0, .inl 0, .inl 0, .inr (.inr none), .inr (.inr none), .inr (.inr none), .inl 0, .inr (.inr none), .inr (.inr none), .inr (.inr none), .inl 0]) (hlt : v < h.1) (hn : n < 400) (wf : wfE x) : Em mEvent_init 0 [vR v, .inl (n : Int), .inl (e_sd x), .inl (e_kd x), .inl (e_a x), .inl (e_b x), .inl (e_tm x)] h none (ah_put (ah_new (hSet h) 0 (cEa 0 fun _ => none)) v (cEv n x h.1 (h.1 + 2) none 0 none none none 0)) := by
  subst hd
  have hk := wf.2.1
  have n0 : v ≠ h.1 := by omega
  have n1 : v ≠ h.1 + 2 := by omega
  show Ev tEvent_init 0 [some (vR v), some (.inl (n : Int)), some (.inl (e_sd x)), some (.inl (e_kd x)), some (.inl (e_a x)), some (.inl (e_b x)), some (.inl (e_tm x))] [] h _
  iterate 5 (refine ev_st rfl rfl ?_)
  refine ev_callV rfl rfl ah_neq rfl (c_setinit ah_neq (Nat.lt_succ_self _)) ?_
  rw [hSet_eq (k := List.length [((0 : Int), (2 : Nat))]) rfl]
  refine ev_putf rfl ((hSet_o hlt).trans hv) (Nat.le_of_ble_eq_true rfl) rfl ?_
  iterate 2 (refine ev_st rfl rfl ?_)
  refine ev_newa 0 rfl (by decide) (by decide) ?_
  rw [ah_new_put (show v ≠ (hSet h).1 from n1)]
  refine ev_putf rfl ah_eq (Nat.le_of_ble_eq_true rfl) rfl ?_
  rw [ah_putput]
  iterate 2 (refine ev_st rfl rfl ?_)
  refine ev_putf rfl ah_eq (Nat.le_of_ble_eq_true rfl) rfl ?_
  rw [ah_putput]
  iterate 2 (refine ev_st rfl rfl ?_)
  refine ev_putf rfl ah_eq (Nat.le_of_ble_eq_true rfl) rfl ?_
  rw [ah_putput]
  iterate 2 (refine ev_st rfl rfl ?_)
  refine ev_putf rfl ah_eq (Nat.le_of_ble_eq_true rfl) rfl ?_
  rw [ah_putput]
  iterate 2 (refine ev_st rfl rfl ?_)
  refine ev_putf rfl ah_eq (Nat.le_of_ble_eq_true rfl) rfl ?_
  rw [ah_putput]
  iterate 2 (refine ev_st rfl rfl ?_)
  refine ev_putf rfl ah_eq (Nat.le_of_ble_eq_true rfl) rfl ?_
  rw [ah_putput]
  iterate 2 (refine ev_st rfl rfl ?_)
  refine ev_putf rfl ah_eq (Nat.le_of_ble_eq_true rfl) rfl ?_
  rw [ah_putput]
  iterate 2 (refine ev_st rfl rfl ?_)
  refine ev_putf rfl ah_eq (Nat.le_of_ble_eq_true rfl) rfl ?_
  rw [ah_putput]
  iterate 2 (refine ev_st rfl rfl ?_)
  refine ev_putf rfl ah_eq (Nat.le_of_ble_eq_true rfl) rfl ?_
  rw [ah_putput]
  iterate 2 (refine ev_st rfl rfl ?_)
  refine ev_putf rfl ah_eq (Nat.le_of_ble_eq_true rfl) rfl ?_
  rw [ah_putput]
  iterate 2 (refine ev_st rfl rfl ?_)
  refine ev_putf rfl ah_eq (Nat.le_of_ble_eq_true rfl) rfl ?_
  rw [ah_putput]
  iterate 2 (refine ev_st rfl rfl ?_)
  refine ev_putf rfl ah_eq (Nat.le_of_ble_eq_true rfl) rfl ?_
  rw [ah_putput]
  iterate 2 (refine ev_st rfl rfl ?_)
  refine ev_putf rfl ah_eq (Nat.le_of_ble_eq_true rfl) rfl ?_
  rw [ah_putput]
  iterate 5 (refine ev_st rfl rfl ?_)
  refine ev_rem _ rfl (by decide) (id_eq hn) ?_
  refine ev_putf rfl ah_eq (Nat.le_of_ble_eq_true rfl) rfl ?_
  rw [ah_putput]
  iterate 4 (refine ev_st rfl rfl ?_)
  have last : ∀ H, Ev tEvent_init 115 [some (vR v), some (.inl (n : Int)), some (.inl (e_sd x)), some (.inl (e_kd x)), some (.inl (e_a x)), some (.inl (e_b x)), some (.inl (e_tm x))] [.inl (if e_kd x = 1 ∨ e_kd x = 4 then e_a x else 0), .inl (e_kd x), vR v] (ah_put H v (.inr (1, [.inl (n : Int), .inl (e_sd x), .inl (e_kd x), .inl (e_a x), .inl (e_b x), .inl (e_tm x), .inl (e_id n), .inl 0, .inr (.inr (some h.1)), .inr (.inr (some (h.1 + 2))), .inr (.inr none), .inl 0, .inr (.inr none), .inr (.inr none), .inr (.inr none), .inl 0]))) (none, ah_put H v (cEv n x h.1 (h.1 + 2) none 0 none none none 0)) := by
    intro H
    have hz : InR (if e_kd x = 1 ∨ e_kd x = 4 then e_a x else 0) := by
      split
      · exact wf.2.2.2.2.1
      · unfold InR; omega
    have cl := c_placeOf (h := ah_put H v (.inr (1, [.inl (n : Int), .inl (e_sd x), .inl (e_kd x), .inl (e_a x), .inl (e_b x), .inl (e_tm x), .inl (e_id n), .inl 0, .inr (.inr (some h.1)), .inr (.inr (some (h.1 + 2))), .inr (.inr none), .inl 0, .inr (.inr none), .inr (.inr none), .inr (.inr none), .inl 0]))) (k := e_kd x) (show InR (e_kd x) by unfold InR; omega) hz
    rw [e_cp_of wf] at cl
    refine ev_cl rfl rfl cl ?_
    refine ev_putf rfl ah_eq (Nat.le_of_ble_eq_true rfl) rfl ?_
    rw [ah_putput]
    exact ev_rt rfl rfl rfl
  by_cases k1 : e_kd x = 1
  · have last := last (ah_new (hSet h) 0 (cEa 0 fun _ => none))
    rw [if_pos (Or.inl k1)] at last
    refine ev_icT rfl (by simp only [ick, w32]; omega) ?_
    iterate 2 (refine ev_st rfl rfl ?_)
    exact last
  · refine ev_icF rfl (by simp only [ick, w32]; omega) ?_
    iterate 2 (refine ev_st rfl rfl ?_)
    by_cases k4 : e_kd x = 4
    · have last := last (ah_new (hSet h) 0 (cEa 0 fun _ => none))
      rw [if_pos (Or.inr k4)] at last
      refine ev_icF rfl (by simp only [ick, w32]; omega) ?_
      iterate 2 (refine ev_st rfl rfl ?_)
      exact last
    · have last := last (ah_new (hSet h) 0 (cEa 0 fun _ => none))
      rw [if_neg (by omega)] at last
      refine ev_icT rfl (by simp only [ick, w32]; omega) ?_
      iterate 1 (refine ev_st rfl rfl ?_)
      exact last
