-- the law's whole run
set_option maxRecDepth 20000
theorem cnt_no (n : Nat) : b_cnt n (fun _ => false) = 0 := by
  induction n with
  | zero => rfl
  | succ n ih => simp only [b_cnt, ih]; rfl
def E_0 : EL := fun _ => ((0, 0, 0, 0, 0), [], s_none, fun _ => 0, fun _ => false, s_none, false)
set_option maxHeartbeats 8000000 in
theorem law_pure {X : AH} {b L : Nat} {f : Nat → Int} (hO : hOK X) (hb : X.2.2 b = some (.inl (99, L, .inl f))) (hL : L ≤ 4096) (hf : ∀ j, InR (f j)) : ∃ h', Em mLw_law 3 [.inr (.inr (some b))] X (some (.inl 1)) h' ∧ few 7249 270143 X h' := by
  have hbl := hO _ _ hb
  obtain ⟨f', h1, cm⟩ := c_mdinit (X := hX X (clL X.1) 2236) (n := 33)
  have hle : (hX X (clL X.1) 2236).1 = X.1 + 51 := rfl
  rw [hle] at cm
  generalize hY : hX (hX X (clL X.1) 2236) (cMd (X.1 + 51) C_0.2 :: mdA C_0) (33 + 196194) = Y at *
  have y1 : Y.1 = X.1 + 81 := by rw [← hY]; rfl
  have y2 : Y.2.1 = X.2.1 + 198463 := by rw [← hY]; show X.2.1 + 2236 + (33 + 196194) = _; omega
  have hOY : hOK Y := by rw [← hY]; exact hX_ok (hX_ok hO)
  have ylo : ∀ a, a < X.1 → Y.2.2 a = X.2.2 a := fun a ha => by rw [← hY]; exact (hX_lo (by rw [hle]; omega)).trans (hX_lo ha)
  have ycl : ∀ i, i < 51 → Y.2.2 (X.1 + i) = (clL X.1)[i]? := fun i hi => by rw [← hY]; exact (hX_lo (by rw [hle]; omega)).trans hX_at
  have li : LI X.1 b L f (0, E_0, V_0) (hM Y (X.1 + 51) (rU C_0 17 f')) := by
    refine ⟨rU C_0 17 f', fun _ => 0, hM_hM, cls_0 (fun a e ha => ?_) (by show X.1 + 81 ≤ Y.1; omega) (fun i hi => (hM_lo (by omega)).trans (ycl i hi)), ⟨rfl, fun n hn => by omega⟩, fun s hs => ⟨fun y hy => ⟨rfl, rfl⟩, ?_, fun p hp => ?_⟩, ok_0, fun s hs => ?_, (hM_lo (by omega)).trans ((ylo b hbl).trans hb), hbl⟩
    · show a < Y.1
      by_cases hq : X.1 + 51 ≤ a ∧ a < X.1 + 51 + 30
      · omega
      · rw [hM_lo hq] at ha
        exact hOY a e ha
    · show (0 : Int) = (b_cnt 448 (fun _ => false) : Nat)
      rw [cnt_no]; rfl
    · show f' (23 * s + p) = _
      rw [h1 _ (by omega)]
      rfl
    · show b_cnt 448 (fun _ => false) ≤ 32
      rw [cnt_no]; omega
  obtain ⟨h', go, fw⟩ := l_law (k := 512) hf hL 0 (0, E_0, V_0) _ li (by omega) (by omega)
  refine ⟨h', ?_, ?_⟩
  · show Ev tLw_law 0 [some (vR b), none, none, none] [] _ _
    iterate 2 (refine ev_st rfl rfl ?_)
    rw [hX_1 hO]
    refine ev_callV rfl rfl ((hX_at (i := 0)).trans rfl) rfl (c_rfinit hO) ?_
    iterate 3 (refine ev_st rfl rfl ?_)
    rw [hX_1 (hX_ok hO)]
    refine ev_callV rfl rfl ((hX_at (i := 0)).trans rfl) rfl cm ?_
    iterate 3 (refine ev_st rfl rfl ?_)
    exact go
  · obtain ⟨a1, a2⟩ := fw
    change h'.1 ≤ Y.1 + _ at a1
    change h'.2.1 ≤ Y.2.1 + _ at a2
    exact ⟨by omega, by omega⟩
