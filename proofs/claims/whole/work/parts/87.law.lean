-- the law
set_option maxRecDepth 20000
set_option maxHeartbeats 8000000 in
theorem l_law {B b L : Nat} {f : Nat → Int} (hf : ∀ j, InR (f j)) (hL : L ≤ 4096) : ∀ (k i : Nat) (w : WD) (H : AH), LI B b L f w H → i ≤ L + 8 → L ≤ i + 8 * k + 7 → ∃ H', Ev tLw_law 18 [some (vR b), some (vR B), some (vR (B + 51)), some (.inl (i : Int))] [] H (some (.inl 1), H') ∧ few (14 * k) (140 * k) H H' := by
  intro k
  induction k with
  | zero =>
    intro i w H li h1 h2
    obtain ⟨C, ad, -, -, -, -, -, -, hb, -⟩ := li
    refine ⟨H, ?_, few.rf⟩
    iterate 2 (refine ev_st rfl rfl ?_)
    refine ev_alen rfl hb ?_
    iterate 2 (refine ev_st rfl rfl ?_)
    refine ev_icT rfl (by simp only [ick, w32]; omega) ?_
    iterate 1 (refine ev_st rfl rfl ?_)
    exact ev_rt rfl rfl rfl
  | succ k ih =>
    intro i w H li h1 h2
    have hb : H.2.2 b = some (.inl (99, L, .inl f)) := by
      obtain ⟨C, ad, -, -, -, -, -, -, hb, -⟩ := li
      exact hb
    by_cases hi : i + 8 ≤ L
    · have pre : ∀ {o : Option AV × AH}, Ev tLw_law 33 [some (vR b), some (vR B), some (vR (B + 51)), some (.inl (i : Int))] [.inl (a_and (f i) 15)] H o → Ev tLw_law 18 [some (vR b), some (vR B), some (vR (B + 51)), some (.inl (i : Int))] [] H o := by
        intro o hgo
        iterate 2 (refine ev_st rfl rfl ?_)
        refine ev_alen rfl hb ?_
        iterate 2 (refine ev_st rfl rfl ?_)
        refine ev_icF rfl (by simp only [ick, w32]; omega) ?_
        iterate 2 (refine ev_st rfl rfl ?_)
        refine ev_iald i rfl hb (by simp only [w32]; omega) (by omega) ?_
        iterate 2 (refine ev_st rfl rfl ?_)
        exact hgo
      have next : ∀ {w' : WD} {H2 : AH}, LI B b L f w' H2 → few 14 140 H H2 → ∃ H', Ev tLw_law 576 [some (vR b), some (vR B), some (vR (B + 51)), some (.inl (i : Int))] [] H2 (some (.inl 1), H') ∧ few (14 * (k + 1)) (140 * (k + 1)) H H' := by
        intro w' H2 li2 fw
        obtain ⟨H', a1, a2⟩ := ih (i + 8) w' H2 li2 (by omega) (by omega)
        refine ⟨H', ?_, ?_⟩
        · iterate 2 (refine ev_st rfl rfl ?_)
          exact a1
        · have := fw.tr a2
          exact this.up (by omega) (by omega)
      generalize hx : a_and (f i) 15 = x at *
      by_cases v0 : w32 x = 0
      · obtain ⟨v, w', H1, H2, c1, c2, li2, fw, hb1, -, hrf, fs, hmd⟩ := li.send (hf (i + 1)) (hf (i + 2)) (hf (i + 3)) (hf (i + 4)) (hf (i + 5))
        obtain ⟨H', go, fw2⟩ := next li2 fw
        refine ⟨H', pre ?_, fw2⟩
        refine ev_sw rfl (pc' := 96) (by simp only [ai_sw]; rw [if_pos v0]) rfl ?_
        iterate 1 (refine ev_st rfl rfl ?_)
        iterate 4 (refine ev_st rfl rfl ?_)
        refine ev_iald (i + 1) rfl hb (by simp only [w32]; omega) (by omega) ?_
        iterate 4 (refine ev_st rfl rfl ?_)
        refine ev_iald (i + 2) rfl hb (by simp only [w32]; omega) (by omega) ?_
        iterate 4 (refine ev_st rfl rfl ?_)
        refine ev_iald (i + 3) rfl hb (by simp only [w32]; omega) (by omega) ?_
        iterate 4 (refine ev_st rfl rfl ?_)
        refine ev_iald (i + 4) rfl hb (by simp only [w32]; omega) (by omega) ?_
        iterate 4 (refine ev_st rfl rfl ?_)
        refine ev_iald (i + 5) rfl hb (by simp only [w32]; omega) (by omega) ?_
        refine ev_callV rfl rfl hrf rfl c1 ?_
        iterate 1 (refine ev_st rfl rfl ?_)
        iterate 4 (refine ev_st rfl rfl ?_)
        refine ev_iald (i + 1) rfl hb1 (by simp only [w32]; omega) (by omega) ?_
        iterate 4 (refine ev_st rfl rfl ?_)
        refine ev_iald (i + 2) rfl hb1 (by simp only [w32]; omega) (by omega) ?_
        iterate 4 (refine ev_st rfl rfl ?_)
        refine ev_iald (i + 3) rfl hb1 (by simp only [w32]; omega) (by omega) ?_
        iterate 4 (refine ev_st rfl rfl ?_)
        refine ev_iald (i + 4) rfl hb1 (by simp only [w32]; omega) (by omega) ?_
        iterate 4 (refine ev_st rfl rfl ?_)
        refine ev_iald (i + 5) rfl hb1 (by simp only [w32]; omega) (by omega) ?_
        refine ev_callV rfl rfl hmd rfl c2 ?_
        refine ev_icT rfl rfl ?_
        exact go
      by_cases v1 : w32 x = 1
      · obtain ⟨v, w', H1, H2, c1, c2, li2, fw, hb1, -, hrf, fs, hmd⟩ := li.forge (hf (i + 1)) (hf (i + 2)) (hf (i + 3)) (hf (i + 4)) (hf (i + 5)) (hf (i + 6)) (hf (i + 7))
        obtain ⟨H', go, fw2⟩ := next li2 fw
        refine ⟨H', pre ?_, fw2⟩
        refine ev_sw rfl (pc' := 159) (by simp only [ai_sw]; rw [if_neg v0, if_pos v1]) rfl ?_
        iterate 1 (refine ev_st rfl rfl ?_)
        iterate 4 (refine ev_st rfl rfl ?_)
        refine ev_iald (i + 1) rfl hb (by simp only [w32]; omega) (by omega) ?_
        iterate 4 (refine ev_st rfl rfl ?_)
        refine ev_iald (i + 2) rfl hb (by simp only [w32]; omega) (by omega) ?_
        iterate 4 (refine ev_st rfl rfl ?_)
        refine ev_iald (i + 3) rfl hb (by simp only [w32]; omega) (by omega) ?_
        iterate 4 (refine ev_st rfl rfl ?_)
        refine ev_iald (i + 4) rfl hb (by simp only [w32]; omega) (by omega) ?_
        iterate 4 (refine ev_st rfl rfl ?_)
        refine ev_iald (i + 5) rfl hb (by simp only [w32]; omega) (by omega) ?_
        iterate 4 (refine ev_st rfl rfl ?_)
        refine ev_iald (i + 6) rfl hb (by simp only [w32]; omega) (by omega) ?_
        iterate 4 (refine ev_st rfl rfl ?_)
        refine ev_iald (i + 7) rfl hb (by simp only [w32]; omega) (by omega) ?_
        refine ev_callV rfl rfl hrf rfl c1 ?_
        iterate 1 (refine ev_st rfl rfl ?_)
        iterate 4 (refine ev_st rfl rfl ?_)
        refine ev_iald (i + 1) rfl hb1 (by simp only [w32]; omega) (by omega) ?_
        iterate 4 (refine ev_st rfl rfl ?_)
        refine ev_iald (i + 2) rfl hb1 (by simp only [w32]; omega) (by omega) ?_
        iterate 4 (refine ev_st rfl rfl ?_)
        refine ev_iald (i + 3) rfl hb1 (by simp only [w32]; omega) (by omega) ?_
        iterate 4 (refine ev_st rfl rfl ?_)
        refine ev_iald (i + 4) rfl hb1 (by simp only [w32]; omega) (by omega) ?_
        iterate 4 (refine ev_st rfl rfl ?_)
        refine ev_iald (i + 5) rfl hb1 (by simp only [w32]; omega) (by omega) ?_
        iterate 4 (refine ev_st rfl rfl ?_)
        refine ev_iald (i + 6) rfl hb1 (by simp only [w32]; omega) (by omega) ?_
        iterate 4 (refine ev_st rfl rfl ?_)
        refine ev_iald (i + 7) rfl hb1 (by simp only [w32]; omega) (by omega) ?_
        refine ev_callV rfl rfl hmd rfl c2 ?_
        refine ev_icT rfl rfl ?_
        exact go
      by_cases v2 : w32 x = 2
      · obtain ⟨v, w', H1, H2, c1, c2, li2, fw, hb1, -, hrf, fs, hmd⟩ := li.deliver (hf (i + 1)) (hf (i + 2))
        obtain ⟨H', go, fw2⟩ := next li2 fw
        refine ⟨H', pre ?_, fw2⟩
        refine ev_sw rfl (pc' := 246) (by simp only [ai_sw]; rw [if_neg v0, if_neg v1, if_pos v2]) rfl ?_
        iterate 1 (refine ev_st rfl rfl ?_)
        iterate 4 (refine ev_st rfl rfl ?_)
        refine ev_iald (i + 1) rfl hb (by simp only [w32]; omega) (by omega) ?_
        iterate 4 (refine ev_st rfl rfl ?_)
        refine ev_iald (i + 2) rfl hb (by simp only [w32]; omega) (by omega) ?_
        refine ev_callV rfl rfl hrf rfl c1 ?_
        iterate 1 (refine ev_st rfl rfl ?_)
        iterate 4 (refine ev_st rfl rfl ?_)
        refine ev_iald (i + 1) rfl hb1 (by simp only [w32]; omega) (by omega) ?_
        iterate 4 (refine ev_st rfl rfl ?_)
        refine ev_iald (i + 2) rfl hb1 (by simp only [w32]; omega) (by omega) ?_
        refine ev_callV rfl rfl hmd rfl c2 ?_
        refine ev_icT rfl rfl ?_
        exact go
      by_cases v3 : w32 x = 3
      · obtain ⟨v, w', H1, H2, c1, c2, li2, fw, hb1, -, hrf, fs, hmd⟩ := li.sync (hf (i + 1)) (hf (i + 2))
        obtain ⟨H', go, fw2⟩ := next li2 fw
        refine ⟨H', pre ?_, fw2⟩
        refine ev_sw rfl (pc' := 279) (by simp only [ai_sw]; rw [if_neg v0, if_neg v1, if_neg v2, if_pos v3]) rfl ?_
        iterate 1 (refine ev_st rfl rfl ?_)
        iterate 4 (refine ev_st rfl rfl ?_)
        refine ev_iald (i + 1) rfl hb (by simp only [w32]; omega) (by omega) ?_
        iterate 4 (refine ev_st rfl rfl ?_)
        refine ev_iald (i + 2) rfl hb (by simp only [w32]; omega) (by omega) ?_
        refine ev_callV rfl rfl hrf rfl c1 ?_
        iterate 1 (refine ev_st rfl rfl ?_)
        iterate 4 (refine ev_st rfl rfl ?_)
        refine ev_iald (i + 1) rfl hb1 (by simp only [w32]; omega) (by omega) ?_
        iterate 4 (refine ev_st rfl rfl ?_)
        refine ev_iald (i + 2) rfl hb1 (by simp only [w32]; omega) (by omega) ?_
        refine ev_callV rfl rfl hmd rfl c2 ?_
        refine ev_icT rfl rfl ?_
        exact go
      by_cases v4 : w32 x = 4
      · obtain ⟨v, w', H1, H2, c1, c2, li2, fw, hb1, -, hrf, fs, hmd⟩ := li.state (hf (i + 1)) (hf (i + 2)) (hf (i + 3))
        obtain ⟨H', go, fw2⟩ := next li2 fw
        refine ⟨H', pre ?_, fw2⟩
        refine ev_sw rfl (pc' := 312) (by simp only [ai_sw]; rw [if_neg v0, if_neg v1, if_neg v2, if_neg v3, if_pos v4]) rfl ?_
        iterate 1 (refine ev_st rfl rfl ?_)
        iterate 4 (refine ev_st rfl rfl ?_)
        refine ev_iald (i + 1) rfl hb (by simp only [w32]; omega) (by omega) ?_
        iterate 4 (refine ev_st rfl rfl ?_)
        refine ev_iald (i + 2) rfl hb (by simp only [w32]; omega) (by omega) ?_
        iterate 4 (refine ev_st rfl rfl ?_)
        refine ev_iald (i + 3) rfl hb (by simp only [w32]; omega) (by omega) ?_
        refine ev_callV rfl rfl hrf rfl c1 ?_
        iterate 1 (refine ev_st rfl rfl ?_)
        iterate 4 (refine ev_st rfl rfl ?_)
        refine ev_iald (i + 1) rfl hb1 (by simp only [w32]; omega) (by omega) ?_
        iterate 4 (refine ev_st rfl rfl ?_)
        refine ev_iald (i + 2) rfl hb1 (by simp only [w32]; omega) (by omega) ?_
        iterate 4 (refine ev_st rfl rfl ?_)
        refine ev_iald (i + 3) rfl hb1 (by simp only [w32]; omega) (by omega) ?_
        refine ev_callV rfl rfl hmd rfl c2 ?_
        refine ev_icT rfl rfl ?_
        exact go
      by_cases v5 : w32 x = 5
      · obtain ⟨v, w', H1, H2, c1, c2, li2, fw, hb1, -, hrf, fs, hmd⟩ := li.before (hf (i + 1)) (hf (i + 2)) (hf (i + 3))
        obtain ⟨H', go, fw2⟩ := next li2 fw
        refine ⟨H', pre ?_, fw2⟩
        refine ev_sw rfl (pc' := 355) (by simp only [ai_sw]; rw [if_neg v0, if_neg v1, if_neg v2, if_neg v3, if_neg v4, if_pos v5]) rfl ?_
        iterate 1 (refine ev_st rfl rfl ?_)
        iterate 4 (refine ev_st rfl rfl ?_)
        refine ev_iald (i + 1) rfl hb (by simp only [w32]; omega) (by omega) ?_
        iterate 4 (refine ev_st rfl rfl ?_)
        refine ev_iald (i + 2) rfl hb (by simp only [w32]; omega) (by omega) ?_
        iterate 4 (refine ev_st rfl rfl ?_)
        refine ev_iald (i + 3) rfl hb (by simp only [w32]; omega) (by omega) ?_
        refine ev_callV rfl rfl hrf rfl c1 ?_
        iterate 1 (refine ev_st rfl rfl ?_)
        iterate 4 (refine ev_st rfl rfl ?_)
        refine ev_iald (i + 1) rfl hb1 (by simp only [w32]; omega) (by omega) ?_
        iterate 4 (refine ev_st rfl rfl ?_)
        refine ev_iald (i + 2) rfl hb1 (by simp only [w32]; omega) (by omega) ?_
        iterate 4 (refine ev_st rfl rfl ?_)
        refine ev_iald (i + 3) rfl hb1 (by simp only [w32]; omega) (by omega) ?_
        refine ev_callV rfl rfl hmd rfl c2 ?_
        refine ev_icT rfl rfl ?_
        exact go
      by_cases v6 : w32 x = 6
      · obtain ⟨v, w', H1, H2, c1, c2, li2, fw, hb1, -, hrf, fs, hmd⟩ := li.look (hf (i + 1)) (hf (i + 2))
        obtain ⟨H', go, fw2⟩ := next li2 fw
        refine ⟨H', pre ?_, fw2⟩
        refine ev_sw rfl (pc' := 398) (by simp only [ai_sw]; rw [if_neg v0, if_neg v1, if_neg v2, if_neg v3, if_neg v4, if_neg v5, if_pos v6]) rfl ?_
        iterate 1 (refine ev_st rfl rfl ?_)
        iterate 4 (refine ev_st rfl rfl ?_)
        refine ev_iald (i + 1) rfl hb (by simp only [w32]; omega) (by omega) ?_
        iterate 4 (refine ev_st rfl rfl ?_)
        refine ev_iald (i + 2) rfl hb (by simp only [w32]; omega) (by omega) ?_
        refine ev_callV rfl rfl hrf rfl c1 ?_
        iterate 1 (refine ev_st rfl rfl ?_)
        iterate 4 (refine ev_st rfl rfl ?_)
        refine ev_iald (i + 1) rfl hb1 (by simp only [w32]; omega) (by omega) ?_
        iterate 4 (refine ev_st rfl rfl ?_)
        refine ev_iald (i + 2) rfl hb1 (by simp only [w32]; omega) (by omega) ?_
        refine ev_callV rfl rfl hmd rfl c2 ?_
        refine ev_icT rfl rfl ?_
        exact go
      by_cases v7 : w32 x = 7
      · obtain ⟨v, w', H1, H2, c1, c2, li2, fw, hb1, -, hrf, fs, hmd⟩ := li.level (hf (i + 1)) (hf (i + 2))
        obtain ⟨H', go, fw2⟩ := next li2 fw
        refine ⟨H', pre ?_, fw2⟩
        refine ev_sw rfl (pc' := 431) (by simp only [ai_sw]; rw [if_neg v0, if_neg v1, if_neg v2, if_neg v3, if_neg v4, if_neg v5, if_neg v6, if_pos v7]) rfl ?_
        iterate 1 (refine ev_st rfl rfl ?_)
        iterate 4 (refine ev_st rfl rfl ?_)
        refine ev_iald (i + 1) rfl hb (by simp only [w32]; omega) (by omega) ?_
        iterate 4 (refine ev_st rfl rfl ?_)
        refine ev_iald (i + 2) rfl hb (by simp only [w32]; omega) (by omega) ?_
        refine ev_callV rfl rfl hrf rfl c1 ?_
        iterate 1 (refine ev_st rfl rfl ?_)
        iterate 4 (refine ev_st rfl rfl ?_)
        refine ev_iald (i + 1) rfl hb1 (by simp only [w32]; omega) (by omega) ?_
        iterate 4 (refine ev_st rfl rfl ?_)
        refine ev_iald (i + 2) rfl hb1 (by simp only [w32]; omega) (by omega) ?_
        refine ev_callV rfl rfl hmd rfl c2 ?_
        refine ev_icT rfl rfl ?_
        exact go
      by_cases v8 : w32 x = 8
      · obtain ⟨v, w', H1, H2, c1, c2, li2, fw, hb1, -, hrf, fs, hmd⟩ := li.knows (hf (i + 1)) (hf (i + 2))
        obtain ⟨H', go, fw2⟩ := next li2 fw
        refine ⟨H', pre ?_, fw2⟩
        refine ev_sw rfl (pc' := 464) (by simp only [ai_sw]; rw [if_neg v0, if_neg v1, if_neg v2, if_neg v3, if_neg v4, if_neg v5, if_neg v6, if_neg v7, if_pos v8]) rfl ?_
        iterate 1 (refine ev_st rfl rfl ?_)
        iterate 4 (refine ev_st rfl rfl ?_)
        refine ev_iald (i + 1) rfl hb (by simp only [w32]; omega) (by omega) ?_
        iterate 4 (refine ev_st rfl rfl ?_)
        refine ev_iald (i + 2) rfl hb (by simp only [w32]; omega) (by omega) ?_
        refine ev_callV rfl rfl hrf rfl c1 ?_
        iterate 1 (refine ev_st rfl rfl ?_)
        iterate 4 (refine ev_st rfl rfl ?_)
        refine ev_iald (i + 1) rfl hb1 (by simp only [w32]; omega) (by omega) ?_
        iterate 4 (refine ev_st rfl rfl ?_)
        refine ev_iald (i + 2) rfl hb1 (by simp only [w32]; omega) (by omega) ?_
        refine ev_callV rfl rfl hmd rfl c2 ?_
        refine ev_icT rfl rfl ?_
        exact go
      by_cases v9 : w32 x = 9
      · obtain ⟨v, w', H1, H2, c1, c2, li2, fw, hb1, -, hrf, fs, hmd⟩ := li.head (hf (i + 1)) (hf (i + 2))
        obtain ⟨H', go, fw2⟩ := next li2 fw
        refine ⟨H', pre ?_, fw2⟩
        refine ev_sw rfl (pc' := 497) (by simp only [ai_sw]; rw [if_neg v0, if_neg v1, if_neg v2, if_neg v3, if_neg v4, if_neg v5, if_neg v6, if_neg v7, if_neg v8, if_pos v9]) rfl ?_
        iterate 1 (refine ev_st rfl rfl ?_)
        iterate 4 (refine ev_st rfl rfl ?_)
        refine ev_iald (i + 1) rfl hb (by simp only [w32]; omega) (by omega) ?_
        iterate 4 (refine ev_st rfl rfl ?_)
        refine ev_iald (i + 2) rfl hb (by simp only [w32]; omega) (by omega) ?_
        refine ev_callV rfl rfl hrf rfl c1 ?_
        iterate 1 (refine ev_st rfl rfl ?_)
        iterate 4 (refine ev_st rfl rfl ?_)
        refine ev_iald (i + 1) rfl hb1 (by simp only [w32]; omega) (by omega) ?_
        iterate 4 (refine ev_st rfl rfl ?_)
        refine ev_iald (i + 2) rfl hb1 (by simp only [w32]; omega) (by omega) ?_
        refine ev_callV rfl rfl hmd rfl c2 ?_
        refine ev_icT rfl rfl ?_
        exact go
      by_cases v10 : w32 x = 10
      · obtain ⟨v, w', H1, H2, c1, c2, li2, fw, hb1, -, hrf, fs, hmd⟩ := li.count (hf (i + 1)) (hf (i + 2))
        obtain ⟨H', go, fw2⟩ := next li2 fw
        refine ⟨H', pre ?_, fw2⟩
        refine ev_sw rfl (pc' := 530) (by simp only [ai_sw]; rw [if_neg v0, if_neg v1, if_neg v2, if_neg v3, if_neg v4, if_neg v5, if_neg v6, if_neg v7, if_neg v8, if_neg v9, if_pos v10]) rfl ?_
        iterate 1 (refine ev_st rfl rfl ?_)
        iterate 4 (refine ev_st rfl rfl ?_)
        refine ev_iald (i + 1) rfl hb (by simp only [w32]; omega) (by omega) ?_
        iterate 4 (refine ev_st rfl rfl ?_)
        refine ev_iald (i + 2) rfl hb (by simp only [w32]; omega) (by omega) ?_
        refine ev_callV rfl rfl hrf rfl c1 ?_
        iterate 1 (refine ev_st rfl rfl ?_)
        iterate 4 (refine ev_st rfl rfl ?_)
        refine ev_iald (i + 1) rfl hb1 (by simp only [w32]; omega) (by omega) ?_
        iterate 4 (refine ev_st rfl rfl ?_)
        refine ev_iald (i + 2) rfl hb1 (by simp only [w32]; omega) (by omega) ?_
        refine ev_callV rfl rfl hmd rfl c2 ?_
        refine ev_icT rfl rfl ?_
        exact go
      by_cases v11 : w32 x = 11
      · obtain ⟨v, w', H1, H2, c1, c2, li2, fw, hb1, -, hrf, fs, hmd⟩ := li.events 
        obtain ⟨H', go, fw2⟩ := next li2 fw
        refine ⟨H', pre ?_, fw2⟩
        refine ev_sw rfl (pc' := 563) (by simp only [ai_sw]; rw [if_neg v0, if_neg v1, if_neg v2, if_neg v3, if_neg v4, if_neg v5, if_neg v6, if_neg v7, if_neg v8, if_neg v9, if_neg v10, if_pos v11]) rfl ?_
        iterate 1 (refine ev_st rfl rfl ?_)
        refine ev_callV rfl rfl hrf rfl c1 ?_
        iterate 1 (refine ev_st rfl rfl ?_)
        refine ev_callV rfl rfl hmd rfl c2 ?_
        refine ev_icT rfl rfl ?_
        exact go
      obtain ⟨H', go, fw2⟩ := next li (few.rf (k := 14) (n := 140))
      refine ⟨H', pre ?_, fw2⟩
      refine ev_sw rfl (pc' := 576) (by simp only [ai_sw]; rw [if_neg v0, if_neg v1, if_neg v2, if_neg v3, if_neg v4, if_neg v5, if_neg v6, if_neg v7, if_neg v8, if_neg v9, if_neg v10, if_neg v11]) rfl ?_
      exact go
    · refine ⟨H, ?_, few.rf⟩
      iterate 2 (refine ev_st rfl rfl ?_)
      refine ev_alen rfl hb ?_
      iterate 2 (refine ev_st rfl rfl ?_)
      refine ev_icT rfl (by simp only [ick, w32]; omega) ?_
      iterate 1 (refine ev_st rfl rfl ?_)
      exact ev_rt rfl rfl rfl
