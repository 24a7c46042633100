-- the reference: noteFull, findConflict
def kx (S : List Nat) (C C' : RM) : Prop := (∀ i, i ∉ S → C'.1 i = C.1 i) ∧ C'.2 = C.2
theorem kx.rf {S : List Nat} {C : RM} : kx S C C := ⟨fun _ _ => rfl, rfl⟩
theorem kx.tr {S : List Nat} {C C1 C2 : RM} (p : kx S C C1) (q : kx S C1 C2) : kx S C C2 := ⟨fun i hi => (q.1 i hi).trans (p.1 i hi), q.2.trans p.2⟩
theorem kx.u {S : List Nat} {C : RM} {i : Nat} {f : Nat → Int} (hi : i ∈ S) : kx S C (rU C i f) := ⟨fun j hj => rU_ne (fun e => hj (e ▸ hi)), rfl⟩
theorem kx.mono {S S' : List Nat} {C C' : RM} (q : kx S C C') (h : ∀ i ∈ S, i ∈ S') : kx S' C C' := ⟨fun i hi => q.1 i (fun z => hi (h i z)), q.2⟩
theorem kx.kq {S : List Nat} {C C' : RM} (q : kx S C C') (h : ∀ i ∈ S, 18 ≤ i) : kq C C' := ⟨fun i hi => q.1 i (fun z => by have := h i z; omega), by rw [q.2]⟩
theorem rE.kx {S : List Nat} {C C' : RM} {N : Nat} {E : EL} (q : rE C N E) (hP : PW N E) (k : kx S C C') (h : ∀ i ∈ S, 18 ≤ i) : rE C' N E := q.kp hP (k.kq h).kp
abbrev S_c : List Nat := [21, 22, 24]
theorem S_c18 : ∀ i ∈ S_c, 18 ≤ i := by decide
theorem beq_ne {a b : Nat} (h : ¬ a = b) : Nat.beq a b = false := by
  cases hz : Nat.beq a b
  · rfl
  · exact absurd (Nat.eq_of_beq_eq_true hz) h
def cfx (C : RM) (N : Nat) (F0 : Nat → Int) (s : Nat → Bool) : Prop := (∀ z, z < N → C.1 24 z = b2 (s z)) ∧ ∀ z, z < N → C.1 21 z = F0 z + b2 (s z)
theorem b2_r (b : Bool) : 0 ≤ b2 b ∧ b2 b ≤ 1 := by cases b <;> decide
theorem b2_01 (b : Bool) : b2 b = 0 ∨ b2 b = 1 := by cases b <;> simp
theorem c_mnote {h : AH} {M N x : Nat} {C : RM} {F0 : Nat → Int} {s : Nat → Bool} (hN : N ≤ 400) (hx : x < N) (q : cfx C N F0 s) : ∃ C', Em mMd_noteFull 0 [vR M, .inl (x : Int)] (hM h M C) none (hM h M C') ∧ kx S_c C C' ∧ C'.1 22 = C.1 22 ∧ cfx C' N F0 (f_on s x) := by
  have e1 := q.1 x hx
  have e2 := q.2 x hx
  by_cases hs : s x = true
  · refine ⟨C, ?_, kx.rf, rfl, ?_⟩
    · show Ev tMd_noteFull 0 [some (vR M), some (.inl (x : Int))] [] _ _
      iterate 1 (refine ev_st rfl rfl ?_)
      refine ev_getf rfl hM_0 (by rfl) ?_
      iterate 1 (refine ev_st rfl rfl ?_)
      refine ev_iald x rfl hA24 (by simp only [w32]; omega) (by omega) ?_
      rw [e1]
      refine ev_zeqF rfl hs ?_
      exact ev_rt rfl rfl rfl
    · have : f_on s x = s := by
        funext y
        unfold f_on
        cases hb : Nat.beq y x
        · rfl
        · rw [Nat.eq_of_beq_eq_true hb, hs]; rfl
      rw [this]; exact q
  · rw [Bool.not_eq_true] at hs
    refine ⟨rU (rU C 24 (va_up (C.1 24) x 1)) 21 (va_up (C.1 21) x (C.1 21 x + 1)), ?_, (kx.u (by decide)).tr (kx.u (by decide)), rfl, ?_⟩
    · show Ev tMd_noteFull 0 [some (vR M), some (.inl (x : Int))] [] _ _
      iterate 1 (refine ev_st rfl rfl ?_)
      refine ev_getf rfl hM_0 (by rfl) ?_
      iterate 1 (refine ev_st rfl rfl ?_)
      refine ev_iald x rfl hA24 (by simp only [w32]; omega) (by omega) ?_
      rw [e1]
      refine ev_zeqT rfl hs ?_
      iterate 1 (refine ev_st rfl rfl ?_)
      refine ev_getf rfl hM_0 (by rfl) ?_
      iterate 2 (refine ev_st rfl rfl ?_)
      refine ev_bast x rfl hA24 (by simp only [w32]; omega) (by omega) (Or.inr rfl) ?_
      rw [hP24]
      iterate 1 (refine ev_st rfl rfl ?_)
      refine ev_getf rfl hM_0 (by rfl) ?_
      iterate 2 (refine ev_st rfl rfl ?_)
      refine ev_iald x rfl hA21 (by simp only [w32]; omega) (by omega) ?_
      iterate 2 (refine ev_st rfl rfl ?_)
      refine ev_iast x rfl hA21 (by simp only [w32]; omega) (by omega) ?_
      rw [hP21]
      exact ev_rt rfl rfl rfl
    · constructor
      · intro z hz
        show va_up (C.1 24) x 1 z = _
        simp only [va_up]
        unfold f_on
        by_cases e : z = x
        · rw [if_pos e, e, show Nat.beq x x = true from Nat.beq_refl x]; rfl
        · rw [if_neg e, q.1 z hz, show Nat.beq z x = false from beq_ne e]; rfl
      · intro z hz
        show va_up (C.1 21) x (C.1 21 x + 1) z = _
        simp only [va_up]
        unfold f_on
        by_cases e : z = x
        · rw [if_pos e, e, show Nat.beq x x = true from Nat.beq_refl x, e2, hs]
          show F0 x + 0 + 1 = F0 x + 1
          omega
        · rw [if_neg e, q.2 z hz, show Nat.beq z x = false from beq_ne e]; rfl
theorem f_on_i {f : Nat → Bool} {x y : Nat} : f_on f x y = true ↔ y = x ∨ f y = true := by
  unfold f_on
  by_cases e : y = x
  · rw [e, show Nat.beq x x = true from Nat.beq_refl x]; simp
  · rw [show Nat.beq y x = false from beq_ne e]; simp [e]
theorem l_cy {h : AH} {M N x : Nat} {E : EL} {F0 : Nat → Int} (hN : N ≤ 400) (hP : PW N E) (hx : x < N) {j1 j2 : Option AV} : ∀ (k y : Nat) (C : RM) (s : Nat → Bool), y + k = N → rE C N E → cfx C N F0 s → ∃ C' s', (kx S_c C C' ∧ C'.1 22 = C.1 22 ∧ cfx C' N F0 s' ∧ ∀ z, z < N → (s' z = true ↔ s z = true ∨ (y ≤ z ∧ e_ch (E x) z = true))) ∧ ∀ {o : Option AV × AH}, Ev tMd_findConflict 156 [some (vR M), j1, j2, some (.inl (x : Int)), some (.inl (N : Int))] [] (hM h M C') o → Ev tMd_findConflict 119 [some (vR M), j1, j2, some (.inl (x : Int)), some (.inl (y : Int))] [] (hM h M C) o := by
  intro k
  induction k with
  | zero =>
    intro y C s hy q c
    obtain rfl : y = N := by omega
    refine ⟨C, s, ⟨kx.rf, rfl, c, fun z hz => ⟨Or.inl, ?_⟩⟩, fun {o} hgo => ?_⟩
    · rintro (w | w)
      · exact w
      · omega
    · iterate 2 (refine ev_st rfl rfl ?_)
      refine ev_getf rfl hM_0 (by rfl) ?_
      rw [q.1]
      refine ev_icT rfl (by simp only [ick, w32]; omega) ?_
      exact hgo
  | succ k ih =>
    intro y C s hy q c
    have e10 := (q.2 x hx).2.2.2.2.1 y (by omega)
    by_cases hc : e_ch (E x) y = true
    · obtain ⟨C1, c1, k1, k22, d1⟩ := c_mnote (h := h) (M := M) (x := y) hN (by omega) c
      obtain ⟨C', s', ⟨k2, k22', d2, i2⟩, hgo'⟩ := ih (y + 1) C1 (f_on s y) (by omega) (q.kx hP k1 S_c18) d1
      refine ⟨C', s', ⟨k1.tr k2, k22'.trans k22, d2, fun z hz => ?_⟩, fun {o} hgo => ?_⟩
      · rw [i2 z hz, f_on_i]
        constructor
        · rintro ((w | w) | w)
          · subst w; exact Or.inr ⟨Nat.le_refl _, hc⟩
          · exact Or.inl w
          · exact Or.inr ⟨by omega, w.2⟩
        · rintro (w | w)
          · exact Or.inl (Or.inr w)
          · by_cases e : z = y
            · exact Or.inl (Or.inl e)
            · exact Or.inr ⟨by omega, w.2⟩
      · iterate 2 (refine ev_st rfl rfl ?_)
        refine ev_getf rfl hM_0 (by rfl) ?_
        rw [q.1]
        refine ev_icF rfl (by simp only [ick, w32]; omega) ?_
        iterate 1 (refine ev_st rfl rfl ?_)
        refine ev_getf rfl hM_0 (by rfl) ?_
        iterate 5 (refine ev_st rfl rfl ?_)
        refine ev_iald (400 * x + y) rfl hA10 (by simp only [w32]; omega) (by omega) ?_
        rw [e10]
        refine ev_zeqF rfl hc ?_
        iterate 2 (refine ev_st rfl rfl ?_)
        refine ev_callV rfl rfl hM_0 rfl c1 ?_
        iterate 2 (refine ev_st rfl rfl ?_)
        exact hgo' hgo
    · obtain ⟨C', s', ⟨k2, k22', d2, i2⟩, hgo'⟩ := ih (y + 1) C s (by omega) q c
      refine ⟨C', s', ⟨k2, k22', d2, fun z hz => ?_⟩, fun {o} hgo => ?_⟩
      · rw [i2 z hz]
        constructor
        · rintro (w | w)
          · exact Or.inl w
          · exact Or.inr ⟨by omega, w.2⟩
        · rintro (w | w)
          · exact Or.inl w
          · by_cases e : z = y
            · subst e; exact absurd w.2 hc
            · exact Or.inr ⟨by omega, w.2⟩
      · iterate 2 (refine ev_st rfl rfl ?_)
        refine ev_getf rfl hM_0 (by rfl) ?_
        rw [q.1]
        refine ev_icF rfl (by simp only [ick, w32]; omega) ?_
        iterate 1 (refine ev_st rfl rfl ?_)
        refine ev_getf rfl hM_0 (by rfl) ?_
        iterate 5 (refine ev_st rfl rfl ?_)
        refine ev_iald (400 * x + y) rfl hA10 (by simp only [w32]; omega) (by omega) ?_
        rw [e10]
        refine ev_zeqT rfl (by simpa using hc) ?_
        iterate 2 (refine ev_st rfl rfl ?_)
        exact hgo' hgo
def rO (C : RM) (L : List Nat) : Prop := C.2.2.1 = (L.length : Int) ∧ ∀ i, i < L.length → C.1 18 i = (L.getD i 0 : Nat)
theorem rO.kx {S : List Nat} {C C' : RM} {L : List Nat} (q : rO C L) (k : kx S C C') (h : 18 ∉ S) : rO C' L := ⟨by rw [k.2]; exact q.1, fun i hi => by rw [k.1 18 h]; exact q.2 i hi⟩
theorem l_cp {h : AH} {M N : Nat} {E : EL} {L : List Nat} {ag : SS} {F0 : Nat → Int} (hN : N ≤ 400) (hP : PW N E) (hB : BW N E) (hl : ∀ n ∈ L, n < N) (hL : L.length ≤ 400) {i : Nat} (hi : i < L.length) (har : ∀ p, p < 23 → -1 ≤ ag p ∧ ag p < 400) : ∀ (k p : Nat) (C : RM) (s kf : Nat → Bool) (j3 j4 : Option AV), p + k = 23 → rE C N E → rO C L → (∀ p, p < 23 → C.1 20 p = ag p) → cfx C N F0 s → (∀ z, z < N → C.1 22 z = b2 (kf z)) → ∃ (C' : RM) (s' kf' : Nat → Bool) (j3' j4' : Option AV), (kx S_c C C' ∧ cfx C' N F0 s' ∧ (∀ z, z < N → C'.1 22 z = b2 (kf' z)) ∧ (∀ z, z < N → (s' z = true ↔ s z = true ∨ ∃ p', p ≤ p' ∧ p' < 23 ∧ 0 ≤ e_bh E (L.getD i 0) p' ∧ (e_bh E (L.getD i 0) p' = z ∨ e_ch (E (e_bh E (L.getD i 0) p').toNat) z = true))) ∧ ∀ z, z < N → (kf' z = true ↔ kf z = true ∨ ∃ p', p ≤ p' ∧ p' < 23 ∧ e_bh E (L.getD i 0) p' = z ∧ ag p' < 0)) ∧ ∀ {o : Option AV × AH}, Ev tMd_findConflict 162 [some (vR M), some (.inl (i : Int)), some (.inl 23), j3', j4'] [] (hM h M C') o → Ev tMd_findConflict 65 [some (vR M), some (.inl (i : Int)), some (.inl (p : Int)), j3, j4] [] (hM h M C) o := by
  have hn := hl _ (getD_mem hi)
  intro k
  induction k with
  | zero =>
    intro p C s kf j3 j4 hp q ro ra c kc
    obtain rfl : p = 23 := by omega
    refine ⟨C, s, kf, j3, j4, ⟨kx.rf, c, kc, fun z hz => ⟨Or.inl, ?_⟩, fun z hz => ⟨Or.inl, ?_⟩⟩, fun {o} hgo => ?_⟩
    · rintro (w | ⟨p', w1, w2, -⟩)
      · exact w
      · omega
    · rintro (w | ⟨p', w1, w2, -⟩)
      · exact w
      · omega
    · iterate 2 (refine ev_st rfl rfl ?_)
      refine ev_icT rfl (by simp only [ick, w32]; omega) ?_
      exact hgo
  | succ k ih =>
    intro p C s kf j3 j4 hp q ro ra c kc
    have e13 := (q.2 _ hn).2.2.2.2.2.2.2 p (by omega)
    have pre : ∀ {o : Option AV × AH}, Ev tMd_findConflict 89 [some (vR M), some (.inl (i : Int)), some (.inl (p : Int)), some (.inl (e_bh E (L.getD i 0) p)), j4] [.inl (e_bh E (L.getD i 0) p)] (hM h M C) o → Ev tMd_findConflict 65 [some (vR M), some (.inl (i : Int)), some (.inl (p : Int)), j3, j4] [] (hM h M C) o := by
      intro o hgo
      iterate 2 (refine ev_st rfl rfl ?_)
      refine ev_icF rfl (by simp only [ick, w32]; omega) ?_
      iterate 1 (refine ev_st rfl rfl ?_)
      refine ev_getf rfl hM_0 (by rfl) ?_
      iterate 2 (refine ev_st rfl rfl ?_)
      refine ev_getf rfl hM_0 (by rfl) ?_
      iterate 1 (refine ev_st rfl rfl ?_)
      refine ev_iald i rfl hA18 (by simp only [w32]; omega) (by omega) ?_
      rw [ro.2 i hi]
      iterate 3 (refine ev_st rfl rfl ?_)
      refine ev_iald (23 * L.getD i 0 + p) rfl hA13 (by simp only [w32]; omega) (by omega) ?_
      rw [e13]
      iterate 2 (refine ev_st rfl rfl ?_)
      exact hgo
    rcases (hB _ hn).at p with z | ⟨x, z1, z2, z3⟩
    · obtain ⟨C', s', kf', j3', j4', ⟨k1, d1, d2, i1, i2⟩, hgo'⟩ := ih (p + 1) C s kf (some (.inl (e_bh E (L.getD i 0) p))) j4 (by omega) q ro ra c kc
      refine ⟨C', s', kf', j3', j4', ⟨k1, d1, d2, fun y hy => ?_, fun y hy => ?_⟩, fun {o} hgo => pre ?_⟩
      · rw [i1 y hy]
        constructor
        · rintro (w | ⟨p', w1, w2, w3⟩)
          · exact Or.inl w
          · exact Or.inr ⟨p', by omega, w2, w3⟩
        · rintro (w | ⟨p', w1, w2, w3⟩)
          · exact Or.inl w
          · by_cases e : p' = p
            · subst e; omega
            · exact Or.inr ⟨p', by omega, w2, w3⟩
      · rw [i2 y hy]
        constructor
        · rintro (w | ⟨p', w1, w2, w3⟩)
          · exact Or.inl w
          · exact Or.inr ⟨p', by omega, w2, w3⟩
        · rintro (w | ⟨p', w1, w2, w3, w4⟩)
          · exact Or.inl w
          · by_cases e : p' = p
            · subst e; omega
            · exact Or.inr ⟨p', by omega, w2, w3, w4⟩
      · refine ev_ifF rfl (by simp only [ick, w32]; omega) ?_
        iterate 3 (refine ev_st rfl rfl ?_)
        exact hgo' hgo
    · rw [z2] at pre
      obtain ⟨C1, c1, k1, k22, d1⟩ := c_mnote (h := h) (M := M) (x := x) hN z1 c
      have q1 := q.kx hP k1 S_c18
      have ra1 : ∀ p, p < 23 → C1.1 20 p = ag p := fun p hp => by rw [k1.1 20 (by decide)]; exact ra p hp
      -- the conflict's mark
      have mark : ∃ (C2 : RM) (kf2 : Nat → Bool), (kx S_c C1 C2 ∧ cfx C2 N F0 (f_on s x) ∧ (∀ z, z < N → C2.1 22 z = b2 (kf2 z)) ∧ ∀ z, z < N → (kf2 z = true ↔ kf z = true ∨ (z = x ∧ ag p < 0))) ∧ ∀ {o : Option AV × AH}, Ev tMd_findConflict 119 [some (vR M), some (.inl (i : Int)), some (.inl (p : Int)), some (.inl (x : Int)), some (.inl ((0 : Nat) : Int))] [] (hM h M C2) o → Ev tMd_findConflict 100 [some (vR M), some (.inl (i : Int)), some (.inl (p : Int)), some (.inl (x : Int)), j4] [] (hM h M C1) o := by
        have hap := har p (by omega)
        by_cases ha : ag p < 0
        · refine ⟨rU C1 22 (va_up (C1.1 22) x 1), f_on kf x, ⟨kx.u (by decide), d1, fun z hz => ?_, fun z hz => ?_⟩, fun {o} hgo => ?_⟩
          · show va_up (C1.1 22) x 1 z = _
            rw [k22]
            simp only [va_up]
            unfold f_on
            by_cases e : z = x
            · rw [if_pos e, e, show Nat.beq x x = true from Nat.beq_refl x]; rfl
            · rw [if_neg e, kc z hz, show Nat.beq z x = false from beq_ne e]; rfl
          · rw [f_on_i]
            constructor
            · rintro (w | w)
              · exact Or.inr ⟨w, ha⟩
              · exact Or.inl w
            · rintro (w | w)
              · exact Or.inr w
              · exact Or.inl w.1
          · iterate 1 (refine ev_st rfl rfl ?_)
            refine ev_getf rfl hM_0 (by rfl) ?_
            iterate 1 (refine ev_st rfl rfl ?_)
            refine ev_iald p rfl hA20 (by simp only [w32]; omega) (by omega) ?_
            rw [ra1 p (by omega)]
            refine ev_ifF rfl (by simp only [ick, w32]; omega) ?_
            iterate 1 (refine ev_st rfl rfl ?_)
            refine ev_getf rfl hM_0 (by rfl) ?_
            iterate 2 (refine ev_st rfl rfl ?_)
            refine ev_bast x rfl hA22 (by simp only [w32]; omega) (by omega) (Or.inr rfl) ?_
            rw [hP22]
            iterate 2 (refine ev_st rfl rfl ?_)
            exact hgo
        · refine ⟨C1, kf, ⟨kx.rf, d1, fun z hz => by rw [k22]; exact kc z hz, fun z hz => ⟨Or.inl, ?_⟩⟩, fun {o} hgo => ?_⟩
          · rintro (w | w)
            · exact w
            · exact absurd w.2 ha
          · iterate 1 (refine ev_st rfl rfl ?_)
            refine ev_getf rfl hM_0 (by rfl) ?_
            iterate 1 (refine ev_st rfl rfl ?_)
            refine ev_iald p rfl hA20 (by simp only [w32]; omega) (by omega) ?_
            rw [ra1 p (by omega)]
            refine ev_ifT rfl (by simp only [ick, w32]; omega) ?_
            iterate 2 (refine ev_st rfl rfl ?_)
            exact hgo
      obtain ⟨C2, kf2, ⟨k2, d2, kc2, i2⟩, go2⟩ := mark
      have q2 := q1.kx hP k2 S_c18
      obtain ⟨C3, s3, ⟨k3, k22', d3, i3⟩, go3⟩ := l_cy (h := h) (M := M) (F0 := F0) hN hP z1 (j1 := some (.inl (i : Int))) (j2 := some (.inl (p : Int))) N 0 C2 (f_on s x) (by omega) q2 d2
      have q3 := q2.kx hP k3 S_c18
      have k13 := (k1.tr k2).tr k3
      obtain ⟨C', s', kf', j3', j4', ⟨k4, d4, d5, i4, i5⟩, go4⟩ := ih (p + 1) C3 s3 kf2 (some (.inl (x : Int))) (some (.inl (N : Int))) (by omega) q3 (ro.kx k13 (by decide)) (fun p hp => by rw [k13.1 20 (by decide)]; exact ra p hp) d3 (fun z hz => by rw [k22']; exact kc2 z hz)
      refine ⟨C', s', kf', j3', j4', ⟨k13.tr k4, d4, d5, fun y hy => ?_, fun y hy => ?_⟩, fun {o} hgo => pre ?_⟩
      · rw [i4 y hy, i3 y hy, f_on_i]
        constructor
        · rintro (((w | w) | w) | ⟨p', w1, w2, w3⟩)
          · subst w; exact Or.inr ⟨p, by omega, by omega, by omega, Or.inl z2⟩
          · exact Or.inl w
          · exact Or.inr ⟨p, by omega, by omega, by omega, Or.inr (by rw [z2, Int.toNat_natCast]; exact w.2)⟩
          · exact Or.inr ⟨p', by omega, w2, w3⟩
        · rintro (w | ⟨p', w1, w2, w3, w4⟩)
          · exact Or.inl (Or.inl (Or.inr w))
          · by_cases e : p' = p
            · subst e
              rw [z2, Int.toNat_natCast] at w4
              rcases w4 with w4 | w4
              · exact Or.inl (Or.inl (Or.inl (by omega)))
              · exact Or.inl (Or.inr ⟨by omega, w4⟩)
            · exact Or.inr ⟨p', by omega, w2, w3, w4⟩
      · rw [i5 y hy, i2 y hy]
        constructor
        · rintro ((w | w) | ⟨p', w1, w2, w3⟩)
          · exact Or.inl w
          · exact Or.inr ⟨p, by omega, by omega, by rw [z2, w.1], w.2⟩
          · exact Or.inr ⟨p', by omega, w2, w3⟩
        · rintro (w | ⟨p', w1, w2, w3, w4⟩)
          · exact Or.inl (Or.inl w)
          · by_cases e : p' = p
            · subst e
              exact Or.inl (Or.inr ⟨by omega, w4⟩)
            · exact Or.inr ⟨p', by omega, w2, w3, w4⟩
      · refine ev_ifT rfl (by simp only [ick, w32]; omega) ?_
        iterate 2 (refine ev_st rfl rfl ?_)
        refine ev_callV rfl rfl hM_0 rfl c1 ?_
        refine go2 (go3 ?_)
        iterate 2 (refine ev_st rfl rfl ?_)
        exact go4 hgo
