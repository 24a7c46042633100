-- the reference's cells: 29 arrays and four counts, written as a heap over a heap
abbrev RM : Type := (Nat → Nat → Int) × (Int × Int × Int × Int)
abbrev cMd (M : Nat) (C : Int × Int × Int × Int) : AE := .inr (7, [vR (M + 1), vR (M + 2), vR (M + 3), vR (M + 4), vR (M + 5), vR (M + 6), vR (M + 7), vR (M + 8), vR (M + 9), vR (M + 10), vR (M + 11), vR (M + 12), vR (M + 13), vR (M + 14), .inl C.1, vR (M + 15), vR (M + 16), vR (M + 17), vR (M + 18), vR (M + 19), .inl C.2.1, vR (M + 20), vR (M + 21), vR (M + 22), vR (M + 23), vR (M + 24), vR (M + 25), vR (M + 26), .inl C.2.2.1, vR (M + 27), vR (M + 28), vR (M + 29), .inl C.2.2.2])
def aT : Nat → Nat
  | 0 => 0
  | 1 => 0
  | 2 => 0
  | 3 => 0
  | 4 => 0
  | 5 => 0
  | 6 => 0
  | 7 => 0
  | 8 => 0
  | 9 => 0
  | 10 => 1
  | 11 => 1
  | 12 => 0
  | 13 => 0
  | 14 => 1
  | 15 => 1
  | 16 => 0
  | 17 => 0
  | 18 => 0
  | 19 => 0
  | 20 => 0
  | 21 => 0
  | 22 => 1
  | 23 => 1
  | 24 => 1
  | 25 => 0
  | 26 => 0
  | 27 => 0
  | 28 => 0
  | _ => 0
def aLn : Nat → Nat
  | 0 => 400
  | 1 => 400
  | 2 => 400
  | 3 => 400
  | 4 => 400
  | 5 => 1600
  | 6 => 400
  | 7 => 2400
  | 8 => 400
  | 9 => 4800
  | 10 => 160000
  | 11 => 400
  | 12 => 9200
  | 13 => 9200
  | 14 => 1600
  | 15 => 1600
  | 16 => 4
  | 17 => 92
  | 18 => 400
  | 19 => 23
  | 20 => 23
  | 21 => 400
  | 22 => 400
  | 23 => 400
  | 24 => 400
  | 25 => 400
  | 26 => 23
  | 27 => 23
  | 28 => 6
  | _ => 0
def hM (h : AH) (M : Nat) (C : RM) : AH := (h.1, h.2.1, fun a => if a = M then some (cMd M C.2) else if M < a ∧ a < M + 30 then some (.inl (aT (a - M - 1), aLn (a - M - 1), .inl (C.1 (a - M - 1)))) else h.2.2 a)
-- array i changed; the counts changed
def rU (C : RM) (i : Nat) (f : Nat → Int) : RM := (fun j => bif Nat.beq j i then f else C.1 j, C.2)
def rI (C : RM) (I : Int × Int × Int × Int) : RM := (C.1, I)
theorem hM_0 {h : AH} {M : Nat} {C : RM} : (hM h M C).2.2 M = some (cMd M C.2) := if_pos rfl
theorem hM_a {h : AH} {M : Nat} {C : RM} (i : Nat) (hi : i < 29) : (hM h M C).2.2 (M + (i + 1)) = some (.inl (aT i, aLn i, .inl (C.1 i))) := by
  show (if M + (i + 1) = M then _ else if M < M + (i + 1) ∧ M + (i + 1) < M + 30 then some (.inl (aT (M + (i + 1) - M - 1), aLn (M + (i + 1) - M - 1), .inl (C.1 (M + (i + 1) - M - 1)))) else h.2.2 (M + (i + 1))) = _
  rw [if_neg (by omega), if_pos ⟨by omega, by omega⟩, show M + (i + 1) - M - 1 = i by omega]
theorem hM_lo {h : AH} {M a : Nat} {C : RM} (ha : ¬ (M ≤ a ∧ a < M + 30)) : (hM h M C).2.2 a = h.2.2 a := by
  show (if a = M then _ else if M < a ∧ a < M + 30 then _ else h.2.2 a) = _
  rw [if_neg (by omega), if_neg (by omega)]
theorem hM_p {h : AH} {M : Nat} {C : RM} (i : Nat) (f : Nat → Int) (hi : i < 29) : ah_put (hM h M C) (M + (i + 1)) (.inl (aT i, aLn i, .inl f)) = hM h M (rU C i f) := by
  refine Prod.ext rfl (Prod.ext rfl ?_)
  funext a
  show va_up (hM h M C).2.2 (M + (i + 1)) _ a = (hM h M (rU C i f)).2.2 a
  simp only [va_up]
  by_cases ha : a = M + (i + 1)
  · rw [if_pos ha, ha, hM_a i hi]
    simp [rU]
  · rw [if_neg ha]
    by_cases hb : M ≤ a ∧ a < M + 30
    · by_cases hc : a = M
      · rw [hc, hM_0, hM_0]; rfl
      · obtain ⟨j, rfl⟩ : ∃ j, a = M + (j + 1) := ⟨a - M - 1, by omega⟩
        rw [hM_a j (by omega), hM_a j (by omega)]
        have : Nat.beq j i = false := by
          cases hz : Nat.beq j i
          · rfl
          · exact absurd (Nat.eq_of_beq_eq_true hz) (by omega)
        simp only [rU, this, cond_false]
    · rw [hM_lo hb, hM_lo hb]
theorem hM_f {h : AH} {M : Nat} {C : RM} (I : Int × Int × Int × Int) : ah_put (hM h M C) M (cMd M I) = hM h M (rI C I) := by
  refine Prod.ext rfl (Prod.ext rfl ?_)
  funext a
  show va_up (hM h M C).2.2 M _ a = (hM h M (rI C I)).2.2 a
  simp only [va_up]
  by_cases ha : a = M
  · rw [if_pos ha, ha, hM_0]; rfl
  · rw [if_neg ha]
    by_cases hb : M ≤ a ∧ a < M + 30
    · obtain ⟨j, rfl⟩ : ∃ j, a = M + (j + 1) := ⟨a - M - 1, by omega⟩
      rw [hM_a j (by omega), hM_a j (by omega)]; rfl
    · rw [hM_lo hb, hM_lo hb]
theorem hM_hM {h : AH} {M : Nat} {C C' : RM} : hM (hM h M C) M C' = hM h M C' := by
  refine Prod.ext rfl (Prod.ext rfl ?_)
  funext a
  by_cases hb : M ≤ a ∧ a < M + 30
  · by_cases hc : a = M
    · rw [hc]; exact hM_0.trans hM_0.symm
    · obtain ⟨j, rfl⟩ : ∃ j, a = M + (j + 1) := ⟨a - M - 1, by omega⟩
      exact (hM_a j (by omega)).trans (hM_a j (by omega)).symm
  · exact (hM_lo hb).trans ((hM_lo hb).trans (hM_lo hb).symm)
theorem hA0 {h : AH} {M : Nat} {C : RM} : (hM h M C).2.2 (M + 1) = some (.inl (0, 400, .inl (C.1 0))) := hM_a 0 (by decide)
theorem hA1 {h : AH} {M : Nat} {C : RM} : (hM h M C).2.2 (M + 2) = some (.inl (0, 400, .inl (C.1 1))) := hM_a 1 (by decide)
theorem hA2 {h : AH} {M : Nat} {C : RM} : (hM h M C).2.2 (M + 3) = some (.inl (0, 400, .inl (C.1 2))) := hM_a 2 (by decide)
theorem hA3 {h : AH} {M : Nat} {C : RM} : (hM h M C).2.2 (M + 4) = some (.inl (0, 400, .inl (C.1 3))) := hM_a 3 (by decide)
theorem hA4 {h : AH} {M : Nat} {C : RM} : (hM h M C).2.2 (M + 5) = some (.inl (0, 400, .inl (C.1 4))) := hM_a 4 (by decide)
theorem hA5 {h : AH} {M : Nat} {C : RM} : (hM h M C).2.2 (M + 6) = some (.inl (0, 1600, .inl (C.1 5))) := hM_a 5 (by decide)
theorem hA6 {h : AH} {M : Nat} {C : RM} : (hM h M C).2.2 (M + 7) = some (.inl (0, 400, .inl (C.1 6))) := hM_a 6 (by decide)
theorem hA7 {h : AH} {M : Nat} {C : RM} : (hM h M C).2.2 (M + 8) = some (.inl (0, 2400, .inl (C.1 7))) := hM_a 7 (by decide)
theorem hA8 {h : AH} {M : Nat} {C : RM} : (hM h M C).2.2 (M + 9) = some (.inl (0, 400, .inl (C.1 8))) := hM_a 8 (by decide)
theorem hA9 {h : AH} {M : Nat} {C : RM} : (hM h M C).2.2 (M + 10) = some (.inl (0, 4800, .inl (C.1 9))) := hM_a 9 (by decide)
theorem hA10 {h : AH} {M : Nat} {C : RM} : (hM h M C).2.2 (M + 11) = some (.inl (1, 160000, .inl (C.1 10))) := hM_a 10 (by decide)
theorem hA11 {h : AH} {M : Nat} {C : RM} : (hM h M C).2.2 (M + 12) = some (.inl (1, 400, .inl (C.1 11))) := hM_a 11 (by decide)
theorem hA12 {h : AH} {M : Nat} {C : RM} : (hM h M C).2.2 (M + 13) = some (.inl (0, 9200, .inl (C.1 12))) := hM_a 12 (by decide)
theorem hA13 {h : AH} {M : Nat} {C : RM} : (hM h M C).2.2 (M + 14) = some (.inl (0, 9200, .inl (C.1 13))) := hM_a 13 (by decide)
theorem hA14 {h : AH} {M : Nat} {C : RM} : (hM h M C).2.2 (M + 15) = some (.inl (1, 1600, .inl (C.1 14))) := hM_a 14 (by decide)
theorem hA15 {h : AH} {M : Nat} {C : RM} : (hM h M C).2.2 (M + 16) = some (.inl (1, 1600, .inl (C.1 15))) := hM_a 15 (by decide)
theorem hA16 {h : AH} {M : Nat} {C : RM} : (hM h M C).2.2 (M + 17) = some (.inl (0, 4, .inl (C.1 16))) := hM_a 16 (by decide)
theorem hA17 {h : AH} {M : Nat} {C : RM} : (hM h M C).2.2 (M + 18) = some (.inl (0, 92, .inl (C.1 17))) := hM_a 17 (by decide)
theorem hA18 {h : AH} {M : Nat} {C : RM} : (hM h M C).2.2 (M + 19) = some (.inl (0, 400, .inl (C.1 18))) := hM_a 18 (by decide)
theorem hA19 {h : AH} {M : Nat} {C : RM} : (hM h M C).2.2 (M + 20) = some (.inl (0, 23, .inl (C.1 19))) := hM_a 19 (by decide)
theorem hA20 {h : AH} {M : Nat} {C : RM} : (hM h M C).2.2 (M + 21) = some (.inl (0, 23, .inl (C.1 20))) := hM_a 20 (by decide)
theorem hA21 {h : AH} {M : Nat} {C : RM} : (hM h M C).2.2 (M + 22) = some (.inl (0, 400, .inl (C.1 21))) := hM_a 21 (by decide)
theorem hA22 {h : AH} {M : Nat} {C : RM} : (hM h M C).2.2 (M + 23) = some (.inl (1, 400, .inl (C.1 22))) := hM_a 22 (by decide)
theorem hA23 {h : AH} {M : Nat} {C : RM} : (hM h M C).2.2 (M + 24) = some (.inl (1, 400, .inl (C.1 23))) := hM_a 23 (by decide)
theorem hA24 {h : AH} {M : Nat} {C : RM} : (hM h M C).2.2 (M + 25) = some (.inl (1, 400, .inl (C.1 24))) := hM_a 24 (by decide)
theorem hA25 {h : AH} {M : Nat} {C : RM} : (hM h M C).2.2 (M + 26) = some (.inl (0, 400, .inl (C.1 25))) := hM_a 25 (by decide)
theorem hA26 {h : AH} {M : Nat} {C : RM} : (hM h M C).2.2 (M + 27) = some (.inl (0, 23, .inl (C.1 26))) := hM_a 26 (by decide)
theorem hA27 {h : AH} {M : Nat} {C : RM} : (hM h M C).2.2 (M + 28) = some (.inl (0, 23, .inl (C.1 27))) := hM_a 27 (by decide)
theorem hA28 {h : AH} {M : Nat} {C : RM} : (hM h M C).2.2 (M + 29) = some (.inl (0, 6, .inl (C.1 28))) := hM_a 28 (by decide)
theorem hP0 {h : AH} {M : Nat} {C : RM} {f : Nat → Int} : ah_put (hM h M C) (M + 1) (.inl (0, 400, .inl f)) = hM h M (rU C 0 f) := hM_p 0 f (by decide)
theorem hP1 {h : AH} {M : Nat} {C : RM} {f : Nat → Int} : ah_put (hM h M C) (M + 2) (.inl (0, 400, .inl f)) = hM h M (rU C 1 f) := hM_p 1 f (by decide)
theorem hP2 {h : AH} {M : Nat} {C : RM} {f : Nat → Int} : ah_put (hM h M C) (M + 3) (.inl (0, 400, .inl f)) = hM h M (rU C 2 f) := hM_p 2 f (by decide)
theorem hP3 {h : AH} {M : Nat} {C : RM} {f : Nat → Int} : ah_put (hM h M C) (M + 4) (.inl (0, 400, .inl f)) = hM h M (rU C 3 f) := hM_p 3 f (by decide)
theorem hP4 {h : AH} {M : Nat} {C : RM} {f : Nat → Int} : ah_put (hM h M C) (M + 5) (.inl (0, 400, .inl f)) = hM h M (rU C 4 f) := hM_p 4 f (by decide)
theorem hP5 {h : AH} {M : Nat} {C : RM} {f : Nat → Int} : ah_put (hM h M C) (M + 6) (.inl (0, 1600, .inl f)) = hM h M (rU C 5 f) := hM_p 5 f (by decide)
theorem hP6 {h : AH} {M : Nat} {C : RM} {f : Nat → Int} : ah_put (hM h M C) (M + 7) (.inl (0, 400, .inl f)) = hM h M (rU C 6 f) := hM_p 6 f (by decide)
theorem hP7 {h : AH} {M : Nat} {C : RM} {f : Nat → Int} : ah_put (hM h M C) (M + 8) (.inl (0, 2400, .inl f)) = hM h M (rU C 7 f) := hM_p 7 f (by decide)
theorem hP8 {h : AH} {M : Nat} {C : RM} {f : Nat → Int} : ah_put (hM h M C) (M + 9) (.inl (0, 400, .inl f)) = hM h M (rU C 8 f) := hM_p 8 f (by decide)
theorem hP9 {h : AH} {M : Nat} {C : RM} {f : Nat → Int} : ah_put (hM h M C) (M + 10) (.inl (0, 4800, .inl f)) = hM h M (rU C 9 f) := hM_p 9 f (by decide)
theorem hP10 {h : AH} {M : Nat} {C : RM} {f : Nat → Int} : ah_put (hM h M C) (M + 11) (.inl (1, 160000, .inl f)) = hM h M (rU C 10 f) := hM_p 10 f (by decide)
theorem hP11 {h : AH} {M : Nat} {C : RM} {f : Nat → Int} : ah_put (hM h M C) (M + 12) (.inl (1, 400, .inl f)) = hM h M (rU C 11 f) := hM_p 11 f (by decide)
theorem hP12 {h : AH} {M : Nat} {C : RM} {f : Nat → Int} : ah_put (hM h M C) (M + 13) (.inl (0, 9200, .inl f)) = hM h M (rU C 12 f) := hM_p 12 f (by decide)
theorem hP13 {h : AH} {M : Nat} {C : RM} {f : Nat → Int} : ah_put (hM h M C) (M + 14) (.inl (0, 9200, .inl f)) = hM h M (rU C 13 f) := hM_p 13 f (by decide)
theorem hP14 {h : AH} {M : Nat} {C : RM} {f : Nat → Int} : ah_put (hM h M C) (M + 15) (.inl (1, 1600, .inl f)) = hM h M (rU C 14 f) := hM_p 14 f (by decide)
theorem hP15 {h : AH} {M : Nat} {C : RM} {f : Nat → Int} : ah_put (hM h M C) (M + 16) (.inl (1, 1600, .inl f)) = hM h M (rU C 15 f) := hM_p 15 f (by decide)
theorem hP16 {h : AH} {M : Nat} {C : RM} {f : Nat → Int} : ah_put (hM h M C) (M + 17) (.inl (0, 4, .inl f)) = hM h M (rU C 16 f) := hM_p 16 f (by decide)
theorem hP17 {h : AH} {M : Nat} {C : RM} {f : Nat → Int} : ah_put (hM h M C) (M + 18) (.inl (0, 92, .inl f)) = hM h M (rU C 17 f) := hM_p 17 f (by decide)
theorem hP18 {h : AH} {M : Nat} {C : RM} {f : Nat → Int} : ah_put (hM h M C) (M + 19) (.inl (0, 400, .inl f)) = hM h M (rU C 18 f) := hM_p 18 f (by decide)
theorem hP19 {h : AH} {M : Nat} {C : RM} {f : Nat → Int} : ah_put (hM h M C) (M + 20) (.inl (0, 23, .inl f)) = hM h M (rU C 19 f) := hM_p 19 f (by decide)
theorem hP20 {h : AH} {M : Nat} {C : RM} {f : Nat → Int} : ah_put (hM h M C) (M + 21) (.inl (0, 23, .inl f)) = hM h M (rU C 20 f) := hM_p 20 f (by decide)
theorem hP21 {h : AH} {M : Nat} {C : RM} {f : Nat → Int} : ah_put (hM h M C) (M + 22) (.inl (0, 400, .inl f)) = hM h M (rU C 21 f) := hM_p 21 f (by decide)
theorem hP22 {h : AH} {M : Nat} {C : RM} {f : Nat → Int} : ah_put (hM h M C) (M + 23) (.inl (1, 400, .inl f)) = hM h M (rU C 22 f) := hM_p 22 f (by decide)
theorem hP23 {h : AH} {M : Nat} {C : RM} {f : Nat → Int} : ah_put (hM h M C) (M + 24) (.inl (1, 400, .inl f)) = hM h M (rU C 23 f) := hM_p 23 f (by decide)
theorem hP24 {h : AH} {M : Nat} {C : RM} {f : Nat → Int} : ah_put (hM h M C) (M + 25) (.inl (1, 400, .inl f)) = hM h M (rU C 24 f) := hM_p 24 f (by decide)
theorem hP25 {h : AH} {M : Nat} {C : RM} {f : Nat → Int} : ah_put (hM h M C) (M + 26) (.inl (0, 400, .inl f)) = hM h M (rU C 25 f) := hM_p 25 f (by decide)
theorem hP26 {h : AH} {M : Nat} {C : RM} {f : Nat → Int} : ah_put (hM h M C) (M + 27) (.inl (0, 23, .inl f)) = hM h M (rU C 26 f) := hM_p 26 f (by decide)
theorem hP27 {h : AH} {M : Nat} {C : RM} {f : Nat → Int} : ah_put (hM h M C) (M + 28) (.inl (0, 23, .inl f)) = hM h M (rU C 27 f) := hM_p 27 f (by decide)
theorem hP28 {h : AH} {M : Nat} {C : RM} {f : Nat → Int} : ah_put (hM h M C) (M + 29) (.inl (0, 6, .inl f)) = hM h M (rU C 28 f) := hM_p 28 f (by decide)
theorem ev_ri {t : AT} {pc a b nx : Nat} {z x y : Int} {ts : List (Int × Nat)} {lv : AL} {h : AH} (e : am_at t pc = (71, z, a, b, nx, ts)) (hx : x = y) : Ev t pc lv [.inl x] h (some (.inl y), h) := by
  subst hx
  exact ev_retT (by rw [e]; rfl) rfl
theorem ev_rb {t : AT} {pc a b nx : Nat} {z x : Int} {y : Bool} {ts : List (Int × Nat)} {lv : AL} {h : AH} (e : am_at t pc = (72, z, a, b, nx, ts)) (hx : x = bif y then 1 else 0) : Ev t pc lv [.inl x] h (some (vB y), h) := by
  subst hx
  refine ev_zret e ?_ rfl
  cases y
  · exact Or.inl rfl
  · exact Or.inr rfl
