-- rows of the meanings: the heap, calls, ends
theorem am_one {D : va_G} {cl : List vw_C} {q : Nat × va_E} {H : Heap} (h : va_at D cl q H) : va_P D cl [q] H := by
  intro k x hx
  have hz : k < 1 := (List.getElem?_eq_some_iff.mp hx).1
  rw [show k = 0 by omega] at hx
  cases hx
  exact h
theorem a_in_iff {i : Int} {n : Nat} : a_in i n = true ↔ 0 ≤ w32 i ∧ w32 i < n := by
  simp [a_in]
theorem sd_getf {G : AG} {mt : Nat → AM} {y : AM} {pc : Nat} (z : Int) (a b : Nat) (ts : List (Int × Nat)) {idx : Nat} {cC : String} {T : u_T} {N : Nat} (d : decode y.2.1 pc = .ok (.getfield idx, 3)) (hc : G.1[a]? = some (cC, T, N)) (hkN : b < N) (hin : ∀ w ∈ u_ws cC T N, w ∈ G.2.2.1) (hlink : Cond.fieldLink y.1.cls idx (T b).1 (T b).2.1 (T b).2.2.1 ∈ G.2.2.1) : am_Snd G mt y pc (40, z, a, b, pc + 3, ts) := by
  intro lv st h o hlen ex
  change xo_40 z a b (pc + 3) ts lv st h = some o at ex
  unfold xo_40 at ex
  split at ex
  · rename_i q r
    split at ex
    · rename_i c0 fs hq
      cases hca : Nat.beq c0 a with
      | false => rw [hca] at ex; cases ex
      | true =>
        rw [hca] at ex
        have hca := Nat.eq_of_beq_eq_true hca
        subst hca
        simp only [cond_true] at ex
        split at ex
        · rename_i v hv
          cases ex
          refine ⟨⟨rfl, Nat.le_refl _, Nat.le_refl _⟩, fun D dA base n0 k0 p l e R s m args below meth c Q C hb hn hk _ _ kk H locs ls hR hS hl => ?_⟩
          exact va_get (D := D) (ci := c0) (v := av_V v) C.1 C.2.1 C.2.2.2.2.1 hin C.2.2.2.1 C.2.2.2.2.2.2.1 (am_one (hR.obj hq).2) 0 rfl hc b hkN (C.2.2.2.2.1 _ hlink) (fun _ h9 => h9) (by rw [List.getElem?_map, hv]; rfl) d (kk H locs ls hR hS hl)
        · cases ex
    · cases ex
  · cases ex
-- a value of a kind fits a type
def av_fit (k : Nat) (ty : FieldType) : Bool := match k, ty with
  | 0, .int => true
  | 1, .long => true
  | 2, .object _ => true
  | 2, .array _ => true
  | 3, .boolean => true
  | _, _ => false
theorem av_fits {k : Nat} {ty : FieldType} {v : AV} (h : av_fit k ty = true) (hv : av_okb k v = true) : narrow ty (av_V v) = av_V v ∧ fits ty (av_V v) = true := by
  unfold av_fit at h
  split at h
  · rcases v with x | x | (_ | x) <;> first | exact ⟨rfl, rfl⟩ | cases hv
  · rcases v with x | x | (_ | x) <;> first | exact ⟨rfl, rfl⟩ | cases hv
  · rcases v with x | x | (_ | x) <;> first | exact ⟨rfl, rfl⟩ | cases hv
  · rcases v with x | x | (_ | x) <;> first | exact ⟨rfl, rfl⟩ | cases hv
  · rcases v with x | x | (_ | x)
    · have hx : x = 0 ∨ x = 1 := by simpa [av_okb] using hv
      rcases hx with rfl | rfl <;> exact ⟨rfl, rfl⟩
    · cases hv
    · cases hv
    · cases hv
  · cases h
theorem sd_putf {G : AG} {mt : Nat → AM} {y : AM} {pc : Nat} (z : Int) (a b : Nat) (ts : List (Int × Nat)) {idx : Nat} {cC : String} {T : u_T} {N : Nat} (ty0 : Nat → FieldType) (d : decode y.2.1 pc = .ok (.putfield idx, 3)) (hc : G.1[a]? = some (cC, T, N)) (hkN : b < N) (hin : ∀ w ∈ u_ws cC T N, w ∈ G.2.2.1) (hty : ∀ k, k < N → parseFieldDescriptor (T k).2.2.1 = some (ty0 k)) (hnm : ∀ a, a < N → ∀ b, b < N → a ≠ b → (T a).2.1 ≠ (T b).2.1) (hlink : Cond.fieldLink y.1.cls idx (T b).1 (T b).2.1 (T b).2.2.1 ∈ G.2.2.1) (hfin : (T b).2.2.2 = false ∨ ((T b).2.2.2 = true ∧ y.1.name = "<init>" ∧ (T b).1 = y.1.cls)) (hft : av_fit z.toNat (ty0 b) = true) : am_Snd G mt y pc (41, z, a, b, pc + 3, ts) := by
  intro lv st h o hlen ex
  change xo_41 z a b (pc + 3) ts lv st h = some o at ex
  unfold xo_41 at ex
  split at ex
  · rename_i v q r
    split at ex
    · rename_i c0 fs hq
      cases hca : (Nat.beq c0 a && (Nat.blt b fs.length && av_okb z.toNat v)) with
      | false => rw [hca] at ex; cases ex
      | true =>
        rw [hca] at ex
        simp only [Bool.and_eq_true] at hca
        obtain ⟨h1, h2, h3⟩ := hca
        have h1 := Nat.eq_of_beq_eq_true h1
        subst h1
        have hlt : b < fs.length := Nat.le_of_ble_eq_true h2
        cases ex
        refine ⟨⟨rfl, Nat.le_refl _, Nat.le_refl _⟩, fun D dA base n0 k0 p l e R s m args below meth c Q C hb hn hk _ _ kk H locs ls hR hS hl => ?_⟩
        obtain ⟨hbq, r0, h4, cell, q1, q2, q3, q4⟩ := hR.obj hq
        have hr : r0 = (cC, T, N) := Option.some.inj (h4.symm.trans hc)
        subst hr
        have hap := va_apart (own := y.1.cls) C.2.2.2.2.1 hin ty0 hty hnm C.2.2.2.2.2.2.1 hc
        obtain ⟨hS1, hfc, kC, hkC, hkind⟩ := C.2.2.2.2.2.2.1.1 c0 _ hc
        obtain ⟨cf, kf, fi, f, hi, hsl⟩ := hS1 b hkN
        have hst := (u_facts hfc hkC (u_lays C.2.2.2.2.1 hin hkN) hi).1
        have hvt := av_fits hft h3
        have hlay := C.2.2.2.2.1 _ (hin _ (u_in_lay hkN))
        unfold u_lay at hlay
        have fin : ∀ (H' : Heap) (locs' : List Loc), H'[q]? = some (cell.setSlot (D.2 c0 b) (av_V v)) → H'.size = H.size → (∀ x, x ≠ q → H'[x]? = H[x]?) → locs' = locs ++ [⟨q, D.2 c0 b⟩] → W p l e R s m args below meth c H' locs' (h.1 - n0) (h.2.1 - k0) Q (F0 m (pc + 3) ls (r.map av_V)) := by
          intro H' locs' e1 e2 e3 e4
          subst e4
          refine kk H' _ ls (hR.put e2 e3 ⟨hbq, trivial, _, hc, t_OB.to (V := updV (vp_V (fs.map av_V)) b (av_V v)) ⟨_, e1, q2, q3, t_set q4 hap hkN _⟩ (fun j _ => ?_)⟩) (hS.put e2 e3 hbq) hl
          rw [List.map_set]
          exact vp_updV_set (by rw [List.length_map]; exact hlt) _ j
        rcases hfin with hfin | ⟨hfin, hini, hdecl⟩
        · rw [if_neg (by rw [hfin]; decide)] at hlay
          have h6 := u_store hfc hkC hkind hlay hi (hty b hkN) hvt.1 hvt.2
          refine W.putK C.1 C.2.1 (f := f) ⟨C.2.2.2.1, C.2.2.2.2.1 _ hlink, ⟨_, _, _, hi⟩, hst⟩ (by rw [q2]; exact h6) q1 q3 (by rw [hsl]; exact k2_hasslot (q4 b hkN)) rfl rfl d fun H' e1 e2 e3 => ?_
          exact fin H' _ (by rw [← hsl]; exact e1) e2 e3 (by rw [hsl])
        · rw [if_pos hfin] at hlay
          have hcf : m.cls = cf := by
            obtain ⟨_, _, c', _, _, _, -, -, hf', -, -, -, hown2, -⟩ := Cond.laysFinal_spec hlay
            have e1 : c' = cf := by have := hi.symm.trans hf'; simp at this; exact this.1.symm
            rw [hdecl] at hown2
            rw [← e1]; exact Option.some.inj (C.2.2.2.1.symm.trans hown2)
          have h6 := u_fits hfc hkC hkind (Or.inr hlay) hi (hty b hkN) hvt.1 hvt.2
          refine W.putFinK C.1 C.2.1 C.2.2.2.1 (C.2.2.2.2.1 _ hlink) hi hst hcf (C.2.2.2.2.2.1 hini) (by rw [q2]; exact h6) q1 q3 (by rw [hsl]; exact k2_hasslot (q4 b hkN)) rfl rfl d fun H' e1 e2 e3 => ?_
          exact fin H' _ (by rw [← hsl]; exact e1) e2 e3 (by rw [hsl])
    · cases ex
  · cases ex
-- array reads
theorem sd_iald {G : AG} {mt : Nat → AM} {y : AM} {pc : Nat} (z : Int) (a b : Nat) (ts : List (Int × Nat)) (d : decode y.2.1 pc = .ok (.iaload, 1)) (ha : Nat.beq a 99 = false) (hty : G.2.1[a]? = some .int) : am_Snd G mt y pc (42, z, a, b, pc + 1, ts) := by
  intro lv st h o hlen ex
  change xo_42 z a b (pc + 1) ts lv st h = some o at ex
  unfold xo_42 at ex
  split at ex
  · rename_i i q r
    split at ex
    · rename_i t n f hq
      cases hca : (Nat.beq t a && a_in i n) with
      | false => rw [hca] at ex; cases ex
      | true =>
        rw [hca] at ex
        simp only [Bool.and_eq_true] at hca
        obtain ⟨h1, h2⟩ := hca
        have h1 := Nat.eq_of_beq_eq_true h1
        subst h1
        cases ex
        refine ⟨⟨rfl, Nat.le_refl _, Nat.le_refl _⟩, fun D dA base n0 k0 p l e R s m args below meth c Q C hb hn hk _ _ kk H locs ls hR hS hl => ?_⟩
        have hP := am_one (hR.arr hq ha).2.2
        refine va_iald C.1 C.2.1 C.2.2.2.2.2.2.1 hP 0 t rfl (am_tys_at hty) (w32_in.2 (a_in_iff.1 h2)) d ?_
        rw [w32_clamp]
        exact kk H locs ls hR hS hl
    · cases ex
  · cases ex

theorem sd_bald {G : AG} {mt : Nat → AM} {y : AM} {pc : Nat} (z : Int) (a b : Nat) (ts : List (Int × Nat)) (d : decode y.2.1 pc = .ok (.baload, 1)) (ha : Nat.beq a 99 = false) (hty : G.2.1[a]? = some .boolean) : am_Snd G mt y pc (42, z, a, b, pc + 1, ts) := by
  intro lv st h o hlen ex
  change xo_42 z a b (pc + 1) ts lv st h = some o at ex
  unfold xo_42 at ex
  split at ex
  · rename_i i q r
    split at ex
    · rename_i t n f hq
      cases hca : (Nat.beq t a && a_in i n) with
      | false => rw [hca] at ex; cases ex
      | true =>
        rw [hca] at ex
        simp only [Bool.and_eq_true] at hca
        obtain ⟨h1, h2⟩ := hca
        have h1 := Nat.eq_of_beq_eq_true h1
        subst h1
        cases ex
        refine ⟨⟨rfl, Nat.le_refl _, Nat.le_refl _⟩, fun D dA base n0 k0 p l e R s m args below meth c Q C hb hn hk _ _ kk H locs ls hR hS hl => ?_⟩
        have hP := am_one (hR.arr hq ha).2.2
        refine va_zald C.1 C.2.1 C.2.2.2.2.2.2.1 hP 0 t rfl (am_tys_at hty) (w32_in.2 (a_in_iff.1 h2)) d ?_
        rw [w32_clamp]
        exact kk H locs ls hR hS hl
    · cases ex
  · cases ex

theorem sd_lald {G : AG} {mt : Nat → AM} {y : AM} {pc : Nat} (z : Int) (a b : Nat) (ts : List (Int × Nat)) (d : decode y.2.1 pc = .ok (.laload, 1)) (ha : Nat.beq a 99 = false) (hty : G.2.1[a]? = some .long) : am_Snd G mt y pc (43, z, a, b, pc + 1, ts) := by
  intro lv st h o hlen ex
  change xo_43 z a b (pc + 1) ts lv st h = some o at ex
  unfold xo_43 at ex
  split at ex
  · rename_i i q r
    split at ex
    · rename_i t n f hq
      cases hca : (Nat.beq t a && a_in i n) with
      | false => rw [hca] at ex; cases ex
      | true =>
        rw [hca] at ex
        simp only [Bool.and_eq_true] at hca
        obtain ⟨h1, h2⟩ := hca
        have h1 := Nat.eq_of_beq_eq_true h1
        subst h1
        cases ex
        refine ⟨⟨rfl, Nat.le_refl _, Nat.le_refl _⟩, fun D dA base n0 k0 p l e R s m args below meth c Q C hb hn hk _ _ kk H locs ls hR hS hl => ?_⟩
        have hP := am_one (hR.arr hq ha).2.2
        refine va_lald C.1 C.2.1 C.2.2.2.2.2.2.1 hP 0 t rfl (am_tys_at hty) (w32_in.2 (a_in_iff.1 h2)) d ?_
        rw [w32_clamp]
        exact kk H locs ls hR hS hl
    · cases ex
  · cases ex

theorem sd_aald {G : AG} {mt : Nat → AM} {y : AM} {pc : Nat} (z : Int) (a b : Nat) (ts : List (Int × Nat)) (d : decode y.2.1 pc = .ok (.aaload, 1)) (ha : Nat.beq a 99 = false) {cC : String} (hty : G.2.1[a]? = some (.object cC)) : am_Snd G mt y pc (44, z, a, b, pc + 1, ts) := by
  intro lv st h o hlen ex
  change xo_44 z a b (pc + 1) ts lv st h = some o at ex
  unfold xo_44 at ex
  split at ex
  · rename_i i q r
    split at ex
    · rename_i t n f hq
      cases hca : (Nat.beq t a && a_in i n) with
      | false => rw [hca] at ex; cases ex
      | true =>
        rw [hca] at ex
        simp only [Bool.and_eq_true] at hca
        obtain ⟨h1, h2⟩ := hca
        have h1 := Nat.eq_of_beq_eq_true h1
        subst h1
        cases ex
        refine ⟨⟨rfl, Nat.le_refl _, Nat.le_refl _⟩, fun D dA base n0 k0 p l e R s m args below meth c Q C hb hn hk _ _ kk H locs ls hR hS hl => ?_⟩
        have hP := am_one (hR.arr hq ha).2.2
        refine va_aldq C.1 C.2.1 C.2.2.2.2.2.2.1 hP 0 t rfl (am_tys_at hty) (w32_in.2 (a_in_iff.1 h2)) d ?_
        rw [w32_clamp]
        exact kk H locs ls hR hS hl
    · cases ex
  · cases ex

theorem sd_sld {G : AG} {mt : Nat → AM} {y : AM} {pc : Nat} (z : Int) (a b : Nat) (ts : List (Int × Nat)) (d : decode y.2.1 pc = .ok (.iaload, 1)) (ha : Nat.beq a 99 = true) : am_Snd G mt y pc (42, z, a, b, pc + 1, ts) := by
  intro lv st h o hlen ex
  change xo_42 z a b (pc + 1) ts lv st h = some o at ex
  unfold xo_42 at ex
  split at ex
  · rename_i i q r
    split at ex
    · rename_i t n f hq
      cases hca : (Nat.beq t a && a_in i n) with
      | false => rw [hca] at ex; cases ex
      | true =>
        rw [hca] at ex
        simp only [Bool.and_eq_true] at hca
        obtain ⟨h1, h2⟩ := hca
        have h1 := Nat.eq_of_beq_eq_true h1
        subst h1
        cases ex
        refine ⟨⟨rfl, Nat.le_refl _, Nat.le_refl _⟩, fun D dA base n0 k0 p l e R s m args below meth c Q C hb hn hk _ _ kk H locs ls hR hS hl => ?_⟩
        have hX := hR.2.2 q _ hq
        unfold am_cell at hX
        have h0 : am_sc (.inl (t, n, .inl f)) = some (n, f) := by simp [am_sc, ha]
        rw [h0] at hX
        obtain ⟨-, scr, g1, g2, g3, g4, g5⟩ := hX
        have hin := w32_in.2 (a_in_iff.1 h2)
        have hlt : (Int32.ofInt i).toNatClampNeg < n := Nat.not_le.mp fun q0 => hin (Or.inr q0)
        refine W.iald (v := .int (Int32.ofInt (f (Int32.ofInt i).toNatClampNeg))) C.1 C.2.1 g1 g2 g3 (by rw [g4]; exact hin) (g5 _ hlt) rfl rfl d ?_
        rw [w32_clamp]
        exact kk H locs ls hR hS hl
    · cases ex
  · cases ex

theorem sd_iast {G : AG} {mt : Nat → AM} {y : AM} {pc : Nat} (z : Int) (a b : Nat) (ts : List (Int × Nat)) (d : decode y.2.1 pc = .ok (.iastore, 1)) (ha : Nat.beq a 99 = false) (hty : G.2.1[a]? = some .int) : am_Snd G mt y pc (46, z, a, b, pc + 1, ts) := by
  intro lv st h o hlen ex
  change xo_46 z a b (pc + 1) ts lv st h = some o at ex
  unfold xo_46 at ex
  split at ex
  · rename_i x i q r
    split at ex
    · rename_i t n f hq
      cases hca : (Nat.beq t a && a_in i n) with
      | false => rw [hca] at ex; cases ex
      | true =>
        rw [hca] at ex
        simp only [Bool.and_eq_true] at hca
        obtain ⟨h1, h2⟩ := hca
        have h1 := Nat.eq_of_beq_eq_true h1
        subst h1
        cases ex
        refine ⟨⟨rfl, Nat.le_refl _, Nat.le_refl _⟩, fun D dA base n0 k0 p l e R s m args below meth c Q C hb hn hk _ _ kk H locs ls hR hS hl => ?_⟩
        obtain ⟨hbq, htl, hP⟩ := hR.arr hq ha
        have hin : vp_in (Int32.ofInt i) n := w32_in.2 (a_in_iff.1 h2)
        refine W.iast C.1 C.2.1 hP ((C.2.2.2.2.2.2.1.2 t _ (am_tys_at hty)).1 n (fun j => .int (Int32.ofInt (f j)))) (fun q0 => by cases q0) (by show ¬ (_ ∨ (arrV _ _ _).slots.size ≤ _); rw [arrV_size]; exact hin) rfl rfl d fun H1 e1 z1 oq => ?_
        refine kk H1 _ ls (hR.put z1 oq ?_) (hS.put z1 oq hbq) hl
        have h0 : am_sc (.inl (t, n, .inl (va_up f (w32 i).toNat x))) = none := by simp [am_sc, ha]
        unfold am_cell
        rw [h0]
        refine ⟨hbq, htl, ?_⟩
        show H1[q]? = some (vp_cell _ _)
        rw [e1]
        show some ((vp_cell (dA t) _).setSlot _ _) = _
        rw [vp_cell_i, vp_cell_i, arrV_store]
        congr 2
        funext j
        rw [w32_clamp]
        by_cases hj : j = (w32 i).toNat
        · subst hj
          simp [updV, va_up]
        · simp [updV, va_up, hj]
    · cases ex
  · cases ex

theorem sd_last {G : AG} {mt : Nat → AM} {y : AM} {pc : Nat} (z : Int) (a b : Nat) (ts : List (Int × Nat)) (d : decode y.2.1 pc = .ok (.lastore, 1)) (ha : Nat.beq a 99 = false) (hty : G.2.1[a]? = some .long) : am_Snd G mt y pc (47, z, a, b, pc + 1, ts) := by
  intro lv st h o hlen ex
  change xo_47 z a b (pc + 1) ts lv st h = some o at ex
  unfold xo_47 at ex
  split at ex
  · rename_i x i q r
    split at ex
    · rename_i t n f hq
      cases hca : (Nat.beq t a && a_in i n) with
      | false => rw [hca] at ex; cases ex
      | true =>
        rw [hca] at ex
        simp only [Bool.and_eq_true] at hca
        obtain ⟨h1, h2⟩ := hca
        have h1 := Nat.eq_of_beq_eq_true h1
        subst h1
        cases ex
        refine ⟨⟨rfl, Nat.le_refl _, Nat.le_refl _⟩, fun D dA base n0 k0 p l e R s m args below meth c Q C hb hn hk _ _ kk H locs ls hR hS hl => ?_⟩
        obtain ⟨hbq, htl, hP⟩ := hR.arr hq ha
        have hin : vp_in (Int32.ofInt i) n := w32_in.2 (a_in_iff.1 h2)
        refine W.last C.1 C.2.1 hP ((C.2.2.2.2.2.2.1.2 t _ (am_tys_at hty)).1 n (fun j => .long (Int64.ofBitVec (f j)))) (fun q0 => by cases q0) (by show ¬ (_ ∨ (arrV _ _ _).slots.size ≤ _); rw [arrV_size]; exact hin) rfl rfl d fun H1 e1 z1 oq => ?_
        refine kk H1 _ ls (hR.put z1 oq ?_) (hS.put z1 oq hbq) hl
        have h0 : am_sc (.inl (t, n, .inr (.inl (va_up f (w32 i).toNat x)))) = none := by simp [am_sc]
        unfold am_cell
        rw [h0]
        refine ⟨hbq, htl, ?_⟩
        show H1[q]? = some (vp_cell _ _)
        rw [e1]
        show some ((vp_cell (dA t) _).setSlot _ _) = _
        rw [vp_cell_l, vp_cell_l, arrV_store]
        congr 2
        funext j
        rw [w32_clamp]
        by_cases hj : j = (w32 i).toNat
        · subst hj
          simp [updV, va_up]
        · simp [updV, va_up, hj]
    · cases ex
  · cases ex

theorem sd_bast {G : AG} {mt : Nat → AM} {y : AM} {pc : Nat} (z : Int) (a b : Nat) (ts : List (Int × Nat)) (d : decode y.2.1 pc = .ok (.bastore, 1)) (ha : Nat.beq a 99 = false) (hty : G.2.1[a]? = some .boolean) : am_Snd G mt y pc (49, z, a, b, pc + 1, ts) := by
  intro lv st h o hlen ex
  change xo_49 z a b (pc + 1) ts lv st h = some o at ex
  unfold xo_49 at ex
  split at ex
  · rename_i x i q r
    split at ex
    · rename_i t n f hq
      cases hca : (Nat.beq t a && (a_in i n && av_okb 3 (.inl x))) with
      | false => rw [hca] at ex; cases ex
      | true =>
        rw [hca] at ex
        simp only [Bool.and_eq_true] at hca
        obtain ⟨h1, h2, h3⟩ := hca
        have h1 := Nat.eq_of_beq_eq_true h1
        subst h1
        cases ex
        refine ⟨⟨rfl, Nat.le_refl _, Nat.le_refl _⟩, fun D dA base n0 k0 p l e R s m args below meth c Q C hb hn hk _ _ kk H locs ls hR hS hl => ?_⟩
        obtain ⟨hbq, htl, hP⟩ := hR.arr hq ha
        have hin : vp_in (Int32.ofInt i) n := w32_in.2 (a_in_iff.1 h2)
        refine W.zast C.1 C.2.1 hP ((C.2.2.2.2.2.2.1.2 t _ (am_tys_at hty)).1 n (fun j => .int (Int32.ofInt (f j)))) (fun q0 => by cases q0) (by show ¬ (_ ∨ (arrV _ _ _).slots.size ≤ _); rw [arrV_size]; exact hin) rfl rfl d fun H1 e1 z1 oq => ?_
        refine kk H1 _ ls (hR.put z1 oq ?_) (hS.put z1 oq hbq) hl
        have h0 : am_sc (.inl (t, n, .inl (va_up f (w32 i).toNat x))) = none := by simp [am_sc, ha]
        unfold am_cell
        rw [h0]
        refine ⟨hbq, htl, ?_⟩
        show H1[q]? = some (vp_cell _ _)
        rw [e1]
        show some ((vp_cell (dA t) _).setSlot _ _) = _
        rw [vp_cell_i, vp_cell_i, arrV_store]
        congr 2
        funext j
        rw [w32_clamp]
        by_cases hj : j = (w32 i).toNat
        · subst hj
          simp [updV, va_up, show narrow .boolean (.int (Int32.ofInt x)) = .int (Int32.ofInt x) from (av_fits (k := 3) (ty := .boolean) (v := .inl x) rfl h3).1]
        · simp [updV, va_up, hj]
    · cases ex
  · cases ex

theorem sd_aast {G : AG} {mt : Nat → AM} {y : AM} {pc : Nat} (z : Int) (a b : Nat) (ts : List (Int × Nat)) {cC : String} {T : u_T} {N : Nat} (d : decode y.2.1 pc = .ok (.aastore, 1)) (ha : Nat.beq a 99 = false) (hty : G.2.1[a]? = some (.object cC)) (hc : G.1[b]? = some (cC, T, N)) : am_Snd G mt y pc (48, z, a, b, pc + 1, ts) := by
  intro lv st h o hlen ex
  change xo_48 z a b (pc + 1) ts lv st h = some o at ex
  unfold xo_48 at ex
  split at ex
  · rename_i i q r
    split at ex
    · rename_i t n f hq
      cases hca : (Nat.beq t a && a_in i n) with
      | false => rw [hca] at ex; cases ex
      | true =>
        rw [hca] at ex
        simp only [Bool.and_eq_true] at hca
        obtain ⟨h1, h2⟩ := hca
        have h1 := Nat.eq_of_beq_eq_true h1
        subst h1
        cases ex
        refine ⟨⟨rfl, Nat.le_refl _, Nat.le_refl _⟩, fun D dA base n0 k0 p l e R s m args below meth c Q C hb hn hk _ _ kk H locs ls hR hS hl => ?_⟩
        obtain ⟨hbq, htl, hP⟩ := hR.arr hq ha
        have hin : vp_in (Int32.ofInt i) n := w32_in.2 (a_in_iff.1 h2)
        refine va_WaastN (C := cC) C.1 C.2.1 hP ((C.2.2.2.2.2.2.1.2 t _ (am_tys_at hty)).1 n (fun j => va_rf (f j))) (fun q0 => by cases q0) (by show ¬ (_ ∨ (arrV _ _ _).slots.size ≤ _); rw [arrV_size]; exact hin) rfl rfl d fun H1 e1 z1 oq => ?_
        refine kk H1 _ ls (hR.put z1 oq ?_) (hS.put z1 oq hbq) hl
        refine ⟨hbq, htl, ?_⟩
        show H1[q]? = some (vp_cell _ _)
        rw [e1]
        show some ((vp_cell (dA t) _).setSlot _ _) = _
        rw [vp_cell_q, vp_cell_q, arrV_store]
        congr 2
        funext j
        rw [w32_clamp]
        by_cases hj : j = (w32 i).toNat
        · subst hj
          simp [updV, va_up, va_rf]
        · simp [updV, va_up, hj]
    · cases ex
  · rename_i x i q r
    split at ex
    · rename_i t n f c0 fs hq hx
      cases hca : (Nat.beq t a && (Nat.beq c0 b && a_in i n)) with
      | false => rw [hca] at ex; cases ex
      | true =>
        rw [hca] at ex
        simp only [Bool.and_eq_true] at hca
        obtain ⟨h1, h3, h2⟩ := hca
        have h1 := Nat.eq_of_beq_eq_true h1
        subst h1
        have h3 := Nat.eq_of_beq_eq_true h3
        subst h3
        cases ex
        refine ⟨⟨rfl, Nat.le_refl _, Nat.le_refl _⟩, fun D dA base n0 k0 p l e R s m args below meth c Q C hb hn hk _ _ kk H locs ls hR hS hl => ?_⟩
        obtain ⟨hbq, htl, hP⟩ := hR.arr hq ha
        have hin : vp_in (Int32.ofInt i) n := w32_in.2 (a_in_iff.1 h2)
        have hlt : (Int32.ofInt i).toNatClampNeg < n := Nat.not_le.mp fun q0 => hin (Or.inr q0)
        have hi0 : ¬ Int32.ofInt i < 0 := fun q0 => hin (Or.inl q0)
        obtain ⟨-, r', hr', cellV, g1, g2, g3, -⟩ := hR.obj hx
        have hcls := (C.2.2.2.2.2.2.1.1 c0 _ hc).2
        obtain ⟨kA, comp, k1, k2, k3, -⟩ := (C.2.2.2.2.2.2.1.2 t _ (am_tys_at hty)).2
        have hcomp : comp = D.1 c0 := Option.some.inj (k3.symm.trans hcls.1)
        subst hcomp
        obtain ⟨kC, hkC, -⟩ := hcls.2
        refine W.aast C.1 C.2.1 hP (fun q0 h0 => by cases h0) (fun h0 => by cases h0) k1 k2 rfl hkC ⟨hi0, by show _ < (arrV _ _ _).slots.size; rw [arrV_size]; exact hlt⟩ g1 (fun q0 h0 => by rw [g3] at h0; cases h0) (by rw [g2]; exact hkC) (by rw [g2]; exact va_assign hcls) rfl rfl d fun H1 e1 z1 oq => ?_
        refine kk H1 _ ls (hR.put z1 oq ?_) (hS.put z1 oq hbq) hl
        refine ⟨hbq, htl, ?_⟩
        show H1[q]? = some (vp_cell _ _)
        rw [e1]
        show some ((vp_cell (dA t) _).setSlot _ _) = _
        rw [vp_cell_q, vp_cell_q, arrV_store]
        congr 2
        funext j
        rw [w32_clamp]
        by_cases hj : j = (w32 i).toNat
        · subst hj
          simp [updV, va_up, va_rf]
        · simp [updV, va_up, hj]
    · cases ex
  · cases ex

theorem sd_alen {G : AG} {mt : Nat → AM} {y : AM} {pc : Nat} (z : Int) (a b : Nat) (ts : List (Int × Nat)) (d : decode y.2.1 pc = .ok (.arraylength, 1)) : am_Snd G mt y pc (50, z, a, b, pc + 1, ts) := by
  intro lv st h o hlen ex
  change xo_50 z a b (pc + 1) ts lv st h = some o at ex
  unfold xo_50 at ex
  split at ex
  · rename_i q r
    split at ex
    · rename_i t n f hq
      cases ex
      refine ⟨⟨rfl, Nat.le_refl _, Nat.le_refl _⟩, fun D dA base n0 k0 p l e R s m args below meth c Q C hb hn hk _ _ kk H locs ls hR hS hl => ?_⟩
      have kk := kk H locs ls hR hS hl
      have hX := hR.2.2 q _ hq
      unfold am_cell at hX
      split at hX
      · rename_i q0 h0
        obtain ⟨-, scr, g1, g2, g3, g4, g5⟩ := hX
        have hq0 : q0.1 = n := by
          rcases f with f | f | f
          · simp only [am_sc] at h0
            cases hb9 : Nat.beq t 99 with
            | false => rw [hb9] at h0; cases h0
            | true => rw [hb9] at h0; cases h0; rfl
          · cases h0
          · cases h0
        refine W.alen (n := Int32.ofNat n) C.1 C.2.1 g1 g2 (by rw [g4, hq0] <;> rfl) rfl rfl d ?_
        rw [← Int32.ofInt_eq_ofNat]
        exact kk
      · obtain ⟨hbq, htl, hP⟩ := hX
        have hty : G.2.1[t]? = some (G.2.1[t]'htl) := List.getElem?_eq_getElem htl
        have hv : ∀ x : vp_A, ae_E dA (.inl (t, n, f)) = .inl (dA t, x) → W p l e R s m args below meth c H locs (h.1 - n0) (h.2.1 - k0) Q (F0 m pc ls (.ref q :: r.map av_V)) := by
          intro x hx
          have hn1 : x.1 = n := by
            rcases f with f | f | f <;> (cases hx; rfl)
          rw [hx] at hP
          refine va_alen C.1 C.2.1 C.2.2.2.2.2.2.1 (am_one hP) 0 t rfl (am_tys_at hty) (v := Int32.ofInt n) (by rw [hn1]; exact Int32.ofInt_eq_ofNat.symm) d ?_
          exact kk
        rcases f with f | f | f
        · exact hv _ rfl
        · exact hv _ rfl
        · exact hv _ rfl
    · cases ex
  · cases ex

theorem sd_new {G : AG} {mt : Nat → AM} {y : AM} {pc : Nat} (z : Int) (a b : Nat) (ts : List (Int × Nat)) {idx : Nat} {cC : String} {T : u_T} {N : Nat} (ty0 : Nat → FieldType) (d : decode y.2.1 pc = .ok (.new idx, 3)) (hc : G.1[a]? = some (cC, T, N)) (hin : ∀ w ∈ u_ws cC T N, w ∈ G.2.2.1) (hty : ∀ k, k < N → parseFieldDescriptor (T k).2.2.1 = some (ty0 k)) (hcl : Cond.classLink y.1.cls idx cC ∈ G.2.2.1) (hinst : Cond.instantiable cC N ∈ G.2.2.1) (hini : Cond.initialized cC ∈ G.2.2.1) (hN : ts.length = N) (hfs : ∀ j, j < N → defaultValue (ty0 j) = vp_V ((ts.map fun q => av_0 q.2).map av_V) j) : am_Snd G mt y pc (51, z, a, b, pc + 3, ts) := by
  intro lv st h o hlen ex
  change xo_51 z a b (pc + 3) ts lv st h = some o at ex
  unfold xo_51 at ex
  cases ex
  refine ⟨⟨rfl, Nat.le_succ _, Nat.le_add_right _ _⟩, fun D dA base n0 k0 p l e R s m args below meth c Q C hb hn hk hrc hrs kk H locs ls hR hS hl => ?_⟩
  have hrc : h.1 + 1 - n0 ≤ R.cells := hrc
  have hrs : h.2.1 + ts.length - k0 ≤ R.slots := hrs
  have hKn := C.2.2.2.2.2.2.1.1 a _ hc
  refine W.newcK (n := N) C.1 C.2.1 C.2.2.2.1 (C.2.2.2.2.1 _ hcl) (C.2.2.2.2.1 _ hinst) (C.2.2.2.2.1 _ hini) rfl d (by omega) (by omega) hKn.2.1 hR.1 fun H1 kC hkC e1 z1 o1 => ?_
  refine W.cs (cells' := h.1 + 1 - n0) (slots' := h.2.1 + ts.length - k0) (by omega) (by omega) ?_
  refine kk H1 locs ls (hR.new (by rw [z1, hR.1]) (fun q hq => o1 q (by rw [← hR.1]; exact hq)) ⟨hR.2.1, trivial, _, hc, (u_born ty0 C.2.2.2.2.1 hin hKn hkC e1 hty).to hfs⟩) ⟨Nat.le_trans hS.1 (by rw [z1, hR.1]; omega), fun x h1 h2 => (o1 x (by rw [← hR.1]; exact Nat.lt_of_lt_of_le h1 hS.1)).trans (hS.2.1 x h1 h2), hS.2.2⟩ hl

theorem sd_newa {G : AG} {mt : Nat → AM} {y : AM} {pc : Nat} (z : Int) (a b : Nat) (ts : List (Int × Nat)) {at0 : ArrayType} {ty : FieldType} (d : decode y.2.1 pc = .ok (.newarray at0, 2)) (hat : newarray.typeOf at0 = ty) (ha : Nat.beq a 99 = false) (hty : G.2.1[a]? = some ty) (harr : Cond.arrayClass ty ∈ G.2.2.1) (hty2 : av_fit b ty = true ∨ (b = 0 ∧ ty = .boolean)) (hb2 : b ≤ 1) : am_Snd G mt y pc (52, z, a, b, pc + 2, ts) := by
  intro lv st h o hlen ex
  change xo_52 z a b (pc + 2) ts lv st h = some o at ex
  unfold xo_52 at ex
  split at ex
  · rename_i n r
    cases hca : (decide (0 ≤ w32 n) && decide (w32 n ≤ 1000000)) with
    | false => rw [hca] at ex; cases ex
    | true =>
      rw [hca] at ex
      simp only [Bool.and_eq_true, decide_eq_true_eq] at hca
      cases ex
      refine ⟨⟨rfl, Nat.le_succ _, Nat.le_add_right _ _⟩, fun D dA base n0 k0 p l e R s m args below meth c Q C hb hn hk hrc hrs kk H locs ls hR hS hl => ?_⟩
      have hrc : h.1 + 1 - n0 ≤ R.cells := hrc
      have hrs : h.2.1 + (w32 n).toNat - k0 ≤ R.slots := hrs
      subst hat
      have hcb : componentBytes (newarray.typeOf at0) ≤ 8 := by cases at0 <;> decide
      refine va_newaK C.1 C.2.1 (C.2.2.2.2.1 _ harr) rfl d rfl (fun q0 => by have := w32_neg.1 q0; omega) (w32_clamp n) (Nat.le_trans (Nat.mul_le_mul (show (w32 n).toNat ≤ 1000000 by omega) hcb) (by decide)) (by omega) (by omega) hR.1 fun H1 cA e1 z1 o1 hAr hNm => ?_
      have hRA := (C.2.2.2.2.2.2.1.2 a _ (am_tys_at hty)).2
      have hcA : cA = dA a := by
        have : s.vm.findClass ("[" ++ (newarray.typeOf at0).toString) = some (dA a) := by cases at0 <;> exact hRA
        exact Option.some.inj (hNm.symm.trans this)
      subst hcA
      refine W.cs (cells' := h.1 + 1 - n0) (slots' := h.2.1 + (w32 n).toNat - k0) (by omega) (by omega) ?_
      refine kk H1 locs ls (hR.new (by rw [z1, hR.1]) (fun q hq => o1 q (by rw [← hR.1]; exact hq)) ?_) ⟨Nat.le_trans hS.1 (by rw [z1, hR.1]; omega), fun x h1 h2 => (o1 x (by rw [← hR.1]; exact Nat.lt_of_lt_of_le h1 hS.1)).trans (hS.2.1 x h1 h2), hS.2.2⟩ hl
      have h0 : am_sc (.inl (a, (w32 n).toNat, ac_0 b)) = none := by
        match b, hb2 with
        | 0, _ => simp [am_sc, ac_0, ha]
        | 1, _ => simp [am_sc, ac_0]
      unfold am_cell
      rw [h0]
      refine ⟨hR.2.1, (List.getElem?_eq_some_iff.mp hty).1, ?_⟩
      match b, hb2, hty2 with
      | 0, _, hty2 =>
        show H1[h.1]? = some (vp_cell _ _)
        rw [e1, vp_cell_i]
        congr 2
        funext j
        cases at0 <;> first | rfl | (rcases hty2 with h9 | ⟨-, h9⟩ <;> cases h9)
      | 1, _, hty2 =>
        show H1[h.1]? = some (vp_cell _ _)
        rw [e1, vp_cell_l]
        congr 2
        funext j
        cases at0 <;> first | rfl | (rcases hty2 with h9 | ⟨h9, -⟩ <;> cases h9)
  · cases ex

theorem sd_anew {G : AG} {mt : Nat → AM} {y : AM} {pc : Nat} (z : Int) (a b : Nat) (ts : List (Int × Nat)) {idx : Nat} {cC : String} (d : decode y.2.1 pc = .ok (.anewarray idx, 3)) (ha : Nat.beq a 99 = false) (hty : G.2.1[a]? = some (.object cC)) (hlk : Cond.classLink y.1.cls idx cC ∈ G.2.2.1) (hao : cC ∈ G.2.2.2) : am_Snd G mt y pc (52, z, a, 2, pc + 3, ts) := by
  intro lv st h o hlen ex
  change xo_52 z a 2 (pc + 3) ts lv st h = some o at ex
  unfold xo_52 at ex
  split at ex
  · rename_i n r
    cases hca : (decide (0 ≤ w32 n) && decide (w32 n ≤ 1000000)) with
    | false => rw [hca] at ex; cases ex
    | true =>
      rw [hca] at ex
      simp only [Bool.and_eq_true, decide_eq_true_eq] at hca
      cases ex
      refine ⟨⟨rfl, Nat.le_succ _, Nat.le_add_right _ _⟩, fun D dA base n0 k0 p l e R s m args below meth c Q C hb hn hk hrc hrs kk H locs ls hR hS hl => ?_⟩
      have hrc : h.1 + 1 - n0 ≤ R.cells := hrc
      have hrs : h.2.1 + (w32 n).toNat - k0 ≤ R.slots := hrs
      refine W.anew C.1 C.2.1 C.2.2.2.1 (C.2.2.2.2.1 _ hlk) (va_AO.use (C.2.2.2.2.2.2.2.1 _ hao)) rfl d rfl (fun q0 => by have := w32_neg.1 q0; omega) (by rw [w32_clamp]; omega) (by omega) (by rw [w32_clamp]; omega) fun cA kA comp f1 f2 f3 f4 => ?_
      obtain ⟨kA', comp', -, -, -, hRA⟩ := (C.2.2.2.2.2.2.1.2 a _ (am_tys_at hty)).2
      have hcA : cA = dA a := Option.some.inj (f1.symm.trans hRA)
      subst hcA
      rw [w32_clamp]
      generalize hH1 : H.push ({ cls := dA a, slots := Array.replicate (w32 n).toNat .null, vm := .none } : Cell) = H1
      have z1 : H1.size = H.size + 1 := by rw [← hH1, Array.size_push]
      have e1 : H1[H.size]? = some (arrV (dA a) (w32 n).toNat (fun _ => .null)) := by rw [← hH1, Array.getElem?_push_size, ← arrV_new]
      have o1 : ∀ q : Nat, q < H.size → H1[q]? = H[q]? := fun q hq => by rw [← hH1, Array.getElem?_push, if_neg (Nat.ne_of_lt hq)]
      rw [hR.1]
      refine W.cs (cells' := h.1 + 1 - n0) (slots' := h.2.1 + (w32 n).toNat - k0) (by omega) (by omega) ?_
      refine kk H1 locs ls (hR.new z1 o1 ⟨hR.2.1, (List.getElem?_eq_some_iff.mp hty).1, ?_⟩) ⟨Nat.le_trans hS.1 (by omega), fun x h1 h2 => (o1 x (Nat.lt_of_lt_of_le h1 hS.1)).trans (hS.2.1 x h1 h2), hS.2.2⟩ hl
      show H1[h.1]? = some (vp_cell _ _)
      rw [← hR.1, e1, vp_cell_q]
      rfl
  · cases ex

theorem am_go {G : AG} {D : va_G} {dA : Nat → ClassId} {base : Nat} {p : Program} {l : Launch} {e : Env} {R : Room} {s : State} {m : MethodId} {args : Array Value} {below : List Frame} {meth : Method} {c : Code} {Q : State → Prop} {H : Heap} {locs : List Loc} {cells slots mc ms pc : Nat} {ls : Array Slot} {st0 rest : List Value} {r : Option AV} {h' : AH} {A : Array Value} (hr : va_Run p l e R s m args below meth c H locs cells slots mc ms (F0 m pc ls st0) rest (am_Qc G D dA base r h' A) (fun q => base ≤ q)) (hS : va_S (fun q => base ≤ q) s.heap H locs)
    (kk : ∀ (H1 : Heap) (locs1 : List Loc), am_Rep G D dA base s h' H1 → va_S (fun q => base ≤ q) s.heap H1 locs1 → W p l e R s m args below meth c H1 locs1 (cells + mc) (slots + ms) Q (F0 m (pc + 3) ls (r.toList.map av_V ++ rest))) : W p l e R s m args below meth c H locs cells slots Q (F0 m pc ls st0) := by
  intro T hT X
  obtain ⟨v, st₀, t, T', L, h0, X', hL, e1, e2, ⟨hv, hrep, hz, hk⟩, st⟩ := hr T hT X
  have hv : v = r.map av_V := by injection hv
  subst hv
  rw [h0] at hz hk
  have hvm : s.vm.Alike t.vm := by rw [← e2]; exact X'.warmed.alike
  obtain ⟨t2, a1, b1⟩ := kk T'.heap (locs ++ L) (by rw [e1]; exact hrep.moved hvm.symm)
    ⟨Nat.le_trans hS.1 (by rw [e1]; exact hz), fun q h1 h2 => by rw [e1, hk q (Nat.lt_of_lt_of_le h1 hS.1) h2]; exact hS.2.1 q h1 h2, fun q hq => by
      rcases List.mem_append.mp hq with h | h
      · exact hS.2.2 q h
      · exact hL q h⟩ T' rfl X'
  refine ⟨t2, st t2 ?_, b1⟩
  cases r with
  | none => exact a1
  | some r => exact a1
