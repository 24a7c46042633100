-- calls and ends
theorem am_split {st : List AV} {b : Nat} {v : AV} {tl : List AV} (h : (st.take b).reverse = v :: tl) : st = tl.reverse ++ v :: st.drop b := by
  have h1 : st.take b = tl.reverse ++ [v] := by
    have := congrArg List.reverse h
    simpa using this
  calc st = st.take b ++ st.drop b := (List.take_append_drop b st).symm
    _ = _ := by rw [h1]; simp
-- words: all that the list has are good
def am_Gd (G : AG) : Prop := ∀ w ∈ G.2.2.1, goodWord w = true
theorem am_good {G : AG} (hG : am_Gd G) {ws : List Cond} (h : ∀ w ∈ ws, w ∈ G.2.2.1) : GoodIn G.2.2.1 ws := fun w hw => ⟨h w hw, good_of_word (hG w (h w hw))⟩
theorem am_in_ws {G : AG} {y : AM} (hc : Cond.code y.1 y.2.1 y.2.2.1 y.2.2.2.1 ∈ G.2.2.1) : ∀ w ∈ am_ws G y, w ∈ G.2.2.1 := by
  intro w hw
  rcases List.mem_cons.mp hw with h | h
  · rw [h]; exact hc
  · exact h
theorem sd_callV {G : AG} {mt : Nat → AM} {y : AM} {pc : Nat} (z : Int) (a b ci : Nat) {idx : Nat} {y1 : AM} (hy : mt a = y1) {T : u_T} {N : Nat} (d : decode y.2.1 pc = .ok (.invokevirtual idx, 3)) (hG : am_Gd G) (hc : G.1[ci]? = some (y1.1.cls, T, N)) (hcode : Cond.code y1.1 y1.2.1 y1.2.2.1 y1.2.2.2.1 ∈ G.2.2.1) (hws : ∀ w ∈ wsV y.1.cls idx y1.1.cls y1.1 [], w ∈ G.2.2.1) (hd : y1.1.cls ≠ "java/lang/invoke/MethodHandle" ∧ y1.1.cls ≠ "java/lang/invoke/VarHandle" ∧ (parseMethodDescriptor y1.1.desc).map (fun d => d.parameters.length) = some (b - 1)) (hb1 : 1 ≤ b) (hpad : b + z.toNat = y1.2.2.1) (hfr : y1.2.2.2.2.1 + 1 ≤ y.2.2.2.2.1) (hlo : 8 + (y1.2.2.1 + 11) + y1.2.2.2.2.2 ≤ y.2.2.2.2.2) : am_Snd G mt y pc (61, z, a, b, pc + 3, [(0, ci)]) := by
  subst hy
  intro lv st h o hlen ex
  change xo_61 z a b (pc + 3) [(0, ci)] lv st h = some o at ex
  unfold xo_61 at ex
  split at ex
  · rename_i q tl hst
    split at ex
    · rename_i c0 fs hq
      have hci : (([(0, ci)] : List (Int × Nat)).map fun x => x.2).headD 0 = ci := rfl
      rw [hci] at ex
      cases hca : (Nat.beq c0 ci && (Nat.ble b st.length && (Nat.ble (av_sum (st.drop b)) 8 && (st.take b).all (fun v => !av_two v)))) with
      | false => rw [hca] at ex; cases ex
      | true =>
        rw [hca] at ex
        simp only [Bool.and_eq_true, Nat.ble_eq, List.all_eq_true, Bool.not_eq_true'] at hca
        obtain ⟨h1, h2, h3, h4⟩ := hca
        have h1 := Nat.eq_of_beq_eq_true h1
        subst h1
        cases ex
        have hlb : (st.take b).reverse.length = b := by simp [h2]
        have htl : tl.length = b - 1 := by rw [hst] at hlb; simp at hlb; omega
        refine ⟨⟨by rw [hlb]; exact hpad, fun v hv => h4 v (List.mem_reverse.1 hv)⟩, fun D dA base n0 k0 p l e R s m args below meth c Q C hb hn hk r h' hM hm1 hm2 hrc hrs kk H locs ls hR hS hl => ?_⟩
        have hsp := am_split hst
        rw [hst] at hM
        have e0 : st.map av_V = (tl.map av_V).reverse ++ .ref q :: (st.drop b).map av_V := by
          conv => lhs; rw [hsp]
          simp [av_V, va_rf]
        rw [e0]
        refine am_go (rest := (st.drop b).map av_V) (va_runV (As := tl.map av_V) ⟨C.1, C.2.1, C.2.2.1, C.2.2.2.1, C.2.2.2.2.1⟩ hM (cwV (b - 1) C.2.2.2.2.1 (am_good hG ?_) rfl rfl rfl ⟨rfl, hd⟩ ⟨Nat.le_trans hfr C.2.2.2.2.2.2.2.2.1, Nat.le_trans hlo C.2.2.2.2.2.2.2.2.2⟩) ⟨am_blind, va_recv C.2.2.2.2.2.2.1 (am_one (hR.obj hq).2) (ci := c0) (q0 := 0) hc rfl, fun U hU hW => ⟨rfl, by rw [hU]; exact hR.moved hW.alike, C.2.2.2.2.2.2.1.moved hW.alike, fun x hx => (C.2.2.2.2.2.2.2.1 x hx).moved hW.alike⟩⟩ rfl (by rw [List.length_map]; exact htl) hl.1 rfl (lv_room (by rw [av_sum_eq]; exact h3)) d ⟨by omega, by omega⟩) hS (fun H1 locs1 hR1 hS1 => ?_)
        · intro w hw
          rcases List.mem_append.mp hw with hw | hw
          · exact hws w (List.mem_append_left _ hw)
          · exact am_in_ws hcode w hw
        · refine W.cs (cells' := h'.1 - n0) (slots' := h'.2.1 - k0) (by omega) (by omega) ?_
          have kk := kk H1 locs1 ls hR1 hS1 hl
          rw [List.map_append] at kk
          exact kk
    · cases ex
  · cases ex
theorem sd_callI {G : AG} {mt : Nat → AM} {y : AM} {pc : Nat} (z : Int) (a b ci : Nat) {idx : Nat} {y1 : AM} (hy : mt a = y1) (d : decode y.2.1 pc = .ok (.invokespecial idx, 3)) (hG : am_Gd G) (hcode : Cond.code y1.1 y1.2.1 y1.2.2.1 none ∈ G.2.2.1) (hret : y1.2.2.2.1 = none) (hini : Cond.initialized y1.1.cls ∈ G.2.2.1) (hlk : Cond.methodLink y.1.cls idx y1.1 ∈ G.2.2.1) (hinm : Cond.instanceMethod y1.1 ∈ G.2.2.1) (hnm : y1.1.name = "<init>") (hd : y1.1.cls ≠ "java/lang/invoke/MethodHandle" ∧ y1.1.cls ≠ "java/lang/invoke/VarHandle" ∧ (parseMethodDescriptor y1.1.desc).map (fun d => d.parameters.length) = some (b - 1)) (hb1 : 1 ≤ b) (hpad : b + z.toNat = y1.2.2.1) (hfr : y1.2.2.2.2.1 + 1 ≤ y.2.2.2.2.1) (hlo : 8 + (y1.2.2.1 + 11) + y1.2.2.2.2.2 ≤ y.2.2.2.2.2) : am_Snd G mt y pc (61, z, a, b, pc + 3, [(0, ci)]) := by
  subst hy
  intro lv st h o hlen ex
  change xo_61 z a b (pc + 3) [(0, ci)] lv st h = some o at ex
  unfold xo_61 at ex
  split at ex
  · rename_i q tl hst
    split at ex
    · rename_i c0 fs hq
      cases hca : (Nat.beq c0 ((([(0, ci)] : List (Int × Nat)).map fun x => x.2).headD 0) && (Nat.ble b st.length && (Nat.ble (av_sum (st.drop b)) 8 && (st.take b).all (fun v => !av_two v)))) with
      | false => rw [hca] at ex; cases ex
      | true =>
        rw [hca] at ex
        simp only [Bool.and_eq_true, Nat.ble_eq, List.all_eq_true, Bool.not_eq_true'] at hca
        obtain ⟨h1, h2, h3, h4⟩ := hca
        cases ex
        have hlb : (st.take b).reverse.length = b := by simp [h2]
        have htl : tl.length = b - 1 := by rw [hst] at hlb; simp at hlb; omega
        refine ⟨⟨by rw [hlb]; exact hpad, fun v hv => h4 v (List.mem_reverse.1 hv)⟩, fun D dA base n0 k0 p l e R s m args below meth c Q C hb hn hk r h' hM hm1 hm2 hrc hrs kk H locs ls hR hS hl => ?_⟩
        have hsp := am_split hst
        rw [hst] at hM
        have e0 : st.map av_V = (tl.map av_V).reverse ++ .ref q :: (st.drop b).map av_V := by
          conv => lhs; rw [hsp]
          simp [av_V, va_rf]
        rw [e0]
        refine am_go (rest := (st.drop b).map av_V) (va_runI (As := tl.map av_V) ⟨C.1, C.2.1, C.2.2.1, C.2.2.2.1, C.2.2.2.2.1⟩ hM (cwI (b - 1) C.2.2.2.2.1 (am_good hG (am_in_ws (by rw [hret]; exact hcode))) (by unfold am_ws; rw [hret]) rfl rfl (C.2.2.2.2.1 _ hini) (C.2.2.2.2.1 _ hlk) (C.2.2.2.2.1 _ hinm) hnm hd ⟨Nat.le_trans hfr C.2.2.2.2.2.2.2.2.1, Nat.le_trans hlo C.2.2.2.2.2.2.2.2.2⟩) ⟨am_blind, fun U hU hW => ⟨rfl, by rw [hU]; exact hR.moved hW.alike, C.2.2.2.2.2.2.1.moved hW.alike, fun x hx => (C.2.2.2.2.2.2.2.1 x hx).moved hW.alike⟩⟩ rfl (by rw [List.length_map]; exact htl) hl.1 rfl (lv_room (by rw [av_sum_eq]; exact h3)) d ⟨by omega, by omega⟩) hS (fun H1 locs1 hR1 hS1 => ?_)
        refine W.cs (cells' := h'.1 - n0) (slots' := h'.2.1 - k0) (by omega) (by omega) ?_
        have kk := kk H1 locs1 ls hR1 hS1 hl
        rw [List.map_append] at kk
        exact kk
    · cases ex
  · cases ex
theorem sd_callS {G : AG} {mt : Nat → AM} {y : AM} {pc : Nat} (z : Int) (a b : Nat) (ts : List (Int × Nat)) {idx : Nat} {y1 : AM} (hy : mt a = y1) (d : decode y.2.1 pc = .ok (.invokestatic idx, 3)) (hG : am_Gd G) (hcode : Cond.code y1.1 y1.2.1 y1.2.2.1 y1.2.2.2.1 ∈ G.2.2.1) (hws : ∀ w ∈ va_wsS y.1.cls idx y1.1 [], w ∈ G.2.2.1) (hd : y1.1.cls ≠ "java/lang/invoke/MethodHandle" ∧ y1.1.cls ≠ "java/lang/invoke/VarHandle" ∧ (parseMethodDescriptor y1.1.desc).map (fun d => d.parameters.length) = some b) (hpad : b + z.toNat = y1.2.2.1) (hfr : y1.2.2.2.2.1 + 1 ≤ y.2.2.2.2.1) (hlo : 8 + (y1.2.2.1 + 11) + y1.2.2.2.2.2 ≤ y.2.2.2.2.2) : am_Snd G mt y pc (60, z, a, b, pc + 3, ts) := by
  subst hy
  intro lv st h o hlen ex
  change xo_60 z a b (pc + 3) ts lv st h = some o at ex
  unfold xo_60 at ex
  cases hca : (Nat.ble b st.length && (Nat.ble (av_sum (st.drop b)) 8 && (st.take b).all (fun v => !av_two v))) with
  | false => rw [hca] at ex; cases ex
  | true =>
    rw [hca] at ex
    simp only [Bool.and_eq_true, Nat.ble_eq, List.all_eq_true, Bool.not_eq_true'] at hca
    obtain ⟨h2, h3, h4⟩ := hca
    cases ex
    have hlb : (st.take b).reverse.length = b := by simp [h2]
    refine ⟨⟨by rw [hlb]; exact hpad, fun v hv => h4 v (List.mem_reverse.1 hv)⟩, fun D dA base n0 k0 p l e R s m args below meth c Q C hb hn hk r h' hM hm1 hm2 hrc hrs kk H locs ls hR hS hl => ?_⟩
    have e0 : st.map av_V = (((st.take b).reverse).map av_V).reverse ++ (st.drop b).map av_V := by
      rw [← List.map_reverse, List.reverse_reverse, ← List.map_append, List.take_append_drop]
    rw [e0]
    refine am_go (rest := (st.drop b).map av_V) (va_runS (As := (st.take b).reverse.map av_V) ⟨C.1, C.2.1, C.2.2.1, C.2.2.2.1, C.2.2.2.2.1⟩ hM (va_cwS b C.2.2.2.2.1 (am_good hG ?_) rfl rfl rfl hd ⟨Nat.le_trans hfr C.2.2.2.2.2.2.2.2.1, Nat.le_trans hlo C.2.2.2.2.2.2.2.2.2⟩) ⟨am_blind, fun U hU hW => ⟨rfl, by rw [hU]; exact hR.moved hW.alike, C.2.2.2.2.2.2.1.moved hW.alike, fun x hx => (C.2.2.2.2.2.2.2.1 x hx).moved hW.alike⟩⟩ rfl (by rw [List.length_map]; exact hlb) hl.1 rfl (lv_room (by rw [av_sum_eq]; exact h3)) d ⟨by omega, by omega⟩) hS (fun H1 locs1 hR1 hS1 => ?_)
    · intro w hw
      rcases List.mem_append.mp hw with hw | hw
      · exact hws w (List.mem_append_left _ hw)
      · exact am_in_ws hcode w hw
    · refine W.cs (cells' := h'.1 - n0) (slots' := h'.2.1 - k0) (by omega) (by omega) ?_
      have kk := kk H1 locs1 ls hR1 hS1 hl
      rw [List.map_append] at kk
      exact kk
theorem sd_oinit {G : AG} {mt : Nat → AM} {y : AM} {pc : Nat} (z : Int) (a b : Nat) (ts : List (Int × Nat)) {idx : Nat} (d : decode y.2.1 pc = .ok (.invokespecial idx, 3)) (h1 : Cond.methodLink y.1.cls idx Lib.objectInit ∈ G.2.2.1) (h2 : Cond.instanceMethod Lib.objectInit ∈ G.2.2.1) (h3 : Cond.code Lib.objectInit ⟨#[0xb1]⟩ 1 none ∈ G.2.2.1) (hfr : 1 ≤ y.2.2.2.2.1) (hlo : 20 ≤ y.2.2.2.2.2) : am_Snd G mt y pc (62, z, a, b, pc + 3, ts) := by
  intro lv st h o hlen ex
  change xo_62 z a b (pc + 3) ts lv st h = some o at ex
  unfold xo_62 at ex
  split at ex
  · rename_i q r
    cases hca : Nat.ble (av_sum r) 8 with
    | false => rw [hca] at ex; cases ex
    | true =>
      rw [hca] at ex
      have hca := Nat.le_of_ble_eq_true hca
      cases ex
      refine ⟨⟨rfl, Nat.le_refl _, Nat.le_refl _⟩, fun D dA base n0 k0 p l e R s m args below meth c Q C hb hn hk _ _ kk H locs ls hR hS hl => ?_⟩
      have hsum : ((r.map av_V).map fun v => v.category).sum ≤ 8 := by rw [av_sum_eq]; exact hca
      have hRl := C.2.2.2.2.2.2.2.2.2
      have hRf := C.2.2.2.2.2.2.2.2.1
      exact W.objInit C.1 C.2.1 C.2.2.2.1 (C.2.2.2.2.1 _ h1) (C.2.2.2.2.1 _ h2) (C.2.2.2.2.1 _ h3) rfl (by show ls.size = _; rw [hl.1, C.2.2.1]) rfl d (by omega) (by have := lv_room (m := m) (pc := pc) (ls := ls) (rest := r.map av_V) hsum; show 2 * (F0 m pc ls (r.map av_V)).monitorRoom + _ + 12 ≤ _; omega) (kk H locs ls hR hS hl)
  · cases ex
theorem sd_min {G : AG} {mt : Nat → AM} {y : AM} {pc : Nat} (z : Int) (a b : Nat) (ts : List (Int × Nat)) {idx : Nat} (d : decode y.2.1 pc = .ok (.invokestatic idx, 3)) (h1 : Cond.methodLink y.1.cls idx Lib.Math.min.name ∈ G.2.2.1) (h2 : Cond.static Lib.Math.min.name ∈ G.2.2.1) (h3 : Cond.initialized "java/lang/Math" ∈ G.2.2.1) (h4 : Cond.code Lib.Math.min.name Lib.Math.min.code 2 (some .int) ∈ G.2.2.1) (hfr : 1 ≤ y.2.2.2.2.1) (hlo : 21 ≤ y.2.2.2.2.2) : am_Snd G mt y pc (64, z, a, b, pc + 3, ts) := by
  intro lv st h o hlen ex
  change xo_64 z a b (pc + 3) ts lv st h = some o at ex
  unfold xo_64 at ex
  split at ex
  · rename_i y0 x0 r
    cases hca : Nat.ble (av_sum r) 8 with
    | false => rw [hca] at ex; cases ex
    | true =>
      rw [hca] at ex
      have hca := Nat.le_of_ble_eq_true hca
      cases ex
      refine ⟨⟨rfl, Nat.le_refl _, Nat.le_refl _⟩, fun D dA base n0 k0 p l e R s m args below meth c Q C hb hn hk hrc hrs kk H locs ls hR hS hl => ?_⟩
      have hsum : ((r.map av_V).map fun v => v.category).sum ≤ 8 := by rw [av_sum_eq]; exact hca
      have hRl := C.2.2.2.2.2.2.2.2.2
      have hRf := C.2.2.2.2.2.2.2.2.1
      refine va_mmin C.1 C.2.1 (by rw [C.2.2.1, hl.1]) C.2.2.2.1 (C.2.2.2.2.1 _ h1) (C.2.2.2.2.1 _ h2) (C.2.2.2.2.1 _ h3) (C.2.2.2.2.1 _ h4) (by omega) (by omega) hrc hrs d ?_
      have e : (if Int32.ofInt y0 < Int32.ofInt x0 then Int32.ofInt y0 else Int32.ofInt x0) = Int32.ofInt (if w32 y0 < w32 x0 then y0 else x0) := by
        by_cases hq : w32 y0 < w32 x0
        · rw [if_pos hq, if_pos (w32_lt.2 hq)]
        · rw [if_neg hq, if_neg (fun q0 => hq (w32_lt.1 q0))]
      rw [e]
      exact kk H locs ls hR hS hl
  · cases ex
theorem sd_ret {G : AG} {mt : Nat → AM} {y : AM} {pc : Nat} (z : Int) (a b nx : Nat) (ts : List (Int × Nat)) (d : decode y.2.1 pc = .ok (.return_, 1)) (hr : y.2.2.2.1 = none) : am_Snd G mt y pc (70, z, a, b, nx, ts) := by
  intro lv st h o hlen ex
  change xo_70 z a b nx ts lv st h = some o at ex
  unfold xo_70 at ex
  split at ex
  · cases ex
    exact ⟨rfl, d, hr⟩
  · cases ex
theorem sd_iret {G : AG} {mt : Nat → AM} {y : AM} {pc : Nat} (z : Int) (a b nx : Nat) (ts : List (Int × Nat)) (d : decode y.2.1 pc = .ok (.ireturn, 1)) (hr : y.2.2.2.1 = some .int) : am_Snd G mt y pc (71, z, a, b, nx, ts) := by
  intro lv st h o hlen ex
  change xo_71 z a b nx ts lv st h = some o at ex
  unfold xo_71 at ex
  split at ex
  · cases ex
    exact ⟨rfl, d, _, hr, rfl⟩
  · cases ex
theorem sd_zret {G : AG} {mt : Nat → AM} {y : AM} {pc : Nat} (z : Int) (a b nx : Nat) (ts : List (Int × Nat)) (d : decode y.2.1 pc = .ok (.ireturn, 1)) (hr : y.2.2.2.1 = some .boolean) : am_Snd G mt y pc (72, z, a, b, nx, ts) := by
  intro lv st h o hlen ex
  change xo_72 z a b nx ts lv st h = some o at ex
  unfold xo_72 at ex
  split at ex
  · rename_i x
    cases hca : av_okb 3 (.inl x) with
    | false => rw [hca] at ex; cases ex
    | true =>
      rw [hca] at ex
      cases ex
      exact ⟨rfl, d, _, hr, (av_fits (k := 3) (ty := .boolean) (v := .inl x) rfl hca).1⟩
  · cases ex
theorem sd_aret {G : AG} {mt : Nat → AM} {y : AM} {pc : Nat} (z : Int) (a b nx : Nat) (ts : List (Int × Nat)) (d : decode y.2.1 pc = .ok (.areturn, 1)) {rt : FieldType} (hr : y.2.2.2.1 = some rt) (hrt : (∃ n, rt = .object n) ∨ ∃ t, rt = .array t) : am_Snd G mt y pc (73, z, a, b, nx, ts) := by
  intro lv st h o hlen ex
  change xo_73 z a b nx ts lv st h = some o at ex
  unfold xo_73 at ex
  split at ex
  · cases ex
    exact ⟨rfl, d, rt, hr, hrt⟩
  · cases ex
theorem sd_bad {G : AG} {mt : Nat → AM} {y : AM} {pc : Nat} : am_Snd G mt y pc (99, 0, 0, 0, 0, []) := by
  intro lv st h o hlen ex
  cases ex
theorem ai_sw_out {x : Int} {d : Nat} : ∀ {ts : List (Int × Nat)}, (∀ q ∈ ts, x ≠ q.1) → ai_sw ts x d = d := by
  intro ts
  induction ts with
  | nil => intro _; rfl
  | cons q r ih =>
    intro h
    simp only [ai_sw]
    rw [if_neg (h q List.mem_cons_self)]
    exact ih fun p hp => h p (List.mem_cons_of_mem _ hp)
theorem sd_table {G : AG} {mt : Nat → AM} {y : AM} {pc : Nat} (z : Int) (a b nx : Nat) (ts : List (Int × Nat)) {dflt lo hi : Int} {offs : Array Int} {len : Nat} (d : decode y.2.1 pc = .ok (.tableswitch dflt lo hi offs, len)) (h1 : ∀ q ∈ ts, lo ≤ q.1 ∧ q.1 ≤ hi) (h2 : (pc : Int) + dflt = (a : Int)) (h3 : ∀ i : Nat, i < (hi + 1 - lo).toNat → (offs[i]?).map (fun off => (pc : Int) + off) = some ((ai_sw ts (lo + i) a : Nat) : Int)) : am_Snd G mt y pc (34, z, a, b, nx, ts) := by
  intro lv st h o hlen ex
  change xo_34 z a b nx ts lv st h = some o at ex
  unfold xo_34 at ex
  split at ex
  · rename_i x r
    cases h0 : Nat.beq (ai_sw ts (w32 x) a) 0 with
    | true => rw [h0] at ex; cases ex
    | false =>
    rw [h0] at ex
    cases ex
    refine ⟨⟨rfl, Nat.le_refl _, Nat.le_refl _⟩, fun D dA base n0 k0 p l e R s m args below meth c Q C hb hn hk _ _ kk H locs ls hR hS hl => ?_⟩
    have kk := kk H locs ls hR hS hl
    by_cases hx : w32 x < lo ∨ hi < w32 x
    · rw [ai_sw_out (fun q hq q0 => by have := h1 q hq; omega)] at kk
      exact lv_tableOut C.1 C.2.1 d (by rw [w32_ofInt]; exact hx) h2 kk
    · have hi1 : lo + ((w32 x - lo).toNat : Int) = w32 x := by omega
      have h4 := h3 (w32 x - lo).toNat (by omega)
      rw [hi1] at h4
      obtain ⟨off, ho, ht⟩ := Option.map_eq_some_iff.1 h4
      exact lv_tableIn C.1 C.2.1 d (by rw [w32_ofInt]; omega) (by rw [w32_ofInt]; omega) (by rw [w32_ofInt]; exact ho) ht kk
  · cases ex
