-- Runs of the pure machine are runs of the bytecode.
-- a method: its name, bytes, locals, its answer's type, the frames and the locals' words that its callees need
abbrev AM : Type := MethodName × ByteArray × Nat × Option FieldType × Nat × Nat
-- what is fixed: classes, array types, words that stay, names of the arrays' components
abbrev AG : Type := List vw_C × List FieldType × List Cond × List String
def ae_E (dA : Nat → ClassId) : AE → va_E
  | .inl (t, n, .inl f) => .inl (dA t, n, .inl fun j => Int32.ofInt (f j))
  | .inl (t, n, .inr (.inl f)) => .inl (dA t, n, .inr (.inl fun j => Int64.ofBitVec (f j)))
  | .inl (t, n, .inr (.inr f)) => .inl (dA t, n, .inr (.inr (.inr (.inr f))))
  | .inr (ci, fs) => .inr (ci, fs.map av_V)
def am_tys (at_ : List FieldType) (dA : Nat → ClassId) : List (ClassId × FieldType) := (List.range at_.length).map fun t => (dA t, at_.getD t .int)
theorem am_tys_at {at_ : List FieldType} {dA : Nat → ClassId} {t : Nat} {ty : FieldType} (h : at_[t]? = some ty) : (am_tys at_ dA)[t]? = some (dA t, ty) := by
  obtain ⟨h1, h2⟩ := List.getElem?_eq_some_iff.mp h
  simp [am_tys, h1, h2]
-- the script: a cell of type 99, below all others
def am_sc : AE → Option (Nat × (Nat → Int))
  | .inl (t, n, .inl f) => bif Nat.beq t 99 then some (n, f) else none
  | _ => none
def am_ok (k : Nat) : AE → Prop
  | .inl (t, _) => t < k
  | .inr _ => True
def am_cell (G : AG) (D : va_G) (dA : Nat → ClassId) (base : Nat) (U : State) (a : Nat) (e : AE) (H : Heap) : Prop := match am_sc e with
  | some q => a < base ∧ va_X a q.1 (fun j => Int32.ofInt (q.2 j)) U H
  | none => base ≤ a ∧ am_ok G.2.1.length e ∧ va_at D G.1 (a, ae_E dA e) H
def am_Rep (G : AG) (D : va_G) (dA : Nat → ClassId) (base : Nat) (U : State) (h : AH) (H : Heap) : Prop := H.size = h.1 ∧ base ≤ h.1 ∧ ∀ (a : Nat) (e : AE), h.2.2 a = some e → am_cell G D dA base U a e H
theorem am_cell.kept {G : AG} {D : va_G} {dA : Nat → ClassId} {base : Nat} {U : State} {a : Nat} {e : AE} {H H1 : Heap} (h : am_cell G D dA base U a e H) (o : H1[a]? = H[a]?) : am_cell G D dA base U a e H1 := by
  unfold am_cell at h ⊢
  split at h
  · exact ⟨h.1, h.2.kept o⟩
  · exact ⟨h.1, h.2.1, h.2.2.kept o⟩
theorem am_cell.moved {G : AG} {D : va_G} {dA : Nat → ClassId} {base : Nat} {u U : State} {a : Nat} {e : AE} {H : Heap} (hvm : u.vm.Alike U.vm) (h : am_cell G D dA base u a e H) : am_cell G D dA base U a e H := by
  unfold am_cell at h ⊢
  split at h
  · exact ⟨h.1, h.2.moved hvm⟩
  · exact h
theorem am_cell.lt {G : AG} {D : va_G} {dA : Nat → ClassId} {base : Nat} {U : State} {a : Nat} {e : AE} {H : Heap} (h : am_cell G D dA base U a e H) : a < H.size := by
  unfold am_cell at h
  split at h
  · obtain ⟨-, scr, h1, -⟩ := h
    exact (Array.getElem?_eq_some_iff.mp h1).1
  · exact h.2.2.lt
theorem am_Rep.moved {G : AG} {D : va_G} {dA : Nat → ClassId} {base : Nat} {u U : State} {h : AH} {H : Heap} (hvm : u.vm.Alike U.vm) (r : am_Rep G D dA base u h H) : am_Rep G D dA base U h H := ⟨r.1, r.2.1, fun a e k => (r.2.2 a e k).moved hvm⟩
theorem am_Rep.arr {G : AG} {D : va_G} {dA : Nat → ClassId} {base : Nat} {U : State} {h : AH} {H : Heap} (r : am_Rep G D dA base U h H) {a t n : Nat} {f : AC} (k : h.2.2 a = some (.inl (t, n, f))) (ht : Nat.beq t 99 = false) : base ≤ a ∧ t < G.2.1.length ∧ va_at D G.1 (a, ae_E dA (.inl (t, n, f))) H := by
  have := r.2.2 a _ k
  unfold am_cell at this
  have h0 : am_sc (.inl (t, n, f)) = none := by
    rcases f with f | f | f <;> simp [am_sc, ht]
  rw [h0] at this
  exact this
theorem am_Rep.obj {G : AG} {D : va_G} {dA : Nat → ClassId} {base : Nat} {U : State} {h : AH} {H : Heap} (r : am_Rep G D dA base U h H) {a ci : Nat} {fs : List AV} (k : h.2.2 a = some (.inr (ci, fs))) : base ≤ a ∧ va_at D G.1 (a, .inr (ci, fs.map av_V)) H := by
  have := r.2.2 a _ k
  unfold am_cell at this
  exact ⟨this.1, this.2.2⟩
theorem am_Rep.put {G : AG} {D : va_G} {dA : Nat → ClassId} {base : Nat} {U : State} {h : AH} {H H1 : Heap} (r : am_Rep G D dA base U h H) {a : Nat} {e : AE} (z : H1.size = H.size) (o : ∀ q : Nat, q ≠ a → H1[q]? = H[q]?) (n : am_cell G D dA base U a e H1) : am_Rep G D dA base U (ah_put h a e) H1 := by
  refine ⟨z.trans r.1, r.2.1, fun b x hx => ?_⟩
  by_cases hab : b = a
  · subst hab
    have hx' : some e = some x := by simpa [ah_put, va_up] using hx
    cases hx'
    exact n
  · have hx' : h.2.2 b = some x := by simpa [ah_put, va_up, hab] using hx
    exact (r.2.2 b x hx').kept (o b hab)
theorem am_Rep.new {G : AG} {D : va_G} {dA : Nat → ClassId} {base : Nat} {U : State} {h : AH} {H H1 : Heap} (r : am_Rep G D dA base U h H) {k : Nat} {e : AE} (z : H1.size = H.size + 1) (o : ∀ q : Nat, q < H.size → H1[q]? = H[q]?) (n : am_cell G D dA base U h.1 e H1) : am_Rep G D dA base U (ah_new h k e) H1 := by
  refine ⟨by rw [z, r.1]; rfl, Nat.le_succ_of_le r.2.1, fun b x hx => ?_⟩
  by_cases hab : b = h.1
  · subst hab
    have hx' : some e = some x := by simpa [ah_new, va_up] using hx
    cases hx'
    exact n
  · have hx' : h.2.2 b = some x := by simpa [ah_new, va_up, hab] using hx
    exact (r.2.2 b x hx').kept (o b (r.2.2 b x hx').lt)
-- locals
theorem al_at {ls : Array Slot} {nL a : Nat} {lv : AL} {v : AV} (hl : lv_has ls nL (al_V 0 lv)) (h : lv[a]? = some (some v)) (h2 : av_two v = false) : ls[a]? = some (.val (av_V v)) := by
  have := hl.2.2 (a, av_V v) (al_V_mem.2 ⟨a, v, h, h2, by simp⟩)
  exact this
theorem al_store {ls : Array Slot} {nL a : Nat} {lv : AL} {v : AV} (hl : lv_has ls nL ((a, av_V v) :: (al_V 0 lv).filter (fun q => !(q.1 == a) && !(q.1 + 1 == a && q.2.category == 2)))) : lv_has ls nL (al_V 0 (lv.set a (some v))) := by
  refine ⟨hl.1, hl.2.1, fun q hq => ?_⟩
  obtain ⟨j, w, h1, h2, h3⟩ := al_V_mem.1 hq
  refine hl.2.2 q ?_
  by_cases hj : j = a
  · subst hj
    have hw : w = v := by
      rw [List.getElem?_set] at h1
      simp at h1
      exact h1.2.symm
    subst hw
    rw [h3]
    simp
  · have h1' : lv[j]? = some (some w) := by
      rw [List.getElem?_set] at h1
      simpa [Ne.symm hj] using h1
    refine List.mem_cons_of_mem _ (List.mem_filter.2 ⟨al_V_mem.2 ⟨j, w, h1', h2, h3⟩, ?_⟩)
    rw [h3]
    have hc : (av_V w).category = 1 := by rw [av_cat, h2]; rfl
    simp [hc, hj]
-- what a method's frame stands in
def am_Ctx (G : AG) (y : AM) (D : va_G) (dA : Nat → ClassId) (p : Program) (R : Room) (s : State) (m : MethodId) (args : Array Value) (meth : Method) (c : Code) : Prop :=
  p.tables.exec = Jvm.exec ∧ c.code = y.2.1 ∧ c.maxLocals = y.2.2.1 ∧ s.vm.findClass y.1.cls = some m.cls ∧ (∀ w ∈ G.2.2.1, w.before args s = true) ∧ (y.1.name = "<init>" → meth.name = "<init>") ∧ va_K D G.1 (am_tys G.2.1 dA) s ∧ (∀ C ∈ G.2.2.2, va_AO C s) ∧ y.2.2.2.2.1 ≤ R.frames ∧ y.2.2.2.2.2 ≤ R.locals
def am_W (G : AG) (y : AM) (D : va_G) (dA : Nat → ClassId) (base n0 k0 : Nat) (p : Program) (l : Launch) (e : Env) (R : Room) (s : State) (m : MethodId) (args : Array Value) (below : List Frame) (meth : Method) (c : Code) (Q : State → Prop) (pc : Nat) (lv : AL) (st : List AV) (h : AH) : Prop :=
  ∀ (H : Heap) (locs : List Loc) (ls : Array Slot), am_Rep G D dA base s h H → va_S (fun q => base ≤ q) s.heap H locs → lv_has ls y.2.2.1 (al_V 0 lv) → W p l e R s m args below meth c H locs (h.1 - n0) (h.2.1 - k0) Q (F0 m pc ls (st.map av_V))
-- a callee's contract: these arguments, this heap; this answer, that heap
def am_Pc (G : AG) (D : va_G) (dA : Nat → ClassId) (base : Nat) (as : List AV) (h : AH) : Array Value → State → Prop := fun a U => a = (as.map av_V).toArray ∧ am_Rep G D dA base U h U.heap ∧ va_K D G.1 (am_tys G.2.1 dA) U ∧ ∀ C ∈ G.2.2.2, va_AO C U
def am_Qc (G : AG) (D : va_G) (dA : Nat → ClassId) (base : Nat) (r : Option AV) (h' : AH) : Array Value → State → Outcome → State → Prop := fun _ st o t => o = .returned (r.map av_V) ∧ am_Rep G D dA base t h' t.heap ∧ va_F (fun q => base ≤ q) st t
def am_ws (G : AG) (y : AM) : List Cond := .code y.1 y.2.1 y.2.2.1 y.2.2.2.1 :: G.2.2.1
def am_rm (y : AM) (mc ms : Nat) : Room := { frames := y.2.2.2.2.1, cells := mc, slots := ms, locals := y.2.2.2.2.2 }
def am_Met (G : AG) (l : Launch) (y : AM) (D : va_G) (dA : Nat → ClassId) (base : Nat) (as : List AV) (h : AH) (r : Option AV) (h' : AH) : Prop :=
  Met l y.1 (am_ws G y) (am_rm y (h'.1 - h.1) (h'.2.1 - h.2.1)) (am_Pc G D dA base as h) (am_Qc G D dA base r h') (h'.1 - h.1) (h'.2.1 - h.2.1) (fun q => base ≤ q)
theorem am_blind {G : AG} {D : va_G} {dA : Nat → ClassId} {base : Nat} {as : List AV} {h : AH} : FrameBlind (am_Pc G D dA base as h) := by
  intro a U g mk q
  have hv : U.vm.Alike (U.calling g mk a).vm := Vm.Alike.refl U.vm
  exact ⟨q.1, q.2.1.moved hv, q.2.2.1.moved hv, fun C hC => (q.2.2.2 C hC).moved hv⟩
-- how a method ends at pc with the answer r
def am_rt (y : AM) (pc : Nat) (r : Option AV) : Prop := match r with
  | none => decode y.2.1 pc = .ok (.return_, 1) ∧ y.2.2.2.1 = none
  | some (.inl x) => decode y.2.1 pc = .ok (.ireturn, 1) ∧ ∃ ty, y.2.2.2.1 = some ty ∧ narrow ty (.int (Int32.ofInt x)) = .int (Int32.ofInt x)
  | some (.inr (.inl _)) => False
  | some (.inr (.inr _)) => decode y.2.1 pc = .ok (.areturn, 1) ∧ ∃ rt, y.2.2.2.1 = some rt ∧ ((∃ n, rt = .object n) ∨ ∃ t, rt = .array t)
/-- an instruction is sound -/
def am_Snd (G : AG) (mt : Nat → AM) (y : AM) (pc : Nat) (i : AI) : Prop := ∀ (lv : AL) (st : List AV) (h : AH) (o : AO), lv.length = y.2.2.1 → am_exec i lv st h = some o → match o with
  | .inl (pc', lv', st', h') => (lv'.length = lv.length ∧ h.1 ≤ h'.1 ∧ h.2.1 ≤ h'.2.1) ∧ ∀ (D : va_G) (dA : Nat → ClassId) (base n0 k0 : Nat) (p : Program) (l : Launch) (e : Env) (R : Room) (s : State) (m : MethodId) (args : Array Value) (below : List Frame) (meth : Method) (c : Code) (Q : State → Prop), am_Ctx G y D dA p R s m args meth c → base ≤ s.heap.size → n0 ≤ h.1 → k0 ≤ h.2.1 → h'.1 - n0 ≤ R.cells → h'.2.1 - k0 ≤ R.slots → am_W G y D dA base n0 k0 p l e R s m args below meth c Q pc' lv' st' h' → am_W G y D dA base n0 k0 p l e R s m args below meth c Q pc lv st h
  | .inr (.inl (M', as, pad, pc', st')) => (as.length + pad = (mt M').2.2.1 ∧ ∀ v ∈ as, av_two v = false) ∧ ∀ (D : va_G) (dA : Nat → ClassId) (base n0 k0 : Nat) (p : Program) (l : Launch) (e : Env) (R : Room) (s : State) (m : MethodId) (args : Array Value) (below : List Frame) (meth : Method) (c : Code) (Q : State → Prop), am_Ctx G y D dA p R s m args meth c → base ≤ s.heap.size → n0 ≤ h.1 → k0 ≤ h.2.1 → ∀ (r : Option AV) (h' : AH), am_Met G l (mt M') D dA base as h r h' → h.1 ≤ h'.1 → h.2.1 ≤ h'.2.1 → h'.1 - n0 ≤ R.cells → h'.2.1 - k0 ≤ R.slots → am_W G y D dA base n0 k0 p l e R s m args below meth c Q pc' lv (r.toList ++ st') h' → am_W G y D dA base n0 k0 p l e R s m args below meth c Q pc lv st h
  | .inr (.inr r) => st = r.toList ∧ am_rt y pc r
-- rows
theorem sd_iconst {G : AG} {mt : Nat → AM} {y : AM} {pc : Nat} (z : Int) (a b : Nat) (ts : List (Int × Nat)) (d : decode y.2.1 pc = .ok (.iconst z, 1)) : am_Snd G mt y pc (0, z, a, b, pc + 1, ts) := by
  intro lv st h o hlen ex
  change xo_0 z a b (pc + 1) ts lv st h = some o at ex
  unfold xo_0 at ex
  cases ex
  refine ⟨⟨rfl, Nat.le_refl _, Nat.le_refl _⟩, fun D dA base n0 k0 p l e R s m args below meth c Q C hb hn hk _ _ kk H locs ls hR hS hl => ?_⟩
  exact lv_iconst C.1 C.2.1 d rfl (kk H locs ls hR hS hl)

theorem sd_bipush {G : AG} {mt : Nat → AM} {y : AM} {pc : Nat} (z : Int) (a b : Nat) (ts : List (Int × Nat)) (d : decode y.2.1 pc = .ok (.bipush z, 2)) (hz : -128 ≤ z ∧ z < 128) : am_Snd G mt y pc (0, z, a, b, pc + 2, ts) := by
  intro lv st h o hlen ex
  change xo_0 z a b (pc + 2) ts lv st h = some o at ex
  unfold xo_0 at ex
  cases ex
  refine ⟨⟨rfl, Nat.le_refl _, Nat.le_refl _⟩, fun D dA base n0 k0 p l e R s m args below meth c Q C hb hn hk _ _ kk H locs ls hR hS hl => ?_⟩
  exact lv_bipush C.1 C.2.1 d (by apply Int32.toInt_inj.1; rw [Int8.toInt_toInt32, w32_ofInt, Int8.toInt_ofInt_of_le (by omega) (by omega), w32_id (by omega) (by omega)]) (kk H locs ls hR hS hl)

theorem sd_sipush {G : AG} {mt : Nat → AM} {y : AM} {pc : Nat} (z : Int) (a b : Nat) (ts : List (Int × Nat)) (d : decode y.2.1 pc = .ok (.sipush z, 3)) (hz : -32768 ≤ z ∧ z < 32768) : am_Snd G mt y pc (0, z, a, b, pc + 3, ts) := by
  intro lv st h o hlen ex
  change xo_0 z a b (pc + 3) ts lv st h = some o at ex
  unfold xo_0 at ex
  cases ex
  refine ⟨⟨rfl, Nat.le_refl _, Nat.le_refl _⟩, fun D dA base n0 k0 p l e R s m args below meth c Q C hb hn hk _ _ kk H locs ls hR hS hl => ?_⟩
  exact lv_sipush C.1 C.2.1 d (by apply Int32.toInt_inj.1; rw [Int16.toInt_toInt32, w32_ofInt, Int16.toInt_ofInt_of_le (by omega) (by omega), w32_id (by omega) (by omega)]) (kk H locs ls hR hS hl)

theorem sd_ldc {G : AG} {mt : Nat → AM} {y : AM} {pc : Nat} (z : Int) (a b : Nat) (ts : List (Int × Nat)) {idx : Nat} (d : decode y.2.1 pc = .ok (.ldc idx, 2)) (hw : Cond.constant y.1.cls idx (Int32.ofInt z) ∈ G.2.2.1) : am_Snd G mt y pc (0, z, a, b, pc + 2, ts) := by
  intro lv st h o hlen ex
  change xo_0 z a b (pc + 2) ts lv st h = some o at ex
  unfold xo_0 at ex
  cases ex
  refine ⟨⟨rfl, Nat.le_refl _, Nat.le_refl _⟩, fun D dA base n0 k0 p l e R s m args below meth c Q C hb hn hk _ _ kk H locs ls hR hS hl => ?_⟩
  exact lv_ldc C.1 C.2.1 C.2.2.2.1 (C.2.2.2.2.1 _ hw) d (kk H locs ls hR hS hl)

theorem sd_iload_n {G : AG} {mt : Nat → AM} {y : AM} {pc : Nat} (z : Int) (a b : Nat) (ts : List (Int × Nat)) {k : Fin 4} (hk0 : (k : Nat) = a) (d : decode y.2.1 pc = .ok (.iload_n k, 1)) : am_Snd G mt y pc (1, z, a, b, pc + 1, ts) := by
  intro lv st h o hlen ex
  change xo_1 z a b (pc + 1) ts lv st h = some o at ex
  unfold xo_1 at ex
  split at ex
  · cases ex
    refine ⟨⟨rfl, Nat.le_refl _, Nat.le_refl _⟩, fun D dA base n0 k0 p l e R s m args below meth c Q C hb hn hk _ _ kk H locs ls hR hS hl => ?_⟩
    exact lv_iload_n C.1 C.2.1 d hk0 (al_at hl (by assumption) rfl) (kk H locs ls hR hS hl)
  · cases ex

theorem sd_iload {G : AG} {mt : Nat → AM} {y : AM} {pc : Nat} (z : Int) (a b : Nat) (ts : List (Int × Nat)) (d : decode y.2.1 pc = .ok (.iload a, 2)) : am_Snd G mt y pc (1, z, a, b, pc + 2, ts) := by
  intro lv st h o hlen ex
  change xo_1 z a b (pc + 2) ts lv st h = some o at ex
  unfold xo_1 at ex
  split at ex
  · cases ex
    refine ⟨⟨rfl, Nat.le_refl _, Nat.le_refl _⟩, fun D dA base n0 k0 p l e R s m args below meth c Q C hb hn hk _ _ kk H locs ls hR hS hl => ?_⟩
    exact lv_iload C.1 C.2.1 d (al_at hl (by assumption) rfl) (kk H locs ls hR hS hl)
  · cases ex

theorem sd_aload_n {G : AG} {mt : Nat → AM} {y : AM} {pc : Nat} (z : Int) (a b : Nat) (ts : List (Int × Nat)) {k : Fin 4} (hk0 : (k : Nat) = a) (d : decode y.2.1 pc = .ok (.aload_n k, 1)) : am_Snd G mt y pc (2, z, a, b, pc + 1, ts) := by
  intro lv st h o hlen ex
  change xo_2 z a b (pc + 1) ts lv st h = some o at ex
  unfold xo_2 at ex
  split at ex
  · rename_i x hx
    cases ex
    refine ⟨⟨rfl, Nat.le_refl _, Nat.le_refl _⟩, fun D dA base n0 k0 p l e R s m args below meth c Q C hb hn hk _ _ kk H locs ls hR hS hl => ?_⟩
    have h0 := al_at hl hx rfl
    have kk := kk H locs ls hR hS hl
    cases x with
    | none => exact lv_aload_nN C.1 C.2.1 d hk0 h0 kk
    | some x => exact lv_aload_n C.1 C.2.1 d hk0 h0 kk
  · cases ex

theorem sd_aload {G : AG} {mt : Nat → AM} {y : AM} {pc : Nat} (z : Int) (a b : Nat) (ts : List (Int × Nat)) (d : decode y.2.1 pc = .ok (.aload a, 2)) : am_Snd G mt y pc (2, z, a, b, pc + 2, ts) := by
  intro lv st h o hlen ex
  change xo_2 z a b (pc + 2) ts lv st h = some o at ex
  unfold xo_2 at ex
  split at ex
  · rename_i x hx
    cases ex
    refine ⟨⟨rfl, Nat.le_refl _, Nat.le_refl _⟩, fun D dA base n0 k0 p l e R s m args below meth c Q C hb hn hk _ _ kk H locs ls hR hS hl => ?_⟩
    have h0 := al_at hl hx rfl
    have kk := kk H locs ls hR hS hl
    cases x with
    | none => exact lv_aloadN C.1 C.2.1 d h0 kk
    | some x => exact lv_aload C.1 C.2.1 d h0 kk
  · cases ex

theorem sd_istore_n {G : AG} {mt : Nat → AM} {y : AM} {pc : Nat} (z : Int) (a b : Nat) (ts : List (Int × Nat)) {k : Fin 4} (hk0 : (k : Nat) = a) (d : decode y.2.1 pc = .ok (.istore_n k, 1)) : am_Snd G mt y pc (3, z, a, b, pc + 1, ts) := by
  intro lv st h o hlen ex
  change xo_3 z a b (pc + 1) ts lv st h = some o at ex
  unfold xo_3 at ex
  split at ex
  · rename_i x r
    cases hlt : Nat.blt a lv.length with
    | false => rw [hlt] at ex; cases ex
    | true =>
      rw [hlt] at ex
      cases ex
      have hlt : a < y.2.2.1 := by rw [← hlen]; exact Nat.le_of_ble_eq_true hlt
      refine ⟨⟨List.length_set .., Nat.le_refl _, Nat.le_refl _⟩, fun D dA base n0 k0 p l e R s m args below meth c Q C hb hn hk _ _ kk H locs ls hR hS hl => ?_⟩
      exact lv_istore_n C.1 C.2.1 d hk0 hl hlt rfl (fun ls' hl' => kk H locs ls' hR hS (al_store (v := .inl x) hl'))
  · cases ex

theorem sd_istore {G : AG} {mt : Nat → AM} {y : AM} {pc : Nat} (z : Int) (a b : Nat) (ts : List (Int × Nat)) (d : decode y.2.1 pc = .ok (.istore a, 2)) : am_Snd G mt y pc (3, z, a, b, pc + 2, ts) := by
  intro lv st h o hlen ex
  change xo_3 z a b (pc + 2) ts lv st h = some o at ex
  unfold xo_3 at ex
  split at ex
  · rename_i x r
    cases hlt : Nat.blt a lv.length with
    | false => rw [hlt] at ex; cases ex
    | true =>
      rw [hlt] at ex
      cases ex
      have hlt : a < y.2.2.1 := by rw [← hlen]; exact Nat.le_of_ble_eq_true hlt
      refine ⟨⟨List.length_set .., Nat.le_refl _, Nat.le_refl _⟩, fun D dA base n0 k0 p l e R s m args below meth c Q C hb hn hk _ _ kk H locs ls hR hS hl => ?_⟩
      exact lv_istore C.1 C.2.1 d hl hlt rfl (fun ls' hl' => kk H locs ls' hR hS (al_store (v := .inl x) hl'))
  · cases ex

theorem sd_astore_n {G : AG} {mt : Nat → AM} {y : AM} {pc : Nat} (z : Int) (a b : Nat) (ts : List (Int × Nat)) {k : Fin 4} (hk0 : (k : Nat) = a) (d : decode y.2.1 pc = .ok (.astore_n k, 1)) : am_Snd G mt y pc (4, z, a, b, pc + 1, ts) := by
  intro lv st h o hlen ex
  change xo_4 z a b (pc + 1) ts lv st h = some o at ex
  unfold xo_4 at ex
  split at ex
  · rename_i x r
    cases hlt : Nat.blt a lv.length with
    | false => rw [hlt] at ex; cases ex
    | true =>
      rw [hlt] at ex
      cases ex
      have hlt : a < y.2.2.1 := by rw [← hlen]; exact Nat.le_of_ble_eq_true hlt
      refine ⟨⟨List.length_set .., Nat.le_refl _, Nat.le_refl _⟩, fun D dA base n0 k0 p l e R s m args below meth c Q C hb hn hk _ _ kk H locs ls hR hS hl => ?_⟩
      cases x with
      | none => exact lv_astore_nN C.1 C.2.1 d hk0 hl hlt rfl (fun ls' hl' => kk H locs ls' hR hS (al_store (v := .inr (.inr none)) hl'))
      | some x => exact lv_astore_n C.1 C.2.1 d hk0 hl hlt rfl (fun ls' hl' => kk H locs ls' hR hS (al_store (v := .inr (.inr (some x))) hl'))
  · cases ex

theorem sd_astore {G : AG} {mt : Nat → AM} {y : AM} {pc : Nat} (z : Int) (a b : Nat) (ts : List (Int × Nat)) (d : decode y.2.1 pc = .ok (.astore a, 2)) : am_Snd G mt y pc (4, z, a, b, pc + 2, ts) := by
  intro lv st h o hlen ex
  change xo_4 z a b (pc + 2) ts lv st h = some o at ex
  unfold xo_4 at ex
  split at ex
  · rename_i x r
    cases hlt : Nat.blt a lv.length with
    | false => rw [hlt] at ex; cases ex
    | true =>
      rw [hlt] at ex
      cases ex
      have hlt : a < y.2.2.1 := by rw [← hlen]; exact Nat.le_of_ble_eq_true hlt
      refine ⟨⟨List.length_set .., Nat.le_refl _, Nat.le_refl _⟩, fun D dA base n0 k0 p l e R s m args below meth c Q C hb hn hk _ _ kk H locs ls hR hS hl => ?_⟩
      cases x with
      | none => exact lv_astoreN C.1 C.2.1 d hl hlt rfl (fun ls' hl' => kk H locs ls' hR hS (al_store (v := .inr (.inr none)) hl'))
      | some x => exact lv_astore C.1 C.2.1 d hl hlt rfl (fun ls' hl' => kk H locs ls' hR hS (al_store (v := .inr (.inr (some x))) hl'))
  · cases ex

theorem sd_iinc {G : AG} {mt : Nat → AM} {y : AM} {pc : Nat} (z : Int) (a b : Nat) (ts : List (Int × Nat)) (d : decode y.2.1 pc = .ok (.iinc a z, 3)) : am_Snd G mt y pc (5, z, a, b, pc + 3, ts) := by
  intro lv st h o hlen ex
  change xo_5 z a b (pc + 3) ts lv st h = some o at ex
  unfold xo_5 at ex
  split at ex
  · rename_i x hx
    cases ex
    have hlt : a < y.2.2.1 := by rw [← hlen]; exact (List.getElem?_eq_some_iff.mp hx).1
    refine ⟨⟨List.length_set .., Nat.le_refl _, Nat.le_refl _⟩, fun D dA base n0 k0 p l e R s m args below meth c Q C hb hn hk _ _ kk H locs ls hR hS hl => ?_⟩
    obtain ⟨k, hk⟩ := List.getElem?_of_mem (al_V_mem.2 ⟨a, .inl x, hx, rfl, by rw [Nat.zero_add]⟩ : (a, av_V (.inl x)) ∈ al_V 0 lv)
    exact lv_iinc C.1 C.2.1 d hl hk (Int32.ofInt_add x z).symm hlt rfl (fun ls' hl' => kk H locs ls' hR hS (al_store (v := .inl (x + z)) hl'))
  · cases ex

theorem sd_iadd {G : AG} {mt : Nat → AM} {y : AM} {pc : Nat} (z : Int) (a b : Nat) (ts : List (Int × Nat)) (d : decode y.2.1 pc = .ok (.iadd, 1)) : am_Snd G mt y pc (6, z, a, b, pc + 1, ts) := by
  intro lv st h o hlen ex
  change xo_6 z a b (pc + 1) ts lv st h = some o at ex
  unfold xo_6 at ex
  split at ex
  · cases ex
    refine ⟨⟨rfl, Nat.le_refl _, Nat.le_refl _⟩, fun D dA base n0 k0 p l e R s m args below meth c Q C hb hn hk _ _ kk H locs ls hR hS hl => ?_⟩
    refine lv_iadd C.1 C.2.1 d ?_
    rw [← Int32.ofInt_add]
    exact kk H locs ls hR hS hl
  · cases ex

theorem sd_isub {G : AG} {mt : Nat → AM} {y : AM} {pc : Nat} (z : Int) (a b : Nat) (ts : List (Int × Nat)) (d : decode y.2.1 pc = .ok (.isub, 1)) : am_Snd G mt y pc (7, z, a, b, pc + 1, ts) := by
  intro lv st h o hlen ex
  change xo_7 z a b (pc + 1) ts lv st h = some o at ex
  unfold xo_7 at ex
  split at ex
  · cases ex
    refine ⟨⟨rfl, Nat.le_refl _, Nat.le_refl _⟩, fun D dA base n0 k0 p l e R s m args below meth c Q C hb hn hk _ _ kk H locs ls hR hS hl => ?_⟩
    refine lv_isub C.1 C.2.1 d ?_
    rw [← Int32.ofInt_sub]
    exact kk H locs ls hR hS hl
  · cases ex

theorem sd_imul {G : AG} {mt : Nat → AM} {y : AM} {pc : Nat} (z : Int) (a b : Nat) (ts : List (Int × Nat)) (d : decode y.2.1 pc = .ok (.imul, 1)) : am_Snd G mt y pc (8, z, a, b, pc + 1, ts) := by
  intro lv st h o hlen ex
  change xo_8 z a b (pc + 1) ts lv st h = some o at ex
  unfold xo_8 at ex
  split at ex
  · cases ex
    refine ⟨⟨rfl, Nat.le_refl _, Nat.le_refl _⟩, fun D dA base n0 k0 p l e R s m args below meth c Q C hb hn hk _ _ kk H locs ls hR hS hl => ?_⟩
    refine lv_imul C.1 C.2.1 d ?_
    rw [← Int32.ofInt_mul]
    exact kk H locs ls hR hS hl
  · cases ex

theorem sd_ineg {G : AG} {mt : Nat → AM} {y : AM} {pc : Nat} (z : Int) (a b : Nat) (ts : List (Int × Nat)) (d : decode y.2.1 pc = .ok (.ineg, 1)) : am_Snd G mt y pc (9, z, a, b, pc + 1, ts) := by
  intro lv st h o hlen ex
  change xo_9 z a b (pc + 1) ts lv st h = some o at ex
  unfold xo_9 at ex
  split at ex
  · cases ex
    refine ⟨⟨rfl, Nat.le_refl _, Nat.le_refl _⟩, fun D dA base n0 k0 p l e R s m args below meth c Q C hb hn hk _ _ kk H locs ls hR hS hl => ?_⟩
    refine lv_ineg C.1 C.2.1 d ?_
    rw [← Int32.ofInt_neg]
    exact kk H locs ls hR hS hl
  · cases ex

theorem sd_iand {G : AG} {mt : Nat → AM} {y : AM} {pc : Nat} (z : Int) (a b : Nat) (ts : List (Int × Nat)) (d : decode y.2.1 pc = .ok (.iand, 1)) : am_Snd G mt y pc (10, z, a, b, pc + 1, ts) := by
  intro lv st h o hlen ex
  change xo_10 z a b (pc + 1) ts lv st h = some o at ex
  unfold xo_10 at ex
  split at ex
  · cases ex
    refine ⟨⟨rfl, Nat.le_refl _, Nat.le_refl _⟩, fun D dA base n0 k0 p l e R s m args below meth c Q C hb hn hk _ _ kk H locs ls hR hS hl => ?_⟩
    refine lv_iand C.1 C.2.1 d ?_
    rw [← a_and_ofInt]
    exact kk H locs ls hR hS hl
  · cases ex

theorem sd_idiv {G : AG} {mt : Nat → AM} {y : AM} {pc : Nat} (z : Int) (a b : Nat) (ts : List (Int × Nat)) (d : decode y.2.1 pc = .ok (.idiv, 1)) : am_Snd G mt y pc (11, z, a, b, pc + 1, ts) := by
  intro lv st h o hlen ex
  change xo_11 z a b (pc + 1) ts lv st h = some o at ex
  unfold xo_11 at ex
  split at ex
  · rename_i y0 x0 r
    by_cases hz : w32 y0 = 0
    · rw [decide_eq_true hz] at ex; cases ex
    · rw [decide_eq_false hz] at ex
      cases ex
      refine ⟨⟨rfl, Nat.le_refl _, Nat.le_refl _⟩, fun D dA base n0 k0 p l e R s m args below meth c Q C hb hn hk _ _ kk H locs ls hR hS hl => ?_⟩
      refine lv_idiv C.1 C.2.1 d (fun q => hz (w32_0.1 q)) ?_
      rw [w32_div]
      exact kk H locs ls hR hS hl
  · cases ex

theorem sd_irem {G : AG} {mt : Nat → AM} {y : AM} {pc : Nat} (z : Int) (a b : Nat) (ts : List (Int × Nat)) (d : decode y.2.1 pc = .ok (.irem, 1)) : am_Snd G mt y pc (12, z, a, b, pc + 1, ts) := by
  intro lv st h o hlen ex
  change xo_12 z a b (pc + 1) ts lv st h = some o at ex
  unfold xo_12 at ex
  split at ex
  · rename_i y0 x0 r
    by_cases hz : w32 y0 = 0
    · rw [decide_eq_true hz] at ex; cases ex
    · rw [decide_eq_false hz] at ex
      cases ex
      refine ⟨⟨rfl, Nat.le_refl _, Nat.le_refl _⟩, fun D dA base n0 k0 p l e R s m args below meth c Q C hb hn hk _ _ kk H locs ls hR hS hl => ?_⟩
      refine lv_irem C.1 C.2.1 d (fun q => hz (w32_0.1 q)) ?_
      rw [w32_rem]
      exact kk H locs ls hR hS hl
  · cases ex

theorem sd_dup {G : AG} {mt : Nat → AM} {y : AM} {pc : Nat} (z : Int) (a b : Nat) (ts : List (Int × Nat)) (d : decode y.2.1 pc = .ok (.dup, 1)) : am_Snd G mt y pc (13, z, a, b, pc + 1, ts) := by
  intro lv st h o hlen ex
  change xo_13 z a b (pc + 1) ts lv st h = some o at ex
  unfold xo_13 at ex
  split at ex
  · rename_i v r
    cases hc : av_two v with
    | true => rw [hc] at ex; cases ex
    | false =>
      rw [hc] at ex
      cases ex
      refine ⟨⟨rfl, Nat.le_refl _, Nat.le_refl _⟩, fun D dA base n0 k0 p l e R s m args below meth c Q C hb hn hk _ _ kk H locs ls hR hS hl => ?_⟩
      exact lv_dup C.1 C.2.1 d (by rw [av_cat, hc]; rfl) (kk H locs ls hR hS hl)
  · cases ex

theorem sd_dup_x1 {G : AG} {mt : Nat → AM} {y : AM} {pc : Nat} (z : Int) (a b : Nat) (ts : List (Int × Nat)) (d : decode y.2.1 pc = .ok (.dup_x1, 1)) : am_Snd G mt y pc (14, z, a, b, pc + 1, ts) := by
  intro lv st h o hlen ex
  change xo_14 z a b (pc + 1) ts lv st h = some o at ex
  unfold xo_14 at ex
  split at ex
  · rename_i v w r
    cases hc : (av_two v || av_two w) with
    | true => rw [hc] at ex; cases ex
    | false =>
      rw [hc] at ex
      cases ex
      simp only [Bool.or_eq_false_iff] at hc
      refine ⟨⟨rfl, Nat.le_refl _, Nat.le_refl _⟩, fun D dA base n0 k0 p l e R s m args below meth c Q C hb hn hk _ _ kk H locs ls hR hS hl => ?_⟩
      exact lv_dup_x1 C.1 C.2.1 d (by rw [av_cat, hc.1]; rfl) (by rw [av_cat, hc.2]; rfl) (kk H locs ls hR hS hl)
  · cases ex

theorem sd_dup2 {G : AG} {mt : Nat → AM} {y : AM} {pc : Nat} (z : Int) (a b : Nat) (ts : List (Int × Nat)) (d : decode y.2.1 pc = .ok (.dup2, 1)) : am_Snd G mt y pc (15, z, a, b, pc + 1, ts) := by
  intro lv st h o hlen ex
  change xo_15 z a b (pc + 1) ts lv st h = some o at ex
  unfold xo_15 at ex
  split at ex
  · rename_i v w r
    cases hc : (av_two v || av_two w) with
    | true => rw [hc] at ex; cases ex
    | false =>
      rw [hc] at ex
      cases ex
      simp only [Bool.or_eq_false_iff] at hc
      refine ⟨⟨rfl, Nat.le_refl _, Nat.le_refl _⟩, fun D dA base n0 k0 p l e R s m args below meth c Q C hb hn hk _ _ kk H locs ls hR hS hl => ?_⟩
      exact lv_dup2_11 C.1 C.2.1 d (by rw [av_cat, hc.1]; rfl) (by rw [av_cat, hc.2]; rfl) (kk H locs ls hR hS hl)
  · cases ex

theorem sd_pop {G : AG} {mt : Nat → AM} {y : AM} {pc : Nat} (z : Int) (a b : Nat) (ts : List (Int × Nat)) (d : decode y.2.1 pc = .ok (.pop, 1)) : am_Snd G mt y pc (16, z, a, b, pc + 1, ts) := by
  intro lv st h o hlen ex
  change xo_16 z a b (pc + 1) ts lv st h = some o at ex
  unfold xo_16 at ex
  split at ex
  · rename_i v r
    cases hc : av_two v with
    | true => rw [hc] at ex; cases ex
    | false =>
      rw [hc] at ex
      cases ex
      refine ⟨⟨rfl, Nat.le_refl _, Nat.le_refl _⟩, fun D dA base n0 k0 p l e R s m args below meth c Q C hb hn hk _ _ kk H locs ls hR hS hl => ?_⟩
      exact lv_pop C.1 C.2.1 d (by rw [av_cat, hc]; rfl) (kk H locs ls hR hS hl)
  · cases ex

theorem sd_dup_x2 {G : AG} {mt : Nat → AM} {y : AM} {pc : Nat} (z : Int) (a b : Nat) (ts : List (Int × Nat)) (d : decode y.2.1 pc = .ok (.dup_x2, 1)) : am_Snd G mt y pc (17, z, a, b, pc + 1, ts) := by
  intro lv st h o hlen ex
  change xo_17 z a b (pc + 1) ts lv st h = some o at ex
  unfold xo_17 at ex
  split at ex
  · rename_i v w x r
    cases hc : (av_two v || (av_two w || av_two x)) with
    | true => rw [hc] at ex; cases ex
    | false =>
      rw [hc] at ex
      cases ex
      simp only [Bool.or_eq_false_iff] at hc
      refine ⟨⟨rfl, Nat.le_refl _, Nat.le_refl _⟩, fun D dA base n0 k0 p l e R s m args below meth c Q C hb hn hk _ _ kk H locs ls hR hS hl => ?_⟩
      exact lv_dup_x2 C.1 C.2.1 d (by rw [av_cat, hc.1]; rfl) (by rw [av_cat, hc.2.1]; rfl) (by rw [av_cat, hc.2.2]; rfl) (kk H locs ls hR hS hl)
  · cases ex

theorem sd_null {G : AG} {mt : Nat → AM} {y : AM} {pc : Nat} (z : Int) (a b : Nat) (ts : List (Int × Nat)) (d : decode y.2.1 pc = .ok (.aconst_null, 1)) : am_Snd G mt y pc (18, z, a, b, pc + 1, ts) := by
  intro lv st h o hlen ex
  change xo_18 z a b (pc + 1) ts lv st h = some o at ex
  unfold xo_18 at ex
  cases ex
  refine ⟨⟨rfl, Nat.le_refl _, Nat.le_refl _⟩, fun D dA base n0 k0 p l e R s m args below meth c Q C hb hn hk _ _ kk H locs ls hR hS hl => ?_⟩
  exact lv_null C.1 C.2.1 d (kk H locs ls hR hS hl)

theorem sd_lconst {G : AG} {mt : Nat → AM} {y : AM} {pc : Nat} (z : Int) (a b : Nat) (ts : List (Int × Nat)) {n : Fin 2} (d : decode y.2.1 pc = .ok (.lconst n, 1)) (hz : Int64.ofNat (n : Nat) = Int64.ofBitVec (BitVec.ofInt 64 z)) : am_Snd G mt y pc (19, z, a, b, pc + 1, ts) := by
  intro lv st h o hlen ex
  change xo_19 z a b (pc + 1) ts lv st h = some o at ex
  unfold xo_19 at ex
  cases ex
  refine ⟨⟨rfl, Nat.le_refl _, Nat.le_refl _⟩, fun D dA base n0 k0 p l e R s m args below meth c Q C hb hn hk _ _ kk H locs ls hR hS hl => ?_⟩
  exact lv_lconst C.1 C.2.1 d hz (kk H locs ls hR hS hl)

theorem sd_ldc2 {G : AG} {mt : Nat → AM} {y : AM} {pc : Nat} (z : Int) (a b : Nat) (ts : List (Int × Nat)) {idx : Nat} (d : decode y.2.1 pc = .ok (.ldc2_w idx, 3)) (hw : Cond.constantLong y.1.cls idx (Int64.ofBitVec (BitVec.ofInt 64 z)) ∈ G.2.2.1) : am_Snd G mt y pc (19, z, a, b, pc + 3, ts) := by
  intro lv st h o hlen ex
  change xo_19 z a b (pc + 3) ts lv st h = some o at ex
  unfold xo_19 at ex
  cases ex
  refine ⟨⟨rfl, Nat.le_refl _, Nat.le_refl _⟩, fun D dA base n0 k0 p l e R s m args below meth c Q C hb hn hk _ _ kk H locs ls hR hS hl => ?_⟩
  exact lv_ldc2 C.1 C.2.1 C.2.2.2.1 (C.2.2.2.2.1 _ hw) d (kk H locs ls hR hS hl)

theorem sd_land {G : AG} {mt : Nat → AM} {y : AM} {pc : Nat} (z : Int) (a b : Nat) (ts : List (Int × Nat)) (d : decode y.2.1 pc = .ok (.land, 1)) : am_Snd G mt y pc (20, z, a, b, pc + 1, ts) := by
  intro lv st h o hlen ex
  change xo_20 z a b (pc + 1) ts lv st h = some o at ex
  unfold xo_20 at ex
  split at ex
  · cases ex
    refine ⟨⟨rfl, Nat.le_refl _, Nat.le_refl _⟩, fun D dA base n0 k0 p l e R s m args below meth c Q C hb hn hk _ _ kk H locs ls hR hS hl => ?_⟩
    exact lv_land C.1 C.2.1 d (kk H locs ls hR hS hl)
  · cases ex

theorem sd_lor {G : AG} {mt : Nat → AM} {y : AM} {pc : Nat} (z : Int) (a b : Nat) (ts : List (Int × Nat)) (d : decode y.2.1 pc = .ok (.lor, 1)) : am_Snd G mt y pc (21, z, a, b, pc + 1, ts) := by
  intro lv st h o hlen ex
  change xo_21 z a b (pc + 1) ts lv st h = some o at ex
  unfold xo_21 at ex
  split at ex
  · cases ex
    refine ⟨⟨rfl, Nat.le_refl _, Nat.le_refl _⟩, fun D dA base n0 k0 p l e R s m args below meth c Q C hb hn hk _ _ kk H locs ls hR hS hl => ?_⟩
    exact lv_lor C.1 C.2.1 d (kk H locs ls hR hS hl)
  · cases ex

theorem sd_lxor {G : AG} {mt : Nat → AM} {y : AM} {pc : Nat} (z : Int) (a b : Nat) (ts : List (Int × Nat)) (d : decode y.2.1 pc = .ok (.lxor, 1)) : am_Snd G mt y pc (22, z, a, b, pc + 1, ts) := by
  intro lv st h o hlen ex
  change xo_22 z a b (pc + 1) ts lv st h = some o at ex
  unfold xo_22 at ex
  split at ex
  · cases ex
    refine ⟨⟨rfl, Nat.le_refl _, Nat.le_refl _⟩, fun D dA base n0 k0 p l e R s m args below meth c Q C hb hn hk _ _ kk H locs ls hR hS hl => ?_⟩
    exact lv_lxor C.1 C.2.1 d (kk H locs ls hR hS hl)
  · cases ex

theorem sd_lshl {G : AG} {mt : Nat → AM} {y : AM} {pc : Nat} (z : Int) (a b : Nat) (ts : List (Int × Nat)) (d : decode y.2.1 pc = .ok (.lshl, 1)) : am_Snd G mt y pc (23, z, a, b, pc + 1, ts) := by
  intro lv st h o hlen ex
  change xo_23 z a b (pc + 1) ts lv st h = some o at ex
  unfold xo_23 at ex
  split at ex
  · cases ex
    refine ⟨⟨rfl, Nat.le_refl _, Nat.le_refl _⟩, fun D dA base n0 k0 p l e R s m args below meth c Q C hb hn hk _ _ kk H locs ls hR hS hl => ?_⟩
    exact lv_lshl C.1 C.2.1 d rfl (kk H locs ls hR hS hl)
  · cases ex

theorem sd_lushr {G : AG} {mt : Nat → AM} {y : AM} {pc : Nat} (z : Int) (a b : Nat) (ts : List (Int × Nat)) (d : decode y.2.1 pc = .ok (.lushr, 1)) : am_Snd G mt y pc (24, z, a, b, pc + 1, ts) := by
  intro lv st h o hlen ex
  change xo_24 z a b (pc + 1) ts lv st h = some o at ex
  unfold xo_24 at ex
  split at ex
  · cases ex
    refine ⟨⟨rfl, Nat.le_refl _, Nat.le_refl _⟩, fun D dA base n0 k0 p l e R s m args below meth c Q C hb hn hk _ _ kk H locs ls hR hS hl => ?_⟩
    exact lv_lushr C.1 C.2.1 d rfl (kk H locs ls hR hS hl)
  · cases ex

theorem sd_lcmp {G : AG} {mt : Nat → AM} {y : AM} {pc : Nat} (z : Int) (a b : Nat) (ts : List (Int × Nat)) (d : decode y.2.1 pc = .ok (.lcmp, 1)) : am_Snd G mt y pc (25, z, a, b, pc + 1, ts) := by
  intro lv st h o hlen ex
  change xo_25 z a b (pc + 1) ts lv st h = some o at ex
  unfold xo_25 at ex
  split at ex
  · rename_i q2 q1 r
    cases ex
    refine ⟨⟨rfl, Nat.le_refl _, Nat.le_refl _⟩, fun D dA base n0 k0 p l e R s m args below meth c Q C hb hn hk _ _ kk H locs ls hR hS hl => ?_⟩
    refine W.lcmp C.1 C.2.1 d ?_
    rw [← Int32.ofInt_toInt (lg_cmp (Int64.ofBitVec q1) (Int64.ofBitVec q2))]
    exact kk H locs ls hR hS hl
  · cases ex

theorem sd_goto {G : AG} {mt : Nat → AM} {y : AM} {pc : Nat} (z : Int) (a b nx : Nat) (ts : List (Int × Nat)) {off : Int} (d : decode y.2.1 pc = .ok (.goto off, 3)) (ht : (pc : Int) + off = (a : Int)) : am_Snd G mt y pc (26, z, a, b, nx, ts) := by
  intro lv st h o hlen ex
  change xo_26 z a b (nx) ts lv st h = some o at ex
  unfold xo_26 at ex
  cases ex
  refine ⟨⟨rfl, Nat.le_refl _, Nat.le_refl _⟩, fun D dA base n0 k0 p l e R s m args below meth c Q C hb hn hk _ _ kk H locs ls hR hS hl => ?_⟩
  exact lv_goto C.1 C.2.1 d ht (kk H locs ls hR hS hl)

theorem sd_ifnull {G : AG} {mt : Nat → AM} {y : AM} {pc : Nat} (z : Int) (a b : Nat) (ts : List (Int × Nat)) {off : Int} (d : decode y.2.1 pc = .ok (.ifnull off, 3)) (ht : (pc : Int) + off = (a : Int)) : am_Snd G mt y pc (27, z, a, b, pc + 3, ts) := by
  intro lv st h o hlen ex
  change xo_27 z a b (pc + 3) ts lv st h = some o at ex
  unfold xo_27 at ex
  split at ex
  · cases ex
    refine ⟨⟨rfl, Nat.le_refl _, Nat.le_refl _⟩, fun D dA base n0 k0 p l e R s m args below meth c Q C hb hn hk _ _ kk H locs ls hR hS hl => ?_⟩
    exact lv_ifnullN C.1 C.2.1 d ht (kk H locs ls hR hS hl)
  · cases ex
    refine ⟨⟨rfl, Nat.le_refl _, Nat.le_refl _⟩, fun D dA base n0 k0 p l e R s m args below meth c Q C hb hn hk _ _ kk H locs ls hR hS hl => ?_⟩
    exact lv_ifnull C.1 C.2.1 d (kk H locs ls hR hS hl)
  · cases ex

theorem sd_ifnonnull {G : AG} {mt : Nat → AM} {y : AM} {pc : Nat} (z : Int) (a b : Nat) (ts : List (Int × Nat)) {off : Int} (d : decode y.2.1 pc = .ok (.ifnonnull off, 3)) (ht : (pc : Int) + off = (a : Int)) : am_Snd G mt y pc (28, z, a, b, pc + 3, ts) := by
  intro lv st h o hlen ex
  change xo_28 z a b (pc + 3) ts lv st h = some o at ex
  unfold xo_28 at ex
  split at ex
  · cases ex
    refine ⟨⟨rfl, Nat.le_refl _, Nat.le_refl _⟩, fun D dA base n0 k0 p l e R s m args below meth c Q C hb hn hk _ _ kk H locs ls hR hS hl => ?_⟩
    exact lv_ifnonnullN C.1 C.2.1 d (kk H locs ls hR hS hl)
  · cases ex
    refine ⟨⟨rfl, Nat.le_refl _, Nat.le_refl _⟩, fun D dA base n0 k0 p l e R s m args below meth c Q C hb hn hk _ _ kk H locs ls hR hS hl => ?_⟩
    exact lv_ifnonnull C.1 C.2.1 d ht (kk H locs ls hR hS hl)
  · cases ex

theorem sd_if_eq {G : AG} {mt : Nat → AM} {y : AM} {pc : Nat} (z : Int) (a : Nat) (ts : List (Int × Nat)) {off : Int} (d : decode y.2.1 pc = .ok (.ifCond .eq off, 3)) (ht : (pc : Int) + off = (a : Int)) : am_Snd G mt y pc (30, z, a, 0, pc + 3, ts) := by
  intro lv st h o hlen ex
  change xo_30 z a 0 (pc + 3) ts lv st h = some o at ex
  unfold xo_30 at ex
  split at ex
  · rename_i x r
    cases hc : ickb 0 (w32 x) 0 with
    | true =>
      rw [hc] at ex
      cases ex
      refine ⟨⟨rfl, Nat.le_refl _, Nat.le_refl _⟩, fun D dA base n0 k0 p l e R s m args below meth c Q C hb hn hk _ _ kk H locs ls hR hS hl => ?_⟩
      have kk := kk H locs ls hR hS hl
      exact lv_if_eq C.1 C.2.1 d ht (fun q => kk) (fun q => absurd (hc.symm.trans (ickb_F (k := 0) (fun q0 => q ((w32_eq (x := x) (y := 0)).2 q0)))) (by decide))
    | false =>
      rw [hc] at ex
      cases ex
      refine ⟨⟨rfl, Nat.le_refl _, Nat.le_refl _⟩, fun D dA base n0 k0 p l e R s m args below meth c Q C hb hn hk _ _ kk H locs ls hR hS hl => ?_⟩
      have kk := kk H locs ls hR hS hl
      exact lv_if_eq C.1 C.2.1 d ht (fun q => absurd (hc.symm.trans (ickb_T (k := 0) ((w32_eq (x := x) (y := 0)).1 q))) (by decide)) (fun q => kk)
  · cases ex

theorem sd_icmp_eq {G : AG} {mt : Nat → AM} {y : AM} {pc : Nat} (z : Int) (a : Nat) (ts : List (Int × Nat)) {off : Int} (d : decode y.2.1 pc = .ok (.if_icmp .eq off, 3)) (ht : (pc : Int) + off = (a : Int)) : am_Snd G mt y pc (31, z, a, 0, pc + 3, ts) := by
  intro lv st h o hlen ex
  change xo_31 z a 0 (pc + 3) ts lv st h = some o at ex
  unfold xo_31 at ex
  split at ex
  · rename_i y0 x r
    cases hc : ickb 0 (w32 x) (w32 y0) with
    | true =>
      rw [hc] at ex
      cases ex
      refine ⟨⟨rfl, Nat.le_refl _, Nat.le_refl _⟩, fun D dA base n0 k0 p l e R s m args below meth c Q C hb hn hk _ _ kk H locs ls hR hS hl => ?_⟩
      have kk := kk H locs ls hR hS hl
      exact lv_icmp_eq C.1 C.2.1 d ht (fun q => kk) (fun q => absurd (hc.symm.trans (ickb_F (k := 0) (fun q0 => q ((w32_eq (x := x) (y := y0)).2 q0)))) (by decide))
    | false =>
      rw [hc] at ex
      cases ex
      refine ⟨⟨rfl, Nat.le_refl _, Nat.le_refl _⟩, fun D dA base n0 k0 p l e R s m args below meth c Q C hb hn hk _ _ kk H locs ls hR hS hl => ?_⟩
      have kk := kk H locs ls hR hS hl
      exact lv_icmp_eq C.1 C.2.1 d ht (fun q => absurd (hc.symm.trans (ickb_T (k := 0) ((w32_eq (x := x) (y := y0)).1 q))) (by decide)) (fun q => kk)
  · cases ex

theorem sd_if_ne {G : AG} {mt : Nat → AM} {y : AM} {pc : Nat} (z : Int) (a : Nat) (ts : List (Int × Nat)) {off : Int} (d : decode y.2.1 pc = .ok (.ifCond .ne off, 3)) (ht : (pc : Int) + off = (a : Int)) : am_Snd G mt y pc (30, z, a, 1, pc + 3, ts) := by
  intro lv st h o hlen ex
  change xo_30 z a 1 (pc + 3) ts lv st h = some o at ex
  unfold xo_30 at ex
  split at ex
  · rename_i x r
    cases hc : ickb 1 (w32 x) 0 with
    | true =>
      rw [hc] at ex
      cases ex
      refine ⟨⟨rfl, Nat.le_refl _, Nat.le_refl _⟩, fun D dA base n0 k0 p l e R s m args below meth c Q C hb hn hk _ _ kk H locs ls hR hS hl => ?_⟩
      have kk := kk H locs ls hR hS hl
      exact lv_if_ne C.1 C.2.1 d ht (fun q => kk) (fun q => absurd (hc.symm.trans (ickb_F (k := 1) (fun q0 => q0 ((w32_eq (x := x) (y := 0)).1 q)))) (by decide))
    | false =>
      rw [hc] at ex
      cases ex
      refine ⟨⟨rfl, Nat.le_refl _, Nat.le_refl _⟩, fun D dA base n0 k0 p l e R s m args below meth c Q C hb hn hk _ _ kk H locs ls hR hS hl => ?_⟩
      have kk := kk H locs ls hR hS hl
      exact lv_if_ne C.1 C.2.1 d ht (fun q => absurd (hc.symm.trans (ickb_T (k := 1) (fun q0 => q ((w32_eq (x := x) (y := 0)).2 q0)))) (by decide)) (fun q => kk)
  · cases ex

theorem sd_icmp_ne {G : AG} {mt : Nat → AM} {y : AM} {pc : Nat} (z : Int) (a : Nat) (ts : List (Int × Nat)) {off : Int} (d : decode y.2.1 pc = .ok (.if_icmp .ne off, 3)) (ht : (pc : Int) + off = (a : Int)) : am_Snd G mt y pc (31, z, a, 1, pc + 3, ts) := by
  intro lv st h o hlen ex
  change xo_31 z a 1 (pc + 3) ts lv st h = some o at ex
  unfold xo_31 at ex
  split at ex
  · rename_i y0 x r
    cases hc : ickb 1 (w32 x) (w32 y0) with
    | true =>
      rw [hc] at ex
      cases ex
      refine ⟨⟨rfl, Nat.le_refl _, Nat.le_refl _⟩, fun D dA base n0 k0 p l e R s m args below meth c Q C hb hn hk _ _ kk H locs ls hR hS hl => ?_⟩
      have kk := kk H locs ls hR hS hl
      exact lv_icmp_ne C.1 C.2.1 d ht (fun q => kk) (fun q => absurd (hc.symm.trans (ickb_F (k := 1) (fun q0 => q0 ((w32_eq (x := x) (y := y0)).1 q)))) (by decide))
    | false =>
      rw [hc] at ex
      cases ex
      refine ⟨⟨rfl, Nat.le_refl _, Nat.le_refl _⟩, fun D dA base n0 k0 p l e R s m args below meth c Q C hb hn hk _ _ kk H locs ls hR hS hl => ?_⟩
      have kk := kk H locs ls hR hS hl
      exact lv_icmp_ne C.1 C.2.1 d ht (fun q => absurd (hc.symm.trans (ickb_T (k := 1) (fun q0 => q ((w32_eq (x := x) (y := y0)).2 q0)))) (by decide)) (fun q => kk)
  · cases ex

theorem sd_if_lt {G : AG} {mt : Nat → AM} {y : AM} {pc : Nat} (z : Int) (a : Nat) (ts : List (Int × Nat)) {off : Int} (d : decode y.2.1 pc = .ok (.ifCond .lt off, 3)) (ht : (pc : Int) + off = (a : Int)) : am_Snd G mt y pc (30, z, a, 2, pc + 3, ts) := by
  intro lv st h o hlen ex
  change xo_30 z a 2 (pc + 3) ts lv st h = some o at ex
  unfold xo_30 at ex
  split at ex
  · rename_i x r
    cases hc : ickb 2 (w32 x) 0 with
    | true =>
      rw [hc] at ex
      cases ex
      refine ⟨⟨rfl, Nat.le_refl _, Nat.le_refl _⟩, fun D dA base n0 k0 p l e R s m args below meth c Q C hb hn hk _ _ kk H locs ls hR hS hl => ?_⟩
      have kk := kk H locs ls hR hS hl
      exact lv_if_lt C.1 C.2.1 d ht (fun q => kk) (fun q => absurd (hc.symm.trans (ickb_F (k := 2) (fun q0 => q ((w32_lt (x := x) (y := 0)).2 q0)))) (by decide))
    | false =>
      rw [hc] at ex
      cases ex
      refine ⟨⟨rfl, Nat.le_refl _, Nat.le_refl _⟩, fun D dA base n0 k0 p l e R s m args below meth c Q C hb hn hk _ _ kk H locs ls hR hS hl => ?_⟩
      have kk := kk H locs ls hR hS hl
      exact lv_if_lt C.1 C.2.1 d ht (fun q => absurd (hc.symm.trans (ickb_T (k := 2) ((w32_lt (x := x) (y := 0)).1 q))) (by decide)) (fun q => kk)
  · cases ex

theorem sd_icmp_lt {G : AG} {mt : Nat → AM} {y : AM} {pc : Nat} (z : Int) (a : Nat) (ts : List (Int × Nat)) {off : Int} (d : decode y.2.1 pc = .ok (.if_icmp .lt off, 3)) (ht : (pc : Int) + off = (a : Int)) : am_Snd G mt y pc (31, z, a, 2, pc + 3, ts) := by
  intro lv st h o hlen ex
  change xo_31 z a 2 (pc + 3) ts lv st h = some o at ex
  unfold xo_31 at ex
  split at ex
  · rename_i y0 x r
    cases hc : ickb 2 (w32 x) (w32 y0) with
    | true =>
      rw [hc] at ex
      cases ex
      refine ⟨⟨rfl, Nat.le_refl _, Nat.le_refl _⟩, fun D dA base n0 k0 p l e R s m args below meth c Q C hb hn hk _ _ kk H locs ls hR hS hl => ?_⟩
      have kk := kk H locs ls hR hS hl
      exact lv_icmp_lt C.1 C.2.1 d ht (fun q => kk) (fun q => absurd (hc.symm.trans (ickb_F (k := 2) (fun q0 => q ((w32_lt (x := x) (y := y0)).2 q0)))) (by decide))
    | false =>
      rw [hc] at ex
      cases ex
      refine ⟨⟨rfl, Nat.le_refl _, Nat.le_refl _⟩, fun D dA base n0 k0 p l e R s m args below meth c Q C hb hn hk _ _ kk H locs ls hR hS hl => ?_⟩
      have kk := kk H locs ls hR hS hl
      exact lv_icmp_lt C.1 C.2.1 d ht (fun q => absurd (hc.symm.trans (ickb_T (k := 2) ((w32_lt (x := x) (y := y0)).1 q))) (by decide)) (fun q => kk)
  · cases ex

theorem sd_if_ge {G : AG} {mt : Nat → AM} {y : AM} {pc : Nat} (z : Int) (a : Nat) (ts : List (Int × Nat)) {off : Int} (d : decode y.2.1 pc = .ok (.ifCond .ge off, 3)) (ht : (pc : Int) + off = (a : Int)) : am_Snd G mt y pc (30, z, a, 3, pc + 3, ts) := by
  intro lv st h o hlen ex
  change xo_30 z a 3 (pc + 3) ts lv st h = some o at ex
  unfold xo_30 at ex
  split at ex
  · rename_i x r
    cases hc : ickb 3 (w32 x) 0 with
    | true =>
      rw [hc] at ex
      cases ex
      refine ⟨⟨rfl, Nat.le_refl _, Nat.le_refl _⟩, fun D dA base n0 k0 p l e R s m args below meth c Q C hb hn hk _ _ kk H locs ls hR hS hl => ?_⟩
      have kk := kk H locs ls hR hS hl
      exact lv_if_ge C.1 C.2.1 d ht (fun q => kk) (fun q => absurd (hc.symm.trans (ickb_F (k := 3) (fun q0 => q ((w32_le (x := 0) (y := x)).2 q0)))) (by decide))
    | false =>
      rw [hc] at ex
      cases ex
      refine ⟨⟨rfl, Nat.le_refl _, Nat.le_refl _⟩, fun D dA base n0 k0 p l e R s m args below meth c Q C hb hn hk _ _ kk H locs ls hR hS hl => ?_⟩
      have kk := kk H locs ls hR hS hl
      exact lv_if_ge C.1 C.2.1 d ht (fun q => absurd (hc.symm.trans (ickb_T (k := 3) ((w32_le (x := 0) (y := x)).1 q))) (by decide)) (fun q => kk)
  · cases ex

theorem sd_icmp_ge {G : AG} {mt : Nat → AM} {y : AM} {pc : Nat} (z : Int) (a : Nat) (ts : List (Int × Nat)) {off : Int} (d : decode y.2.1 pc = .ok (.if_icmp .ge off, 3)) (ht : (pc : Int) + off = (a : Int)) : am_Snd G mt y pc (31, z, a, 3, pc + 3, ts) := by
  intro lv st h o hlen ex
  change xo_31 z a 3 (pc + 3) ts lv st h = some o at ex
  unfold xo_31 at ex
  split at ex
  · rename_i y0 x r
    cases hc : ickb 3 (w32 x) (w32 y0) with
    | true =>
      rw [hc] at ex
      cases ex
      refine ⟨⟨rfl, Nat.le_refl _, Nat.le_refl _⟩, fun D dA base n0 k0 p l e R s m args below meth c Q C hb hn hk _ _ kk H locs ls hR hS hl => ?_⟩
      have kk := kk H locs ls hR hS hl
      exact lv_icmp_ge C.1 C.2.1 d ht (fun q => kk) (fun q => absurd (hc.symm.trans (ickb_F (k := 3) (fun q0 => q ((w32_le (x := y0) (y := x)).2 q0)))) (by decide))
    | false =>
      rw [hc] at ex
      cases ex
      refine ⟨⟨rfl, Nat.le_refl _, Nat.le_refl _⟩, fun D dA base n0 k0 p l e R s m args below meth c Q C hb hn hk _ _ kk H locs ls hR hS hl => ?_⟩
      have kk := kk H locs ls hR hS hl
      exact lv_icmp_ge C.1 C.2.1 d ht (fun q => absurd (hc.symm.trans (ickb_T (k := 3) ((w32_le (x := y0) (y := x)).1 q))) (by decide)) (fun q => kk)
  · cases ex

theorem sd_if_gt {G : AG} {mt : Nat → AM} {y : AM} {pc : Nat} (z : Int) (a : Nat) (ts : List (Int × Nat)) {off : Int} (d : decode y.2.1 pc = .ok (.ifCond .gt off, 3)) (ht : (pc : Int) + off = (a : Int)) : am_Snd G mt y pc (30, z, a, 4, pc + 3, ts) := by
  intro lv st h o hlen ex
  change xo_30 z a 4 (pc + 3) ts lv st h = some o at ex
  unfold xo_30 at ex
  split at ex
  · rename_i x r
    cases hc : ickb 4 (w32 x) 0 with
    | true =>
      rw [hc] at ex
      cases ex
      refine ⟨⟨rfl, Nat.le_refl _, Nat.le_refl _⟩, fun D dA base n0 k0 p l e R s m args below meth c Q C hb hn hk _ _ kk H locs ls hR hS hl => ?_⟩
      have kk := kk H locs ls hR hS hl
      exact lv_if_gt C.1 C.2.1 d ht (fun q => kk) (fun q => absurd (hc.symm.trans (ickb_F (k := 4) (fun q0 => q ((w32_lt (x := 0) (y := x)).2 q0)))) (by decide))
    | false =>
      rw [hc] at ex
      cases ex
      refine ⟨⟨rfl, Nat.le_refl _, Nat.le_refl _⟩, fun D dA base n0 k0 p l e R s m args below meth c Q C hb hn hk _ _ kk H locs ls hR hS hl => ?_⟩
      have kk := kk H locs ls hR hS hl
      exact lv_if_gt C.1 C.2.1 d ht (fun q => absurd (hc.symm.trans (ickb_T (k := 4) ((w32_lt (x := 0) (y := x)).1 q))) (by decide)) (fun q => kk)
  · cases ex

theorem sd_icmp_gt {G : AG} {mt : Nat → AM} {y : AM} {pc : Nat} (z : Int) (a : Nat) (ts : List (Int × Nat)) {off : Int} (d : decode y.2.1 pc = .ok (.if_icmp .gt off, 3)) (ht : (pc : Int) + off = (a : Int)) : am_Snd G mt y pc (31, z, a, 4, pc + 3, ts) := by
  intro lv st h o hlen ex
  change xo_31 z a 4 (pc + 3) ts lv st h = some o at ex
  unfold xo_31 at ex
  split at ex
  · rename_i y0 x r
    cases hc : ickb 4 (w32 x) (w32 y0) with
    | true =>
      rw [hc] at ex
      cases ex
      refine ⟨⟨rfl, Nat.le_refl _, Nat.le_refl _⟩, fun D dA base n0 k0 p l e R s m args below meth c Q C hb hn hk _ _ kk H locs ls hR hS hl => ?_⟩
      have kk := kk H locs ls hR hS hl
      exact lv_icmp_gt C.1 C.2.1 d ht (fun q => kk) (fun q => absurd (hc.symm.trans (ickb_F (k := 4) (fun q0 => q ((w32_lt (x := y0) (y := x)).2 q0)))) (by decide))
    | false =>
      rw [hc] at ex
      cases ex
      refine ⟨⟨rfl, Nat.le_refl _, Nat.le_refl _⟩, fun D dA base n0 k0 p l e R s m args below meth c Q C hb hn hk _ _ kk H locs ls hR hS hl => ?_⟩
      have kk := kk H locs ls hR hS hl
      exact lv_icmp_gt C.1 C.2.1 d ht (fun q => absurd (hc.symm.trans (ickb_T (k := 4) ((w32_lt (x := y0) (y := x)).1 q))) (by decide)) (fun q => kk)
  · cases ex

theorem sd_if_le {G : AG} {mt : Nat → AM} {y : AM} {pc : Nat} (z : Int) (a : Nat) (ts : List (Int × Nat)) {off : Int} (d : decode y.2.1 pc = .ok (.ifCond .le off, 3)) (ht : (pc : Int) + off = (a : Int)) : am_Snd G mt y pc (30, z, a, 5, pc + 3, ts) := by
  intro lv st h o hlen ex
  change xo_30 z a 5 (pc + 3) ts lv st h = some o at ex
  unfold xo_30 at ex
  split at ex
  · rename_i x r
    cases hc : ickb 5 (w32 x) 0 with
    | true =>
      rw [hc] at ex
      cases ex
      refine ⟨⟨rfl, Nat.le_refl _, Nat.le_refl _⟩, fun D dA base n0 k0 p l e R s m args below meth c Q C hb hn hk _ _ kk H locs ls hR hS hl => ?_⟩
      have kk := kk H locs ls hR hS hl
      exact lv_if_le C.1 C.2.1 d ht (fun q => kk) (fun q => absurd (hc.symm.trans (ickb_F (k := 5) (fun q0 => q ((w32_le (x := x) (y := 0)).2 q0)))) (by decide))
    | false =>
      rw [hc] at ex
      cases ex
      refine ⟨⟨rfl, Nat.le_refl _, Nat.le_refl _⟩, fun D dA base n0 k0 p l e R s m args below meth c Q C hb hn hk _ _ kk H locs ls hR hS hl => ?_⟩
      have kk := kk H locs ls hR hS hl
      exact lv_if_le C.1 C.2.1 d ht (fun q => absurd (hc.symm.trans (ickb_T (k := 5) ((w32_le (x := x) (y := 0)).1 q))) (by decide)) (fun q => kk)
  · cases ex

theorem sd_icmp_le {G : AG} {mt : Nat → AM} {y : AM} {pc : Nat} (z : Int) (a : Nat) (ts : List (Int × Nat)) {off : Int} (d : decode y.2.1 pc = .ok (.if_icmp .le off, 3)) (ht : (pc : Int) + off = (a : Int)) : am_Snd G mt y pc (31, z, a, 5, pc + 3, ts) := by
  intro lv st h o hlen ex
  change xo_31 z a 5 (pc + 3) ts lv st h = some o at ex
  unfold xo_31 at ex
  split at ex
  · rename_i y0 x r
    cases hc : ickb 5 (w32 x) (w32 y0) with
    | true =>
      rw [hc] at ex
      cases ex
      refine ⟨⟨rfl, Nat.le_refl _, Nat.le_refl _⟩, fun D dA base n0 k0 p l e R s m args below meth c Q C hb hn hk _ _ kk H locs ls hR hS hl => ?_⟩
      have kk := kk H locs ls hR hS hl
      exact lv_icmp_le C.1 C.2.1 d ht (fun q => kk) (fun q => absurd (hc.symm.trans (ickb_F (k := 5) (fun q0 => q ((w32_le (x := x) (y := y0)).2 q0)))) (by decide))
    | false =>
      rw [hc] at ex
      cases ex
      refine ⟨⟨rfl, Nat.le_refl _, Nat.le_refl _⟩, fun D dA base n0 k0 p l e R s m args below meth c Q C hb hn hk _ _ kk H locs ls hR hS hl => ?_⟩
      have kk := kk H locs ls hR hS hl
      exact lv_icmp_le C.1 C.2.1 d ht (fun q => absurd (hc.symm.trans (ickb_T (k := 5) ((w32_le (x := x) (y := y0)).1 q))) (by decide)) (fun q => kk)
  · cases ex

theorem sd_acmp_eq {G : AG} {mt : Nat → AM} {y : AM} {pc : Nat} (z : Int) (a b : Nat) (ts : List (Int × Nat)) {off : Int} (d : decode y.2.1 pc = .ok (.if_acmp .eq off, 3)) (ht : (pc : Int) + off = (a : Int)) : am_Snd G mt y pc (32, z, a, b, pc + 3, ts) := by
  intro lv st h o hlen ex
  change xo_32 z a b (pc + 3) ts lv st h = some o at ex
  unfold xo_32 at ex
  split at ex
  · rename_i y0 x0 r
    cases hc : decide (x0 = y0) with
    | true =>
      rw [hc] at ex
      cases ex
      refine ⟨⟨rfl, Nat.le_refl _, Nat.le_refl _⟩, fun D dA base n0 k0 p l e R s m args below meth c Q C hb hn hk _ _ kk H locs ls hR hS hl => ?_⟩
      have kk := kk H locs ls hR hS hl
      exact lv_acmp_eq C.1 C.2.1 d ht (fun q => kk) (fun q => absurd (hc.symm.trans (decide_eq_false q)) (by decide))
    | false =>
      rw [hc] at ex
      cases ex
      refine ⟨⟨rfl, Nat.le_refl _, Nat.le_refl _⟩, fun D dA base n0 k0 p l e R s m args below meth c Q C hb hn hk _ _ kk H locs ls hR hS hl => ?_⟩
      have kk := kk H locs ls hR hS hl
      exact lv_acmp_eq C.1 C.2.1 d ht (fun q => absurd (hc.symm.trans (decide_eq_true q)) (by decide)) (fun q => kk)
  · cases ex

theorem sd_acmp_ne {G : AG} {mt : Nat → AM} {y : AM} {pc : Nat} (z : Int) (a b : Nat) (ts : List (Int × Nat)) {off : Int} (d : decode y.2.1 pc = .ok (.if_acmp .ne off, 3)) (ht : (pc : Int) + off = (a : Int)) : am_Snd G mt y pc (33, z, a, b, pc + 3, ts) := by
  intro lv st h o hlen ex
  change xo_33 z a b (pc + 3) ts lv st h = some o at ex
  unfold xo_33 at ex
  split at ex
  · rename_i y0 x0 r
    cases hc : decide (x0 = y0) with
    | true =>
      rw [hc] at ex
      cases ex
      refine ⟨⟨rfl, Nat.le_refl _, Nat.le_refl _⟩, fun D dA base n0 k0 p l e R s m args below meth c Q C hb hn hk _ _ kk H locs ls hR hS hl => ?_⟩
      have kk := kk H locs ls hR hS hl
      exact lv_acmp_ne C.1 C.2.1 d ht (fun q => absurd (hc.symm.trans (decide_eq_false q)) (by decide)) (fun q => kk)
    | false =>
      rw [hc] at ex
      cases ex
      refine ⟨⟨rfl, Nat.le_refl _, Nat.le_refl _⟩, fun D dA base n0 k0 p l e R s m args below meth c Q C hb hn hk _ _ kk H locs ls hR hS hl => ?_⟩
      have kk := kk H locs ls hR hS hl
      exact lv_acmp_ne C.1 C.2.1 d ht (fun q => kk) (fun q => absurd (hc.symm.trans (decide_eq_true q)) (by decide))
  · cases ex
