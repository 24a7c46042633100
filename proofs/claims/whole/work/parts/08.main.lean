-- the runs of a method are its contract
theorem al_in_V {as : List AV} {pad : Nat} {q : Nat × Value} (h2 : ∀ v ∈ as, av_two v = false) (h : q ∈ al_V 0 (al_in as pad)) : q ∈ lv_args 0 (as.map av_V) := by
  obtain ⟨j, v, h3, h4, h5⟩ := al_V_mem.1 h
  have hj : as[j]? = some v := by
    rw [al_in, List.getElem?_append] at h3
    split at h3
    · rename_i hl
      rw [List.getElem?_map] at h3
      obtain ⟨w, hw, e⟩ := Option.map_eq_some_iff.1 h3
      cases e
      exact hw
    · rw [List.getElem?_replicate] at h3
      split at h3 <;> cases h3
  have key : ∀ (as : List AV) (i j : Nat) (v : AV), (∀ v ∈ as, av_two v = false) → as[j]? = some v → (i + j, av_V v) ∈ lv_args i (as.map av_V) := by
    intro as
    induction as with
    | nil => intro i j v _ h; simp at h
    | cons x r ih =>
      intro i j v h2 hj
      simp only [List.map_cons, lv_args]
      have hx : (av_V x).category = 1 := by rw [av_cat, h2 x List.mem_cons_self]; rfl
      rw [if_neg (by rw [hx]; decide)]
      cases j with
      | zero =>
        have : x = v := by simpa using hj
        subst this
        exact List.mem_cons_self
      | succ j =>
        have := ih (i + 1) j v (fun w hw => h2 w (List.mem_cons_of_mem _ hw)) (by simpa using hj)
        rw [show i + (j + 1) = i + 1 + j by omega]
        exact List.mem_cons_of_mem _ this
  rw [h5]
  exact key as 0 j v h2 hj
theorem am_sl {as : List AV} (h2 : ∀ v ∈ as, av_two v = false) : (lg_sl (as.map av_V)).length = as.length := by
  induction as with
  | nil => rfl
  | cons x r ih =>
    have hx : (av_V x).category = 1 := by rw [av_cat, h2 x List.mem_cons_self]; rfl
    have := ih fun w hw => h2 w (List.mem_cons_of_mem _ hw)
    simp only [lg_sl, List.map_cons, List.flatMap_cons, List.length_append, List.length_cons] at this ⊢
    rw [if_neg (by rw [hx]; decide), this]
    simp only [List.length_cons, List.length_nil]
    omega
set_option maxHeartbeats 1000000 in
theorem am_sound {G : AG} {mt : Nat → AM} (hP : ∀ M pc, am_Snd G mt (mt M) pc (am_at (pT M) pc)) (hmt : ∀ M, plainName (mt M).1.cls = true) : ∀ (n M pc : Nat) (lv : AL) (st : List AV) (h : AH) (r : Option AV) (h' : AH), am_run n (pT M) pc lv st h = some (r, h') → lv.length = (mt M).2.2.1 →
    (h.1 ≤ h'.1 ∧ h.2.1 ≤ h'.2.1) ∧ ∀ (D : va_G) (dA : Nat → ClassId) (base n0 k0 : Nat) (p : Program) (l : Launch) (e : Env) (R : Room) (s : State) (m : MethodId) (args : Array Value) (below : List Frame) (meth : Method) (c : Code) (Q : State → Prop), am_Ctx G (mt M) D dA p R s m args meth c → base ≤ s.heap.size → n0 ≤ h.1 → k0 ≤ h.2.1 → h'.1 - n0 ≤ R.cells → h'.2.1 - k0 ≤ R.slots →
      (∀ (pc' : Nat) (lv' : AL), am_rt (mt M) pc' r → am_W G (mt M) D dA base n0 k0 p l e R s m args below meth c Q pc' lv' r.toList h') → am_W G (mt M) D dA base n0 k0 p l e R s m args below meth c Q pc lv st h := by
  intro n
  induction n with
  | zero => intro M pc lv st h r h' ex; cases ex
  | succ n ih =>
    intro M pc lv st h r h' ex hlen
    -- what the instruction does does not depend on the frame; a step's sums
    simp only [am_run] at ex
    split at ex
    · cases ex
    · rename_i pc1 lv1 st1 h1 e1
      obtain ⟨⟨hl1, hsum⟩, hs⟩ := hP M pc lv st h _ hlen e1
      have hl1 : lv1.length = (mt M).2.2.1 := hl1.trans hlen
      obtain ⟨hm, hw⟩ := ih M pc1 lv1 st1 h1 r h' ex hl1
      refine ⟨⟨Nat.le_trans hsum.1 hm.1, Nat.le_trans hsum.2 hm.2⟩, ?_⟩
      intro D dA base n0 k0 p l e R s m args below meth c Q C hb hn hk hrc hrs kend
      have h2 := hw D dA base n0 k0 p l e R s m args below meth c Q C hb (Nat.le_trans hn hsum.1) (Nat.le_trans hk hsum.2) hrc hrs kend
      exact hs D dA base n0 k0 p l e R s m args below meth c Q C hb hn hk (Nat.le_trans (Nat.sub_le_sub_right hm.1 _) hrc) (Nat.le_trans (Nat.sub_le_sub_right hm.2 _) hrs) h2
    · rename_i M1 as pad pc1 st1 e1
      split at ex
      · cases ex
      · rename_i r1 h1 e2
        have hpad : (al_in as pad).length = as.length + pad := by simp [al_in]
        obtain ⟨hcall, hs⟩ := hP M pc lv st h _ hlen e1
        obtain ⟨hm1, hw1⟩ := ih M1 0 (al_in as pad) [] h r1 h1 e2 (by rw [hpad]; exact hcall.1)
        obtain ⟨hm2, hw2⟩ := ih M pc1 lv (r1.toList ++ st1) h1 r h' ex hlen
        refine ⟨⟨Nat.le_trans hm1.1 hm2.1, Nat.le_trans hm1.2 hm2.2⟩, ?_⟩
        intro D dA base n0 k0 p l e R s m args below meth c Q C hb hn hk hrc hrs kend
        refine hs D dA base n0 k0 p l e R s m args below meth c Q C hb hn hk r1 h1 ?_ hm1.1 hm1.2 (Nat.le_trans (Nat.sub_le_sub_right hm2.1 _) hrc) (Nat.le_trans (Nat.sub_le_sub_right hm2.2 _) hrs) (hw2 D dA base n0 k0 p l e R s m args below meth c Q C hb (Nat.le_trans hn hm1.1) (Nat.le_trans hk hm1.2) hrc hrs kend)
        refine Met.ofW (cc := (mt M1).2.1) (maxL := (mt M1).2.2.1) (ret := (mt M1).2.2.2.1) (hmt M1) rfl ?_
        intro p e s m args below meth c s₁ B hml hv
        obtain ⟨rfl, hRep, hK, hAO⟩ := hv
        have hts := atoms_spec (ws := am_ws G (mt M1)) B.pre
        have hown : s.vm.findClass (mt M1).1.cls = some m.cls := findClass_of_methodNamed B.named
        have C1 : am_Ctx G (mt M1) D dA p (am_rm (mt M1) (h1.1 - h.1) (h1.2.1 - h.2.1)) s m (as.map av_V).toArray meth c := ⟨B.exec, B.bytes, hml, hown, fun w hw => hts w (List.mem_cons_of_mem _ hw), fun hi => (name_of_methodNamed B.named B.method).1.trans hi, hK, hAO, Nat.le_refl _, Nat.le_refl _⟩
        have hb1 : base ≤ s.heap.size := by rw [hRep.1]; exact hRep.2.1
        have hlsz : (lg_sl (as.map av_V)).length ≤ (mt M1).2.2.1 := by rw [am_sl hcall.2, ← hcall.1]; omega
        have hl := lv_entry (as.map av_V) hlsz
        rw [lg_entry_eq]
        generalize (lg_sl (as.map av_V) ++ List.replicate ((mt M1).2.2.1 - (lg_sl (as.map av_V)).length) Slot.unset).toArray = ls at hl ⊢
        have hl : lv_has ls (mt M1).2.2.1 (al_V 0 (al_in as pad)) := ⟨hl.1, hl.2.1, fun q hq => hl.2.2 q (al_in_V hcall.2 hq)⟩
        have hW := hw1 D dA base h.1 h.2.1 p l e (am_rm (mt M1) (h1.1 - h.1) (h1.2.1 - h.2.1)) s m (as.map av_V).toArray below meth c (MQ below (am_Qc G D dA base r1 h1) (as.map av_V).toArray s (h1.1 - h.1) (h1.2.1 - h.2.1) (fun q => base ≤ q)) C1 hb1 (Nat.le_refl _) (Nat.le_refl _) (Nat.le_refl _) (Nat.le_refl _) ?_
        · have hW := hW s.heap [] ls hRep va_S.rf hl
          exact W.cs (by omega) (by omega) hW
        · intro pc' lv' hrt H locs ls' hR hS hl'
          have hlocks := B.notSynchronized
          have hret := B.returns
          have hq : ∀ (v : Option Value), v = r1.map av_V → ∀ t : State, t.heap = H → s.WarmedH t.vm → am_Qc G D dA base r1 h1 (as.map av_V).toArray s (.returned v) t := by
            intro v hv t ht hW
            subst hv
            exact ⟨rfl, by rw [ht]; exact hR.moved hW.alike, hS.F ht⟩
          match r1, hrt, hq with
          | none, hrt, hq => exact W.vret B.exec B.bytes (hret.trans hrt.2) (hq none rfl) hS.2.2 hrt.1
          | some (.inl x), hrt, hq =>
            obtain ⟨hd, ty, e1, e2⟩ := hrt
            exact W.zret B.exec B.bytes (hret.trans e1) e2 (hq _ rfl) hS.2.2 hd
          | some (.inr (.inl x)), hrt, hq => exact absurd hrt id
          | some (.inr (.inr x)), hrt, hq =>
            obtain ⟨hd, rt, e1, e2⟩ := hrt
            refine W.aret B.exec B.bytes (hret.trans e1) e2 ?_ (hq _ rfl) hS.2.2 hd
            cases x with
            | none => exact Or.inl rfl
            | some x => exact Or.inr ⟨x, rfl⟩
    · rename_i r0 e1
      cases ex
      refine ⟨⟨Nat.le_refl _, Nat.le_refl _⟩, ?_⟩
      intro D dA base n0 k0 p l e R s m args below meth c Q C hb hn hk hrc hrs kend
      have hs := hP M pc lv st h _ hlen e1
      rw [hs.1]
      exact kend pc lv hs.2
