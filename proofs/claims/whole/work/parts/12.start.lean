-- the law's frame: a run of the pure machine that answers 1 within the room is what whole_start asks for
def h_law (n b L : Nat) (f : Nat → Int) : AH := (n, 0, fun a => if a = b then some (.inl (99, L, .inl f)) else none)
theorem ao_3 : Cond.arrayOver (.object "RoomFederation$Event") ∈ lw_tbl := List.mem_of_getElem? (i := 73) (by decide +kernel)
theorem ao_4 : Cond.arrayOver (.object "RoomFederation$Server") ∈ lw_tbl := List.mem_of_getElem? (i := 146) (by decide +kernel)
theorem ar_prim {s : State} {args : Array Value} {ty : FieldType} (h : (Cond.arrayClass ty).before args s = true) (hp : ∀ c : ClassId, s.vm.findClass ("[" ++ ty.toString) = some c → va_RA s c ty) : ∃ c : ClassId, ArrOfT s c ty ∧ va_RA s c ty := by
  obtain ⟨c, k, comp, h1, h2, h3⟩ := Cond.arrayClass_spec h
  exact ⟨c, fun n z => ⟨fun k h => (by cases h), k, h2, comp, h3⟩, hp c h1⟩
theorem ar_obj {s : State} {args : Array Value} {C : String} (h : (Cond.arrayOver (.object C)).before args s = true) : ∃ c : ClassId, ArrOfT s c (.object C) ∧ va_RA s c (.object C) := by
  obtain ⟨comp, c, k, h1, h2, h3, h4, h5⟩ := Cond.arrayOver_spec h
  exact ⟨c, fun n z => ⟨fun k h => (by cases h), k, h3, comp, h4⟩, k, comp, h3, h4, h1, h5⟩
set_option maxHeartbeats 1000000 in
theorem law_start {p : Program} {e : Env} {s : State} {m : MethodId} {below : List Frame} {meth : Method} {c : Code} (l : Launch) {b L : Nat} {xs : Nat → Int32} (C0 : lw_At p s m meth c b L xs) {h' : AH} (hE : Em mLw_law 3 [.inr (.inr (some b))] (h_law s.heap.size b L (fun j => (xs j).toInt)) (some (.inl 1)) h') (hc : h'.1 - s.heap.size ≤ 600000) (hsl : h'.2.1 ≤ 7302250) : W p l e room_1 s m #[Value.ref b] below meth c s.heap [] 0 0 (lw_Z below #[Value.ref b] s) (entryFrame m ([Value.ref b] : List Value).toArray 4) := by
  obtain ⟨hx, hb, hr, hml, hown, hts, hX, hbl, hlocks, hgv⟩ := id C0
  have htg : ∀ w ∈ gW, w.before #[Value.ref b] s = true := fun w hw => hts w (List.mem_filter.1 hw).1
  obtain ⟨c0, i0, k0⟩ := u_known (n := 3) htg hin_0 (htg _ w_59)
  obtain ⟨c1, i1, k1⟩ := u_known (n := 16) htg hin_1 (htg _ w_373)
  obtain ⟨c2, i2, k2⟩ := u_known (n := 1) htg hin_2 (htg _ w_99)
  obtain ⟨c3, i3, k3⟩ := u_known (n := 2) htg hin_3 (htg _ w_67)
  obtain ⟨c4, i4, k4⟩ := u_known (n := 11) htg hin_4 (htg _ w_82)
  obtain ⟨c5, i5, k5⟩ := u_known (n := 4) htg hin_5 (htg _ w_147)
  obtain ⟨c6, i6, k6⟩ := u_known (n := 1) htg hin_6 (htg _ w_88)
  obtain ⟨c7, i7, k7⟩ := u_known (n := 33) htg hin_7 (htg _ w_644)
  obtain ⟨dC, dI, hKc⟩ : ∃ (dC : Nat → ClassId) (dI : Nat → Nat → Nat), ∀ (k : Nat) (q : vw_C), gCl[k]? = some q → u_Kn s q.1 q.2.1 q.2.2 (dC k) (dI k) := by
    refine ⟨fun k => match k with | 0 => c0 | 1 => c1 | 2 => c2 | 3 => c3 | 4 => c4 | 5 => c5 | 6 => c6 | _ => c7, fun k => match k with | 0 => i0 | 1 => i1 | 2 => i2 | 3 => i3 | 4 => i4 | 5 => i5 | 6 => i6 | _ => i7, ?_⟩
    intro k q hq
    match k, hq with
    | 0, hq => cases hq; exact k0
    | 1, hq => cases hq; exact k1
    | 2, hq => cases hq; exact k2
    | 3, hq => cases hq; exact k3
    | 4, hq => cases hq; exact k4
    | 5, hq => cases hq; exact k5
    | 6, hq => cases hq; exact k6
    | 7, hq => cases hq; exact k7
    | k + 8, hq => simp [gCl] at hq
  obtain ⟨a0, p0⟩ := ar_prim (ty := .int) (htg _ w_144) (fun _ h => h)
  obtain ⟨a1, p1⟩ := ar_prim (ty := .boolean) (htg _ w_750) (fun _ h => h)
  obtain ⟨a2, p2⟩ := ar_prim (ty := .long) (htg _ w_108) (fun _ h => h)
  obtain ⟨a3, p3⟩ := ar_obj (hts _ ao_3)
  obtain ⟨a4, p4⟩ := ar_obj (hts _ ao_4)
  obtain ⟨dA, hKa⟩ : ∃ (dA : Nat → ClassId), ∀ (k : Nat) (q : ClassId × FieldType), (am_tys gAt dA)[k]? = some q → ArrOfT s q.1 q.2 ∧ va_RA s q.1 q.2 := by
    refine ⟨fun k => match k with | 0 => a0 | 1 => a1 | 2 => a2 | 3 => a3 | _ => a4, ?_⟩
    intro k q hq
    match k, hq with
    | 0, hq => cases hq; exact p0
    | 1, hq => cases hq; exact p1
    | 2, hq => cases hq; exact p2
    | 3, hq => cases hq; exact p3
    | 4, hq => cases hq; exact p4
    | k + 5, hq => simp [am_tys, gAt] at hq
  have hC : am_Ctx gG (mt mLw_law) (dC, dI) dA p room_1 s m #[Value.ref b] meth c := by
    rw [mt_140]
    refine ⟨hx, hb, hml, hown, htg, fun h => absurd h (by decide), ⟨hKc, hKa⟩, ?_, by decide, by decide⟩
    intro C hC
    rcases List.mem_cons.1 hC with rfl | hC
    · exact va_AO.of (hts _ ao_3)
    · rcases List.mem_cons.1 hC with rfl | hC
      · exact va_AO.of (hts _ ao_4)
      · exact absurd hC List.not_mem_nil
  obtain ⟨n, hrun⟩ := hE
  have hlen : (al_in [.inr (.inr (some b))] 3).length = (mt mLw_law).2.2.1 := by rw [mt_140]; rfl
  have hS := (am_sound snd_all mt_plain n mLw_law 0 _ [] _ _ _ hrun hlen).2 (dC, dI) dA s.heap.size s.heap.size 0 p l e room_1 s m #[Value.ref b] below meth c (lw_Z below #[Value.ref b] s) hC (Nat.le_refl _) (Nat.le_refl _) (Nat.zero_le _) hc hsl ?_
  · have hRep : am_Rep gG (dC, dI) dA s.heap.size s (h_law s.heap.size b L (fun j => (xs j).toInt)) s.heap := by
      refine ⟨rfl, Nat.le_refl _, fun a x hx => ?_⟩
      have hx : (if a = b then some (.inl (99, L, .inl (fun j => (xs j).toInt))) else none) = some x := hx
      by_cases hab : a = b
      · rw [if_pos hab] at hx
        cases hx
        subst hab
        refine ⟨hbl, ?_⟩
        have : (fun j => Int32.ofInt ((xs j).toInt)) = xs := by funext j; exact Int32.ofInt_toInt _
        show va_X a L (fun j => Int32.ofInt ((xs j).toInt)) s s.heap
        rw [this]
        exact hX
      · rw [if_neg hab] at hx
        cases hx
    have hl := lv_entry ([.ref b]) (n := 4) (Nat.le_of_ble_eq_true rfl)
    rw [lg_entry_eq]
    generalize (lg_sl ([.ref b]) ++ List.replicate (4 - (lg_sl ([.ref b])).length) Slot.unset).toArray = ls at hl ⊢
    have hl : lv_has ls (mt mLw_law).2.2.1 (al_V 0 (al_in [.inr (.inr (some b))] 3)) := by rw [mt_140]; exact hl
    exact W.cs (by show 0 = s.heap.size - s.heap.size; omega) rfl (hS s.heap [] ls hRep va_S.rf hl)
  · intro pc' lv' hrt H locs ls hR hS' hl
    rw [mt_140] at hrt
    obtain ⟨hd, ty, e1, e2⟩ := hrt
    refine va_forget (fun q hq => hS'.2.2 q hq) ?_
    refine W.widen (k := 600000) (n := 7302250) hc hsl ?_
    exact lw_ret hx hb hr hlocks hd
