-- a new event's cells and its grounds
theorem need_ok {N : Nat} {E : EL} {σ : SS} (h : sOK N E σ) (k who whom : Int) : sOK N E (m_need σ k who whom) := by
  constructor
  · intro p hp
    unfold m_need
    split
    · exact Or.inl rfl
    · split
      · exact h.1 p hp
      · exact Or.inl rfl
  · intro p hp
    unfold m_need
    split
    · rfl
    · split
      · exact h.2 p hp
      · rfl
theorem ch_ok {N : Nat} {E : EL} {σ : SS} (hσ : sOK N E σ) (hC : CX N E) {y : Nat} (h : m_ch E σ y = true) : y < N ∧ ¬ e_kd (E y) = 5 := by
  unfold m_ch at h
  rw [b_any_iff] at h
  obtain ⟨p, hp, h⟩ := h
  rcases hσ.at p with z | ⟨n, z1, z2, z3⟩
  · rw [z] at h; simp at h
  · rw [z2, Int.toNat_natCast] at h
    simp only [Bool.and_eq_true, Bool.or_eq_true, decide_eq_true_eq] at h
    rcases h.2 with w | w
    · obtain rfl : n = y := by omega
      exact ⟨z1, pl_no5 z3⟩
    · obtain ⟨a, b⟩ := hC n z1 y w
      exact ⟨by omega, b⟩
theorem prop_wf {N : Nat} {E : EL} {u k a b t : Int} {pa : List Nat} {ow bf : SS} (hp : m_prop u k a b = true) (ha : InR a) (hb : InR b) (ht : InR t) (hW : WE N E) (how : sOK N E ow) : wfE (m_ev E u k a b t pa ow bf) := by
  show (0 ≤ u ∧ u ≤ 11) ∧ (0 ≤ k ∧ k ≤ 5) ∧ (k = 1 ∨ k = 2 → 0 ≤ a ∧ a ≤ 11) ∧ (k = 4 → 0 ≤ a ∧ a ≤ 7) ∧ InR a ∧ InR b ∧ InR t ∧ (k = 2 → ∀ w, w < 12 → -100 ≤ m_lvs E ow a b w ∧ m_lvs E ow a b w ≤ 100)
  unfold m_prop at hp
  rw [Bool.and_eq_true, decide_eq_true_eq] at hp
  obtain ⟨h1, h2⟩ := hp
  have h3 : (k = 0 ∨ k = 3 ∨ k = 5) ∨ (k = 1 ∧ 0 ≤ a ∧ a < 12) ∨ (k = 2 ∧ (0 ≤ a ∧ a < 12) ∧ -100 ≤ b ∧ b ≤ 100) ∨ (k = 4 ∧ 0 ≤ a ∧ a < 8) := by
    split at h2
    · left; assumption
    · split at h2
      · right; left; exact ⟨by assumption, of_decide_eq_true h2⟩
      · split at h2
        · right; right; left
          rw [Bool.and_eq_true, decide_eq_true_eq, decide_eq_true_eq] at h2
          exact ⟨by assumption, h2.1, h2.2⟩
        · split at h2
          · right; right; right; exact ⟨by assumption, of_decide_eq_true h2⟩
          · cases h2
  refine ⟨by omega, by omega, fun z => by omega, fun z => by omega, ha, hb, ht, fun z w hw => ?_⟩
  unfold m_lvs
  split
  · omega
  · exact lev_rng hW how hw
theorem ev_K {N : Nat} {E : EL} {u k a b t : Int} {pa : List Nat} {σ bf : SS} (hE : EOK N E) (hp : m_prop u k a b = true) (ha : InR a) (hb : InR b) (ht : InR t) (hpa : pa.length ≤ 4 ∧ ∀ p ∈ pa, p < N) (hσ : sOK N E σ) (hbf : sOK N E bf) : evK N E (m_ev E u k a b t pa (m_need σ k u a) bf) :=
  ⟨prop_wf hp ha hb ht hE.2.1 (need_ok hσ k u a), hpa, fun y hy => ch_ok (need_ok hσ k u a) hE.2.2.2.1 hy, need_ok hσ k u a, hbf, ev_good⟩
theorem c_mkev {h : AH} {n : Nat} {x : ED} {k : Nat} {e0 : AE} (hk : k = 16) (he : e0 = .inr (1, [.inl 0, .inl 0, .inl 0, .inl 0, .inl 0, .inl 0, .inl 0, .inl 0, .inr (.inr none), .inr (.inr none), .inr (.inr none), .inl 0, .inr (.inr none), .inr (.inr none), .inr (.inr none), .inl 0])) (hO : hOK h) (hn : n < 400) (wf : wfE x) : ∃ H, Em mEvent_init 0 [vR h.1, .inl (n : Int), .inl (e_sd x), .inl (e_kd x), .inl (e_a x), .inl (e_b x), .inl (e_tm x)] (ah_new h k e0) none H ∧ (H.1 = h.1 + 4 ∧ H.2.1 = h.2.1 + 24) ∧ H.2.2 h.1 = some (cEv n x (h.1 + 1) (h.1 + 3) none 0 none none none 0) ∧ H.2.2 (h.1 + 1) = some (cSet (h.1 + 2)) ∧ H.2.2 (h.1 + 2) = some (cLng fun _ => 0) ∧ (∀ a, a < h.1 → H.2.2 a = h.2.2 a) ∧ hOK H := by
  subst hk
  subst he
  refine ⟨_, c_evinit (h := ah_new h 16 _) (v := h.1) ah_neq rfl (Nat.lt_succ_self _) hn wf, ⟨rfl, rfl⟩, ah_eq, ?_, ?_, ?_, ?_⟩
  · exact ah_ne (by omega) (ah_nne (show h.1 + 1 ≠ h.1 + 1 + 2 by omega) hSet_0)
  · exact ah_ne (by omega) (ah_nne (show h.1 + 2 ≠ h.1 + 1 + 2 by omega) hSet_1)
  · intro a ha
    exact ah_ne (by omega) (ah_nne (show a ≠ h.1 + 1 + 2 by omega) ((hSet_o (show a < h.1 + 1 by omega)).trans (ah_nne (by omega) rfl)))
  · refine hOK.put (hOK.new ?_) (show h.1 < h.1 + 1 + 2 + 1 by omega)
    intro a e ha
    show a < h.1 + 1 + 2
    by_cases h1 : a < h.1 + 1
    · omega
    · by_cases h2 : a = h.1 + 1
      · omega
      · by_cases h3 : a = h.1 + 2
        · omega
        · have : (hSet (ah_new h 16 (.inr (1, [.inl 0, .inl 0, .inl 0, .inl 0, .inl 0, .inl 0, .inl 0, .inl 0, .inr (.inr none), .inr (.inr none), .inr (.inr none), .inl 0, .inr (.inr none), .inr (.inr none), .inr (.inr none), .inl 0])))).2.2 a = h.2.2 a := by
            simp [hSet, ah_new, va_up, h2, h3]
            intro z; omega
          rw [this] at ha
          have := hO _ _ ha
          omega
theorem hOK_hSt {h : AH} {f : Nat → Option Nat} (hO : hOK h) : hOK (hSt h f) := by
  intro a e ha
  show a < h.1 + 2
  by_cases h1 : a = h.1
  · omega
  · by_cases h2 : a = h.1 + 1
    · omega
    · simp only [hSt] at ha
      rw [if_neg h1, if_neg h2] at ha
      have := hO _ _ ha
      omega
theorem c_grounds {h H : AH} {B N : Nat} {E : EL} {ad : Nat → Nat} {σ : SS} {s v c pa w : Nat} {x : ED} (hB : B + 81 ≤ h.1) (q : LG H (RW B h.1) ad N E) (hE : EOK N E) (hle : h.1 ≤ H.1) (hK : hOK H) (hS : stR H ad s σ) (hσ : sOK N E σ) (hv : H.2.2 v = some (cEv N x c pa none 0 none none none 0)) (wf : wfE x) (hc : H.2.2 c = some (cSet w)) (hw : H.2.2 w = some (cLng fun _ => 0)) (lv : h.1 ≤ v) (lw : h.1 ≤ w) (lc : h.1 ≤ c) (lpa : h.1 ≤ pa) (how : e_ow x = m_need σ (e_kd x) (e_sd x) (e_a x)) (hch : e_ch x = m_ch E (e_ow x)) (hlv : e_lv x = m_lvs E (e_ow x) (e_a x) (e_b x)) {pf : Nat → Option Nat} (hpa : H.2.2 pa = some (cEa (e_pa x).length pf)) (hpf : lsR ad (e_pa x) pf) : ∃ H1 H2, Em mLaw_needed 1 [vR s, vR v] H (some (vR H.1)) H1 ∧ Em mEvent_setGrounds 1 [vR v, vR H.1] H1 none H2 ∧ evG H2 (RW B H2.1) ad E N v x ∧ (∀ a, a < H.1 → a ≠ v → a ≠ w → H2.2.2 a = H.2.2 a) ∧ hOK H2 ∧ H.1 ≤ H2.1 ∧ few 3 36 H H2 ∧ (∃ fs, H1.2.2 v = some (.inr (1, fs))) := by
  obtain ⟨f, cn, hf⟩ := c_needed hS q hK hE.2.1 hσ hv wf
  have nv := hK _ _ hv
  have nc := hK _ _ hc
  have nw := hK _ _ hw
  have np := hK _ _ hpa
  have hso := need_ok hσ (e_kd x) (e_sd x) (e_a x)
  rw [← how] at hso
  have q1 : LG (hSt H f) (RW B h.1) ad N E := q.fz (fun a ha => hSt_o (by have := ha.2; omega))
  obtain ⟨H2, lv', g', cg, g1, g2, g3, g4, g5, g6, g7⟩ := c_setGrounds (h := hSt H f) (R := RW B h.1) (τ := e_ow x) (g := H.1) ⟨H.1 + 1, f, hSt_0, hSt_1, fun i hi => by rw [hf i hi, how]⟩ q1 hE.1 (hOK_hSt hK) hE.2.1 hso ((hSt_o nv).trans hv) wf ((hSt_o nc).trans hc) ((hSt_o nw).trans hw) (fun z => by have := z.2; omega) (fun z => by have := z.2; omega) (fun a ha => by have := ha.2; show a < H.1 + 2; omega)
  have e1 : (hSt H f).1 = H.1 + 2 := rfl
  have e2 : (hSt H f).2.1 = H.2.1 + 24 := rfl
  rw [e1, e2] at g5
  rw [e1] at g4 g6
  have cv : c ≠ v := fun z => by rw [z, hv] at hc; cases hc
  have cw : c ≠ w := fun z => by rw [z, hw] at hc; cases hc
  have pv : pa ≠ v := fun z => by rw [z, hv] at hpa; cases hpa
  have pw : pa ≠ w := fun z => by rw [z, hw] at hpa; cases hpa
  refine ⟨_, H2, cn, cg, ⟨⟨by omega, by omega⟩, c, pa, H.1, lv', g1, ⟨w, g', ⟨⟨by omega, by omega⟩, by omega, by omega⟩, ?_, g2, fun y => by rw [g3 y, hch]⟩, ⟨pf, ⟨by omega, by omega⟩, ?_, hpf⟩, ⟨fun k2 => ?_, g4.2⟩, ⟨H.1 + 1, f, ⟨⟨by omega, by omega⟩, by omega, by omega⟩, ?_, ?_, fun i hi => by rw [hf i hi, how]⟩⟩, ?_, g7, by omega, ⟨by omega, by omega⟩, ⟨_, (hSt_o nv).trans hv⟩⟩
  · exact (g6 c cv cw (by omega)).trans ((hSt_o nc).trans hc)
  · exact (g6 pa pv pw (by omega)).trans ((hSt_o np).trans hpa)
  · obtain ⟨fl, l1, l2, l3⟩ := g4.1 k2
    have := g7 _ _ l2
    exact ⟨H.1 + 2, fl, ⟨by omega, by omega⟩, l1, l2, fun u hu => by rw [l3 u hu, hlv]⟩
  · exact (g6 _ (by omega) (by omega) (by omega)).trans hSt_0
  · exact (g6 _ (by omega) (by omega) (by omega)).trans hSt_1
  · intro a ha z1 z2
    exact (g6 a z1 z2 (by omega)).trans (hSt_o ha)
theorem evG.fz {R : Nat → Prop} {h h' : AH} {ad : Nat → Nat} {E : EL} {n v : Nat} {x : ED} (z : fz R h h') (q : evG h R ad E n v x) : evG h' R ad E n v x := by
  obtain ⟨rv, c, pa, gr, lv, q1, ⟨w, g, ⟨r1, r2⟩, c1, c2, c3⟩, ⟨pf, r3, p1, p2⟩, q4, q5⟩ := q
  refine ⟨rv, c, pa, gr, lv, (z _ rv).trans q1, ⟨w, g, ⟨r1, r2⟩, (z _ r1).trans c1, (z _ r2).trans c2, c3⟩, ⟨pf, r3, (z _ r3).trans p1, p2⟩, ⟨fun k => ?_, q4.2⟩, q5.fz z⟩
  obtain ⟨la, fl, r4, l1, l2, l3⟩ := q4.1 k
  exact ⟨la, fl, r4, l1, (z _ r4).trans l2, l3⟩
theorem evG.mono {R R' : Nat → Prop} {h : AH} {ad : Nat → Nat} {E : EL} {n v : Nat} {x : ED} (hR : ∀ a, R a → R' a) (q : evG h R ad E n v x) : evG h R' ad E n v x := by
  obtain ⟨rv, c, pa, gr, lv, q1, ⟨w, g, ⟨r1, r2⟩, c1⟩, ⟨pf, r3, p1⟩, q4, q5⟩ := q
  refine ⟨hR _ rv, c, pa, gr, lv, q1, ⟨w, g, ⟨hR _ r1, hR _ r2⟩, c1⟩, ⟨pf, hR _ r3, p1⟩, ⟨fun k => ?_, q4.2⟩, q5.mono hR⟩
  obtain ⟨la, fl, r4, l1⟩ := q4.1 k
  exact ⟨la, fl, hR _ r4, l1⟩
theorem v_ds_mem {dh : Nat → Bool} {n y : Nat} : y ∈ v_ds dh n ↔ y < n ∧ dh y = true := by
  induction n with
  | zero => simp [v_ds]
  | succ n ih =>
    simp only [v_ds]
    cases hd : dh n
    · rw [cond_false, ih]
      constructor
      · rintro ⟨a, b⟩; exact ⟨by omega, b⟩
      · rintro ⟨a, b⟩
        by_cases e : y = n
        · subst e; rw [hd] at b; cases b
        · exact ⟨by omega, b⟩
    · rw [cond_true, List.mem_cons, ih]
      constructor
      · rintro (rfl | ⟨a, b⟩)
        · exact ⟨by omega, hd⟩
        · exact ⟨by omega, b⟩
      · rintro ⟨a, b⟩
        by_cases e : y = n
        · exact Or.inl e
        · exact Or.inr ⟨by omega, b⟩
theorem rsX.cg {h h' : AH} {Z : Nat} (q : rsX h Z) (e : ∀ i, i < 19 → h'.2.2 (Z + i) = h.2.2 (Z + i)) : rsX h' Z := by
  obtain ⟨fa, ft, gc, gs, gx, gp, tp, ls, qu, rk, q3⟩ := q
  exact ⟨_, _, _, _, _, _, _, _, _, _, q3.cg (fun i hi => e i hi)⟩
