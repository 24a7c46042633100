-- RoomFederation.forge
def d_can (V : Nat → SV) (s : Nat) (n : Int) : Bool := decide (n = -1) || (decide (0 ≤ n ∧ n < 400) && (V s).1 n.toNat)
def d_fe (N : Nat) (E : EL) (u k a b t one two : Int) : ED := m_ev E u k a b t (l_pair one two) (m_need (r_res N E (l_pair one two)) k u a) (r_res N E (l_pair one two))
def d_forge (N : Nat) (E : EL) (V : Nat → SV) (u k a b t one two : Int) : WD × Int := if m_prop u k a b = true then (if (d_can V (u.toNat % 4) one && d_can V (u.toNat % 4) two) = true then (if N = 400 then ((N, E, V), -3) else (d_enter N E V (d_fe N E u k a b t one two), (N : Int))) else ((N, E, V), -2)) else ((N, E, V), -1)
theorem can_rng {N : Nat} {E : EL} {V : Nat → SV} {s : Nat} (hS : SOK N E (V s)) {n : Int} (h : d_can V s n = true) : n = -1 ∨ (0 ≤ n ∧ n < N) := by
  unfold d_can at h
  rw [Bool.or_eq_true, Bool.and_eq_true, decide_eq_true_eq, decide_eq_true_eq] at h
  rcases h with h | ⟨h1, h2⟩
  · exact Or.inl h
  · have := hS.1 _ h2
    exact Or.inr ⟨h1.1, by omega⟩
theorem pair_ok {N : Nat} {one two : Int} (h1 : one = -1 ∨ (0 ≤ one ∧ one < N)) (h2 : two = -1 ∨ (0 ≤ two ∧ two < N)) : (l_pair one two).length ≤ 2 ∧ ∀ p ∈ l_pair one two, p < N := by
  unfold l_pair
  constructor
  · rw [List.length_append]
    have a1 : (if 0 ≤ one then [one.toNat] else []).length ≤ 1 := by split <;> simp
    have a2 : (if 0 ≤ two ∧ two ≠ one then [two.toNat] else []).length ≤ 1 := by split <;> simp
    omega
  · intro p hp
    rcases List.mem_append.1 hp with z | z
    · split at z
      · have := List.mem_singleton.1 z; omega
      · cases z
    · split at z
      · have := List.mem_singleton.1 z; omega
      · cases z
set_option maxHeartbeats 8000000 in
theorem c_forge {h : AH} {B N : Nat} {E : EL} {V : Nat → SV} {ad : Nat → Nat} (q : cls h B N E V ad) (hE : EOK N E) (hS : VOK N E V) {u k a b t one two : Int} (hu : InR u) (hk : InR k) (ha : InR a) (hb : InR b) (ht : InR t) (ho : InR one) (hw : InR two) : ∃ h' ad', Em mRF_forge 3 [vR B, .inl u, .inl k, .inl a, .inl b, .inl t, .inl one, .inl two] h (some (.inl (d_forge N E V u k a b t one two).2)) h' ∧ cls h' B (d_forge N E V u k a b t one two).1.1 (d_forge N E V u k a b t one two).1.2.1 (d_forge N E V u k a b t one two).1.2.2 ad' ∧ clf B h h' ∧ few 14 140 h h' := by
  have hB81 := q.2.2.2.2.2.2.2.2
  have cp := c_isProper (h := h) hu hk ha hb
  unfold d_forge
  by_cases p : m_prop u k a b = true
  · rw [if_pos p]
    have u12 := prop_u p
    have lc := q.2.1.1
    have cf := c_lfull lc hE.1
    have hs4 : u.toNat % 4 < 4 := Nat.mod_lt _ (by omega)
    obtain ⟨f22, r22, e22⟩ := q.2.2.2.2.1
    obtain ⟨nw, ⟨gk, gh, gd, hsv, hgk, -, hgd⟩, -⟩ := q.2.2.2.2.2.1 _ hs4
    have cc1 := c_canFollow hsv ho
    have cc2 := c_canFollow hsv hw
    rw [hgk] at cc1 cc2
    change Em _ _ _ _ (some (vB (d_can V (u.toNat % 4) one))) _ at cc1
    change Em _ _ _ _ (some (vB (d_can V (u.toNat % 4) two))) _ at cc2
    have toA : ∀ {o : Option AV × AH}, Ev tRF_forge 30 [some (vR B), some (.inl u), some (.inl k), some (.inl a), some (.inl b), some (.inl t), some (.inl one), some (.inl two), some (vR (B + 23 + 7 * (u.toNat % 4))), none, none] [vB (d_can V (u.toNat % 4) one)] h o → Ev tRF_forge 0 [some (vR B), some (.inl u), some (.inl k), some (.inl a), some (.inl b), some (.inl t), some (.inl one), some (.inl two), none, none, none] [] h o := by
      intro o hgo
      iterate 4 (refine ev_st rfl rfl ?_)
      refine ev_cl rfl rfl cp ?_
      refine ev_zneT rfl p ?_
      iterate 1 (refine ev_st rfl rfl ?_)
      refine ev_getf rfl q.1 (by rfl) ?_
      iterate 2 (refine ev_st rfl rfl ?_)
      refine ev_rem (((u.toNat % 4 : Nat)) : Int) rfl (by decide) (by
        rw [w32_id (by omega) (by omega), show w32 4 = 4 by decide, Int.tmod_eq_emod_of_nonneg (by omega)]
        omega) ?_
      refine ev_aaldN rfl r22 (by omega) (by omega) ?_
      rw [e22 _ hs4]
      iterate 3 (refine ev_st rfl rfl ?_)
      refine ev_callV rfl rfl hsv.1 rfl cc1 ?_
      exact hgo
    by_cases k1 : d_can V (u.toNat % 4) one = true
    · by_cases k2 : d_can V (u.toNat % 4) two = true
      · rw [if_pos (by rw [k1, k2]; rfl)]
        by_cases n4 : N = 400
        · rw [if_pos n4]
          refine ⟨h, ad, ?_, q, clf.rf, few.rf⟩
          show Ev tRF_forge 0 [some (vR B), some (.inl u), some (.inl k), some (.inl a), some (.inl b), some (.inl t), some (.inl one), some (.inl two), none, none, none] [] h _
          refine toA ?_
          refine ev_zeqF rfl k1 ?_
          iterate 2 (refine ev_st rfl rfl ?_)
          refine ev_callV rfl rfl hsv.1 rfl cc2 ?_
          refine ev_zneT rfl k2 ?_
          iterate 1 (refine ev_st rfl rfl ?_)
          refine ev_getf rfl q.1 (by rfl) ?_
          refine ev_callV rfl rfl lc rfl cf ?_
          refine ev_zeqF rfl (decide_eq_true n4) ?_
          iterate 1 (refine ev_st rfl rfl ?_)
          exact ev_rt rfl rfl rfl
        · rw [if_neg n4]
          have hN : N < 400 := by have := hE.1; omega
          have hK := q.2.2.2.2.2.2.2.1
          have hL := q.2.2.2.2.2.2.1
          have r1 := can_rng (hS _ hs4) k1
          have r2 := can_rng (hS _ hs4) k2
          have tk := pair_ok r1 r2
          have so := res_ok hE tk.2
          have xK : evK N E (d_fe N E u k a b t one two) := ev_K hE p ha hb ht ⟨by omega, tk.2⟩ so so
          generalize hx : d_fe N E u k a b t one two = x at *
          have x1 : e_sd x = u := by rw [← hx]; rfl
          have x2 : e_kd x = k := by rw [← hx]; rfl
          have x3 : e_a x = a := by rw [← hx]; rfl
          have x4 : e_b x = b := by rw [← hx]; rfl
          have x5 : e_tm x = t := by rw [← hx]; rfl
          have x6 : e_pa x = l_pair one two := by rw [← hx]; rfl
          have x7 : e_ow x = m_need (r_res N E (l_pair one two)) (e_kd x) (e_sd x) (e_a x) := by rw [← hx]; rfl
          have x8 : e_ch x = m_ch E (e_ow x) := by rw [← hx]; rfl
          have x9 : e_lv x = m_lvs E (e_ow x) (e_a x) (e_b x) := by rw [← hx]; rfl
          have x10 : e_bf x = r_res N E (e_pa x) := by rw [← hx]; rfl
          have wf := xK.1
          obtain ⟨H1, ce, ⟨E1, E2⟩, E3, E4, E5, E6, E7⟩ := c_mkev (h := h) (n := N) (x := x) rfl rfl hK hN wf
          have fzA : fz (RW B h.1) h H1 := fun a ha => E6 a ha.2
          have lgH : lgR H1 (B + 1) (B + 2) N ad := q.2.1.cg (E6 _ (by omega)) (E6 _ (by omega))
          obtain ⟨pf, hpf, cl⟩ := c_pair (R := RW B h.1) lgH E7 (hL.fz fzA) hE.1 r1 r2
          rw [← x6] at hpf cl
          generalize hH2 : ah_new H1 (e_pa x).length (cEa (e_pa x).length pf) = H2 at *
          have H21 : H2.1 = h.1 + 5 := by rw [← hH2]; show H1.1 + 1 = _; omega
          have H22 : H2.2.1 = h.2.1 + 24 + (e_pa x).length := by rw [← hH2]; show H1.2.1 + _ = _; omega
          have fr2 : ∀ a, a < h.1 + 4 → H2.2.2 a = H1.2.2 a := fun a ha => by rw [← hH2]; exact ah_nne (by omega) rfl
          have pa2 : H2.2.2 (h.1 + 4) = some (cEa (e_pa x).length pf) := by
            rw [← hH2, show h.1 + 4 = H1.1 by omega]; exact ah_neq
          have hK2 : hOK H2 := by rw [← hH2]; exact E7.new
          have v2 := (fr2 h.1 (by omega)).trans E3
          have csp := c_setParents (pa' := h.1 + 4) v2
          generalize hH3 : ah_put H2 h.1 (cEv N x (h.1 + 1) (h.1 + 4) none 0 none none none 0) = H3 at *
          have H31 : H3.1 = h.1 + 5 := by rw [← hH3]; exact H21
          have H32 : H3.2.1 = h.2.1 + 24 + (e_pa x).length := by rw [← hH3]; exact H22
          have v3 : H3.2.2 h.1 = some (cEv N x (h.1 + 1) (h.1 + 4) none 0 none none none 0) := by rw [← hH3]; exact ah_eq
          have fr3 : ∀ a, a ≠ h.1 → H3.2.2 a = H2.2.2 a := fun a ha => by rw [← hH3]; exact ah_ne ha rfl
          have hK3 : hOK H3 := by rw [← hH3]; exact hK2.put (by omega)
          have pa3 : H3.2.2 (h.1 + 4) = some (cEa (e_pa x).length pf) := (fr3 _ (by omega)).trans pa2
          have fr03 : ∀ a, a < h.1 → H3.2.2 a = h.2.2 a := fun a ha => (fr3 a (by omega)).trans ((fr2 a (by omega)).trans (E6 a ha))
          have rz3 : rzb (B + 3) h.1 h H3 := fun a ha _ => fr03 a ha
          have rs3 : rsX H3 (B + 3) := q.2.2.1.cg (fun i hi => fr03 _ (by omega))
          have q3 : cls H3 B N E V ad := q.rz (by omega) hK3 rz3 rs3
          obtain ⟨sR, H4, cre, rs4, st4, so4, w4, hK4, rz4⟩ := c_resolve (h := H3) (R := RW B H3.1) (ad := ad) (N := N) (Z := B + 3) (lo := B + 1) (m := B + 2) (ra := h.1 + 4) (len := (e_pa x).length) (E := E) (L := e_pa x) (rf := pf) hE.1 RW.nz hE.2.1 hE.2.2.1 hE.2.2.2.1 hE.2.2.2.2.1 hE.bw (by omega) (by omega) hK3 (fun a ha => ha.2) xK.2.1.2 (Nat.le_refl _) (by have := xK.2.1.1; omega) hpf (by omega) rs3 pa3 q3.2.1 q3.2.2.2.2.2.2.1 q3.2.2.2.1
          have rz04 : rzb (B + 3) h.1 h H4 := fun a ha hn => (rz4 a (by omega) hn).trans (rz3 a ha hn)
          have fzB : fz (RW B h.1) h H4 := rz04.fz RW.nz (fun a ha => ha.2)
          have v4 := (rz4 h.1 (by omega) (by omega)).trans v3
          have pa4 := (rz4 (h.1 + 4) (by omega) (by omega)).trans pa3
          have c4 := (rz4 (h.1 + 1) (by omega) (by omega)).trans ((fr3 _ (by omega)).trans ((fr2 _ (by omega)).trans E4))
          have l4 := (rz4 (h.1 + 2) (by omega) (by omega)).trans ((fr3 _ (by omega)).trans ((fr2 _ (by omega)).trans E5))
          rw [x6] at st4 so4
          obtain ⟨H5a, H5, cn, cg, gE, fr5, hK5, le5, few5, ⟨fsv, gv⟩⟩ := c_grounds (h := h) (H := H4) (x := x) hB81 (hL.fz fzB) hE (by omega) hK4 st4.toR so4 v4 wf c4 l4 (Nat.le_refl _) (by omega) (by omega) (by omega) x7 x8 x9 pa4 hpf
          have rz05 : rzb (B + 3) h.1 h H5 := fun a ha hn => (fr5 a (by omega) (by omega) (by omega)).trans (rz04 a ha hn)
          have rs5 : rsX H5 (B + 3) := rs4.cg (fun i hi => fr5 _ (by omega) (by omega) (by omega))
          have st5 : stF H5 (RW B H5.1) ad sR (e_bf x) := by
            rw [x10, x6]
            obtain ⟨p', f', ⟨z1, z2⟩, z3, z4, z5⟩ := st4
            have m1 : ∀ a, (RW B H3.1 a ∨ H3.1 ≤ a ∧ a < H4.1) → RW B H5.1 a := by
              intro a ha
              rcases ha with z | z
              · exact RW.up (by omega) a z
              · exact ⟨by omega, by omega⟩
            have n1 := hK4 _ _ z3
            have n2 := hK4 _ _ z4
            have d1 : sR ≠ h.1 := fun z => by rw [z, v4] at z3; cases z3
            have d2 : sR ≠ h.1 + 2 := fun z => by rw [z, l4] at z3; cases z3
            have d3 : p' ≠ h.1 := fun z => by rw [z, v4] at z4; cases z4
            have d4 : p' ≠ h.1 + 2 := fun z => by rw [z, l4] at z4; cases z4
            exact ⟨p', f', ⟨m1 _ z1, m1 _ z2⟩, (fr5 _ n1 d1 d2).trans z3, (fr5 _ n2 d3 d4).trans z4, z5⟩
          obtain ⟨h', ad', cad, q', f', w'⟩ := c_admit q hE hN hS (show h.1 ≤ H5.1 by omega) hK5 rz05 rs5 (v := h.1) (er := sR) (x := x) (Nat.le_refl _) gE xK st5
          refine ⟨h', ad', ?_, q', f', ?_⟩
          · show Ev tRF_forge 0 [some (vR B), some (.inl u), some (.inl k), some (.inl a), some (.inl b), some (.inl t), some (.inl one), some (.inl two), none, none, none] [] h _
            refine toA ?_
            refine ev_zeqF rfl k1 ?_
            iterate 2 (refine ev_st rfl rfl ?_)
            refine ev_callV rfl rfl hsv.1 rfl cc2 ?_
            refine ev_zneT rfl k2 ?_
            iterate 1 (refine ev_st rfl rfl ?_)
            refine ev_getf rfl q.1 (by rfl) ?_
            refine ev_callV rfl rfl lc rfl cf ?_
            refine ev_zeqT rfl (decide_eq_false n4) ?_
            iterate 3 (refine ev_st rfl rfl ?_)
            refine ev_getf rfl (ah_nne (by omega) q.1) (by rfl) ?_
            refine ev_callV rfl rfl (ah_nne (by omega) lc) rfl (c_lsize (ah_nne (by omega) lc)) ?_
            iterate 5 (refine ev_st rfl rfl ?_)
            rw [x1, x2, x3, x4, x5] at ce
            refine ev_callV rfl rfl ah_neq rfl ce ?_
            iterate 3 (refine ev_st rfl rfl ?_)
            refine ev_getf rfl ((E6 _ (by omega)).trans q.1) (by rfl) ?_
            iterate 2 (refine ev_st rfl rfl ?_)
            refine ev_callV rfl rfl lgH.1 rfl cl ?_
            rw [show H1.1 = h.1 + 4 by omega]
            refine ev_callV rfl rfl v2 rfl csp ?_
            iterate 1 (refine ev_st rfl rfl ?_)
            refine ev_getf rfl q3.1 (by rfl) ?_
            iterate 1 (refine ev_st rfl rfl ?_)
            refine ev_getf rfl v3 (by rfl) ?_
            iterate 1 (refine ev_st rfl rfl ?_)
            refine ev_getf rfl v3 (by rfl) ?_
            refine ev_alen rfl pa3 ?_
            iterate 1 (refine ev_st rfl rfl ?_)
            refine ev_getf rfl q3.1 (by rfl) ?_
            obtain ⟨_, _, _, _, _, _, _, _, _, _, qq⟩ := rs3
            refine ev_callV rfl rfl qq.c0 rfl cre ?_
            iterate 4 (refine ev_st rfl rfl ?_)
            refine ev_cl rfl rfl cn ?_
            refine ev_callV rfl rfl gv rfl cg ?_
            iterate 3 (refine ev_st rfl rfl ?_)
            refine ev_callV rfl rfl ((rz05 B (by omega) (by omega)).trans q.1) rfl cad ?_
            exact ev_rt rfl rfl rfl
          · obtain ⟨y1, y2⟩ := few5
            obtain ⟨y3, y4⟩ := w'
            have y5 := tk.1
            rw [← x6] at y5
            exact ⟨by omega, by omega⟩
      · rw [if_neg (by rw [k1]; simpa using k2)]
        refine ⟨h, ad, ?_, q, clf.rf, few.rf⟩
        show Ev tRF_forge 0 [some (vR B), some (.inl u), some (.inl k), some (.inl a), some (.inl b), some (.inl t), some (.inl one), some (.inl two), none, none, none] [] h _
        refine toA ?_
        refine ev_zeqF rfl k1 ?_
        iterate 2 (refine ev_st rfl rfl ?_)
        refine ev_callV rfl rfl hsv.1 rfl cc2 ?_
        refine ev_zneF rfl (by simpa using k2) ?_
        iterate 1 (refine ev_st rfl rfl ?_)
        exact ev_rt rfl rfl rfl
    · rw [if_neg (by rw [Bool.and_eq_true]; exact fun z => k1 z.1)]
      refine ⟨h, ad, ?_, q, clf.rf, few.rf⟩
      show Ev tRF_forge 0 [some (vR B), some (.inl u), some (.inl k), some (.inl a), some (.inl b), some (.inl t), some (.inl one), some (.inl two), none, none, none] [] h _
      refine toA ?_
      refine ev_zeqT rfl (by simpa using k1) ?_
      iterate 1 (refine ev_st rfl rfl ?_)
      exact ev_rt rfl rfl rfl
  · rw [if_neg p]
    refine ⟨h, ad, ?_, q, clf.rf, few.rf⟩
    show Ev tRF_forge 0 [some (vR B), some (.inl u), some (.inl k), some (.inl a), some (.inl b), some (.inl t), some (.inl one), some (.inl two), none, none, none] [] h _
    iterate 4 (refine ev_st rfl rfl ?_)
    refine ev_cl rfl rfl cp ?_
    refine ev_zneF rfl (by simpa using p) ?_
    iterate 1 (refine ev_st rfl rfl ?_)
    exact ev_rt rfl rfl rfl
