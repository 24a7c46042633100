-- RoomFederation.send
def d_ev (N : Nat) (E : EL) (V : Nat → SV) (u k a b t : Int) : ED := m_ev E u k a b t ((v_ds (V (u.toNat % 4)).2.2 N).take 4) (m_need (m_state N E (V (u.toNat % 4)).1) k u a) (r_res N E ((v_ds (V (u.toNat % 4)).2.2 N).take 4))
def d_send (N : Nat) (E : EL) (V : Nat → SV) (u k a b t : Int) : WD × Int := if m_prop u k a b = true then (if N = 400 then ((N, E, V), -3) else if m_allow E (d_ev N E V u k a b t) (m_state N E (V (u.toNat % 4)).1) = true then (d_enter N E V (d_ev N E V u k a b t), (N : Int)) else ((N, E, V), -4)) else ((N, E, V), -1)
theorem prop_u {u k a b : Int} (hp : m_prop u k a b = true) : 0 ≤ u ∧ u < 12 := by
  unfold m_prop at hp
  rw [Bool.and_eq_true, decide_eq_true_eq] at hp
  exact hp.1
theorem prop_k {u k a b : Int} (hp : m_prop u k a b = true) : 0 ≤ k ∧ k < 6 := by
  unfold m_prop at hp
  rw [Bool.and_eq_true, decide_eq_true_eq] at hp
  obtain ⟨h1, h2⟩ := hp
  by_cases h : k = 0 ∨ k = 3 ∨ k = 5
  · omega
  · rw [if_neg h] at h2
    by_cases h : k = 1
    · omega
    · rw [if_neg h] at h2
      by_cases h : k = 2
      · omega
      · rw [if_neg h] at h2
        by_cases h : k = 4
        · omega
        · rw [if_neg h] at h2
          cases h2
theorem tk_ok {N : Nat} {dh : Nat → Bool} : ((v_ds dh N).take 4).length ≤ 4 ∧ ∀ p ∈ (v_ds dh N).take 4, p < N := ⟨List.length_take_le _ _, fun p hp => (v_ds_mem.1 (List.mem_of_mem_take hp)).1⟩
theorem few4 {h h1 h2 : AH} {a b k n : Nat} (p : few a b h h1) (h3 : h2.1 ≤ h1.1 + k) (h4 : h2.2.1 ≤ h1.2.1 + n) : few (a + k) (b + n) h h2 := by
  obtain ⟨x, y⟩ := p
  exact ⟨by omega, by omega⟩
set_option maxHeartbeats 8000000 in
theorem c_send {h : AH} {B N : Nat} {E : EL} {V : Nat → SV} {ad : Nat → Nat} (q : cls h B N E V ad) (hE : EOK N E) (hS : VOK N E V) {u k a b t : Int} (hu : InR u) (hk : InR k) (ha : InR a) (hb : InR b) (ht : InR t) : ∃ h' ad', Em mRF_send 4 [vR B, .inl u, .inl k, .inl a, .inl b, .inl t] h (some (.inl (d_send N E V u k a b t).2)) h' ∧ cls h' B (d_send N E V u k a b t).1.1 (d_send N E V u k a b t).1.2.1 (d_send N E V u k a b t).1.2.2 ad' ∧ clf B h h' ∧ few 14 140 h h' := by
  have hB81 := q.2.2.2.2.2.2.2.2
  have cp := c_isProper (h := h) hu hk ha hb
  unfold d_send
  by_cases p : m_prop u k a b = true
  · rw [if_pos p]
    have u12 := prop_u p
    have lc := q.2.1.1
    have cf := c_lfull lc hE.1
    by_cases n4 : N = 400
    · rw [if_pos n4]
      refine ⟨h, ad, ?_, q, clf.rf, few.rf⟩
      show Ev tRF_send 0 [some (vR B), some (.inl u), some (.inl k), some (.inl a), some (.inl b), some (.inl t), none, none, none, none] [] h _
      iterate 4 (refine ev_st rfl rfl ?_)
      refine ev_cl rfl rfl cp ?_
      refine ev_zneT rfl p ?_
      iterate 1 (refine ev_st rfl rfl ?_)
      refine ev_getf rfl q.1 (by rfl) ?_
      refine ev_callV rfl rfl lc rfl cf ?_
      refine ev_zeqF rfl (decide_eq_true n4) ?_
      iterate 1 (refine ev_st rfl rfl ?_)
      exact ev_rt rfl rfl rfl
    · rw [if_neg n4]
      have hN : N < 400 := by have := hE.1; omega
      have hs4 : u.toNat % 4 < 4 := Nat.mod_lt _ (by omega)
      obtain ⟨s0, h1, cs, q1, f1, w1, st1, so1⟩ := c_stateOf q hE hs4 (hS _ hs4)
      have hB1 := q1.2.2.2.2.2.2.2.2
      have hK1 := q1.2.2.2.2.2.2.2.1
      have hL1 := q1.2.2.2.2.2.2.1
      have lc1 := q1.2.1.1
      have tk := tk_ok (N := N) (dh := (V (u.toNat % 4)).2.2)
      have hd : ∀ y, N ≤ y → (V (u.toNat % 4)).2.2 y = false := fun y hy => by
        rw [(hS _ hs4).2.2.2.2]
        unfold m_head
        cases hz : (V (u.toNat % 4)).1 y
        · rfl
        · have := (hS _ hs4).1 y hz; omega
      have xK : evK N E (d_ev N E V u k a b t) := ev_K hE p ha hb ht tk so1 (res_ok hE tk.2)
      generalize hx : d_ev N E V u k a b t = x at *
      have x1 : e_sd x = u := by rw [← hx]; rfl
      have x2 : e_kd x = k := by rw [← hx]; rfl
      have x3 : e_a x = a := by rw [← hx]; rfl
      have x4 : e_b x = b := by rw [← hx]; rfl
      have x5 : e_tm x = t := by rw [← hx]; rfl
      have x6 : e_pa x = (v_ds (V (u.toNat % 4)).2.2 N).take 4 := by rw [← hx]; rfl
      have x7 : e_ow x = m_need (m_state N E (V (u.toNat % 4)).1) (e_kd x) (e_sd x) (e_a x) := by rw [← hx]; rfl
      have x8 : e_ch x = m_ch E (e_ow x) := by rw [← hx]; rfl
      have x9 : e_lv x = m_lvs E (e_ow x) (e_a x) (e_b x) := by rw [← hx]; rfl
      have x10 : e_bf x = r_res N E (e_pa x) := by rw [← hx]; rfl
      have wf := xK.1
      obtain ⟨H1, ce, ⟨E1, E2⟩, E3, E4, E5, E6, E7⟩ := c_mkev (h := h1) (n := N) (x := x) rfl rfl hK1 hN wf
      have fzA : fz (RW B h1.1) h1 H1 := fun a ha => E6 a ha.2
      obtain ⟨f22, r22, e22⟩ := q.2.2.2.2.1
      obtain ⟨nw0, ⟨gk0, gh0, gd0, hsv0, -⟩, -⟩ := q.2.2.2.2.2.1 _ hs4
      obtain ⟨nw, ⟨gk, gh, gd, hsv, -, -, hgd⟩, -⟩ := q1.2.2.2.2.2.1 _ hs4
      have svH : svR H1 (B + 23 + 7 * (u.toNat % 4)) gk gh gd nw := by
        obtain ⟨a0, a1, a2, a3, a4, a5, a6⟩ := hsv
        exact ⟨(E6 _ (by omega)).trans a0, (E6 _ (by omega)).trans a1, (E6 _ (by omega)).trans a2, (E6 _ (by omega)).trans a3, (E6 _ (by omega)).trans a4, (E6 _ (by omega)).trans a5, (E6 _ (by omega)).trans a6⟩
      have lgH : lgR H1 (B + 1) (B + 2) N ad := q1.2.1.cg (E6 _ (by omega)) (E6 _ (by omega))
      obtain ⟨pf, hpf, cl⟩ := c_latestHeads (R := RW B h1.1) hE.1 E7 (fun a ha => by have := ha.2; omega) svH lgH (hL1.fz fzA) (by rw [hgd]; exact hd)
      rw [hgd, ← x6] at hpf cl
      generalize hH2 : ah_new H1 (e_pa x).length (cEa (e_pa x).length pf) = H2 at *
      have H21 : H2.1 = h1.1 + 5 := by rw [← hH2]; show H1.1 + 1 = _; omega
      have H22 : H2.2.1 = h1.2.1 + 24 + (e_pa x).length := by rw [← hH2]; show H1.2.1 + _ = _; omega
      have fr2 : ∀ a, a < h1.1 + 4 → H2.2.2 a = H1.2.2 a := fun a ha => by rw [← hH2]; exact ah_nne (by omega) rfl
      have pa2 : H2.2.2 (h1.1 + 4) = some (cEa (e_pa x).length pf) := by
        rw [← hH2, show h1.1 + 4 = H1.1 by omega]; exact ah_neq
      have hK2 : hOK H2 := by rw [← hH2]; exact E7.new
      have v2 := (fr2 h1.1 (by omega)).trans E3
      have csp := c_setParents (pa' := h1.1 + 4) v2
      generalize hH3 : ah_put H2 h1.1 (cEv N x (h1.1 + 1) (h1.1 + 4) none 0 none none none 0) = H3 at *
      have H31 : H3.1 = h1.1 + 5 := by rw [← hH3]; exact H21
      have H32 : H3.2.1 = h1.2.1 + 24 + (e_pa x).length := by rw [← hH3]; exact H22
      have v3 : H3.2.2 h1.1 = some (cEv N x (h1.1 + 1) (h1.1 + 4) none 0 none none none 0) := by rw [← hH3]; exact ah_eq
      have fr3 : ∀ a, a ≠ h1.1 → H3.2.2 a = H2.2.2 a := fun a ha => by rw [← hH3]; exact ah_ne ha rfl
      have hK3 : hOK H3 := by rw [← hH3]; exact hK2.put (by omega)
      have fr03 : ∀ a, a < h1.1 → H3.2.2 a = h1.2.2 a := fun a ha => (fr3 a (by omega)).trans ((fr2 a (by omega)).trans (E6 a ha))
      have fzB : fz (RW B h1.1) h1 H3 := fun a ha => fr03 a ha.2
      have st3 : stF H3 (RW B h1.1) ad s0 (m_state N E (V (u.toNat % 4)).1) := st1.fz fzB
      obtain ⟨H4a, H4, cn, cg, gE, fr4, hK4, le4, few4_, ⟨fsv, gv⟩⟩ := c_grounds (h := h1) (H := H3) (x := x) hB1 (hL1.fz fzB) hE (by omega) hK3 st3.toR so1 v3 wf ((fr3 _ (by omega)).trans ((fr2 _ (by omega)).trans E4)) ((fr3 _ (by omega)).trans ((fr2 _ (by omega)).trans E5)) (Nat.le_refl _) (by omega) (by omega) (by omega) x7 x8 x9 ((fr3 _ (by omega)).trans pa2) hpf
      have fr04 : ∀ a, a < h1.1 → H4.2.2 a = h1.2.2 a := fun a ha => (fr4 a (by omega) (by omega) (by omega)).trans (fr03 a ha)
      have fzC : fz (RW B h1.1) h1 H4 := fun a ha => fr04 a ha.2
      have st4 : stF H4 (RW B h1.1) ad s0 (m_state N E (V (u.toNat % 4)).1) := st1.fz fzC
      have rz4 : rzb (B + 3) h1.1 h1 H4 := fun a ha _ => fr04 a ha
      have rs4 : rsX H4 (B + 3) := q1.2.2.1.cg (fun i hi => fr04 _ (by omega))
      have le14 : h1.1 ≤ H4.1 := by omega
      have q4 : cls H4 B N E V ad := q1.rz le14 hK4 rz4 rs4
      have fewA : few (2 + 8) (24 + 64) h H4 := by
        obtain ⟨y1, y2⟩ := w1
        obtain ⟨y3, y4⟩ := few4_
        have y5 := tk.1
        rw [← x6] at y5
        exact ⟨by omega, by omega⟩
      have f04 : clf B h H4 := f1.tr ⟨le14, fun a ha _ => fr04 a ha⟩
      obtain ⟨rv, c', pa', gr', lv', g1, g2, ⟨pf', rpa', p1, p2⟩, g4, g5⟩ := id gE
      have cal := c_allows (st4.toR) (hL1.fz fzC) hE.2.1 so1 g1 wf g4.toR p1 (by have := xK.2.1.1; omega)
      have sv4 : svR H4 (B + 23 + 7 * (u.toNat % 4)) gk gh gd nw := by
        obtain ⟨a0, a1, a2, a3, a4, a5, a6⟩ := hsv
        exact ⟨(fr04 _ (by omega)).trans a0, (fr04 _ (by omega)).trans a1, (fr04 _ (by omega)).trans a2, (fr04 _ (by omega)).trans a3, (fr04 _ (by omega)).trans a4, (fr04 _ (by omega)).trans a5, (fr04 _ (by omega)).trans a6⟩
      have chc := c_headCount sv4
      rw [hgd, b_cnt_stop (show N ≤ 448 by omega) hd] at chc
      have toA : ∀ {o : Option AV × AH}, Ev tRF_send 107 [some (vR B), some (.inl u), some (.inl k), some (.inl a), some (.inl b), some (.inl t), some (vR (B + 23 + 7 * (u.toNat % 4))), some (vR s0), some (vR h1.1), none] [vB (m_allow E x (m_state N E (V (u.toNat % 4)).1))] H4 o → Ev tRF_send 0 [some (vR B), some (.inl u), some (.inl k), some (.inl a), some (.inl b), some (.inl t), none, none, none, none] [] h o := by
        intro o hgo
        iterate 4 (refine ev_st rfl rfl ?_)
        refine ev_cl rfl rfl cp ?_
        refine ev_zneT rfl p ?_
        iterate 1 (refine ev_st rfl rfl ?_)
        refine ev_getf rfl q.1 (by rfl) ?_
        refine ev_callV rfl rfl lc rfl cf ?_
        refine ev_zeqT rfl (decide_eq_false n4) ?_
        iterate 1 (refine ev_st rfl rfl ?_)
        refine ev_getf rfl q.1 (by rfl) ?_
        iterate 2 (refine ev_st rfl rfl ?_)
        refine ev_rem (((u.toNat % 4 : Nat)) : Int) rfl (by decide) (by
          rw [w32_id (by omega) (by omega), show w32 4 = 4 by decide, Int.tmod_eq_emod_of_nonneg (by omega)]
          omega) ?_
        refine ev_aaldN rfl r22 (by omega) (by omega) ?_
        rw [e22 _ hs4]
        iterate 2 (refine ev_st rfl rfl ?_)
        refine ev_getf rfl q.1 (by rfl) ?_
        iterate 2 (refine ev_st rfl rfl ?_)
        refine ev_getf rfl q.1 (by rfl) ?_
        obtain ⟨_, _, _, _, _, _, _, _, _, _, qq⟩ := q.2.2.1
        refine ev_callV rfl rfl qq.c0 rfl cs ?_
        iterate 4 (refine ev_st rfl rfl ?_)
        refine ev_getf rfl (ah_nne (by omega) q1.1) (by rfl) ?_
        refine ev_callV rfl rfl (ah_nne (by omega) lc1) rfl (c_lsize (ah_nne (by omega) lc1)) ?_
        iterate 5 (refine ev_st rfl rfl ?_)
        rw [x1, x2, x3, x4, x5] at ce
        refine ev_callV rfl rfl ah_neq rfl ce ?_
        iterate 4 (refine ev_st rfl rfl ?_)
        refine ev_getf rfl ((E6 _ (by omega)).trans q1.1) (by rfl) ?_
        refine ev_callV rfl rfl svH.1 rfl cl ?_
        rw [show H1.1 = h1.1 + 4 by omega]
        refine ev_callV rfl rfl v2 rfl csp ?_
        iterate 3 (refine ev_st rfl rfl ?_)
        refine ev_cl rfl rfl cn ?_
        refine ev_callV rfl rfl gv rfl cg ?_
        iterate 2 (refine ev_st rfl rfl ?_)
        refine ev_cl rfl rfl cal ?_
        exact hgo
      by_cases al : m_allow E x (m_state N E (V (u.toNat % 4)).1) = true
      · rw [if_pos al]
        by_cases n5 : b_cnt N (V (u.toNat % 4)).2.2 ≤ 4
        · have bf4 : e_bf x = m_state N E (V (u.toNat % 4)).1 := by
            rw [x10, x6, List.take_of_length_le (by rw [v_ds_len]; exact n5)]
            unfold m_state m_heads
            rw [← (hS _ hs4).2.2.2.2]
            refine res_perm (fun y => ?_) ?_
            · rw [v_ds_mem, List.mem_filter, List.mem_range]
            · rw [v_ds_len, ← v_up_filter, v_up_len]
          obtain ⟨h', ad', cad, q', f', w'⟩ := c_admit q1 hE hN hS le14 hK4 rz4 rs4 (v := h1.1) (er := s0) (x := x) (Nat.le_refl _) gE xK (by rw [bf4]; exact st4.mono (RW.up le14))
          refine ⟨h', ad', ?_, q', f1.tr f', ?_⟩
          · show Ev tRF_send 0 [some (vR B), some (.inl u), some (.inl k), some (.inl a), some (.inl b), some (.inl t), none, none, none, none] [] h _
            refine toA ?_
            refine ev_zneT rfl al ?_
            iterate 1 (refine ev_st rfl rfl ?_)
            refine ev_callV rfl rfl sv4.1 rfl chc ?_
            iterate 1 (refine ev_st rfl rfl ?_)
            refine ev_icF rfl (by simp only [ick, w32]; omega) ?_
            iterate 6 (refine ev_st rfl rfl ?_)
            refine ev_ifF rfl (by simp only [ick, w32]; omega) ?_
            iterate 2 (refine ev_st rfl rfl ?_)
            refine ev_callV rfl rfl q4.1 rfl cad ?_
            exact ev_rt rfl rfl rfl
          · have := fewA.tr w'
            obtain ⟨y1, y2⟩ := this
            exact ⟨by omega, by omega⟩
        · obtain ⟨sR, H5, cre, rs5, st5, so5, w5, hK5, rz5⟩ := c_resolve (h := H4) (R := RW B H4.1) (ad := ad) (N := N) (Z := B + 3) (lo := B + 1) (m := B + 2) (ra := pa') (len := (e_pa x).length) (E := E) (L := e_pa x) (rf := pf') hE.1 RW.nz hE.2.1 hE.2.2.1 hE.2.2.2.1 hE.2.2.2.2.1 hE.bw (by omega) (by omega) hK4 (fun a ha => ha.2) xK.2.1.2 (Nat.le_refl _) (by have := xK.2.1.1; omega) p2 (by have := rpa'.1; omega) rs4 p1 q4.2.1 q4.2.2.2.2.2.2.1 q4.2.2.2.1
          have rz15 : rzb (B + 3) h1.1 h1 H5 := fun a ha hn => (rz5 a (by omega) hn).trans (rz4 a ha hn)
          have gE5 : evG H5 (RW B H5.1) ad E N h1.1 x := (gE.fz (rz5.fz RW.nz (fun a ha => ha.2))).mono (RW.up w5.1)
          have st5' : stF H5 (RW B H5.1) ad sR (e_bf x) := by
            rw [x10]
            refine st5.mono (fun a ha => ?_)
            rcases ha with z | z
            · exact RW.up w5.1 a z
            · exact ⟨by omega, z.2⟩
          obtain ⟨h', ad', cad, q', f', w'⟩ := c_admit q1 hE hN hS (show h1.1 ≤ H5.1 by omega) hK5 rz15 rs5 (v := h1.1) (er := sR) (x := x) (Nat.le_refl _) gE5 xK st5'
          have g15 : H5.2.2 B = some (cRF B) := (rz5 B (by omega) (by omega)).trans q4.1
          refine ⟨h', ad', ?_, q', f1.tr f', ?_⟩
          · show Ev tRF_send 0 [some (vR B), some (.inl u), some (.inl k), some (.inl a), some (.inl b), some (.inl t), none, none, none, none] [] h _
            refine toA ?_
            refine ev_zneT rfl al ?_
            iterate 1 (refine ev_st rfl rfl ?_)
            refine ev_callV rfl rfl sv4.1 rfl chc ?_
            iterate 1 (refine ev_st rfl rfl ?_)
            have := b_cnt_le (V (u.toNat % 4)).2.2 N
            refine ev_icT rfl (by simp only [ick, w32]; omega) ?_
            iterate 5 (refine ev_st rfl rfl ?_)
            refine ev_ifT rfl (by simp only [ick, w32]; omega) ?_
            iterate 1 (refine ev_st rfl rfl ?_)
            refine ev_getf rfl q4.1 (by rfl) ?_
            iterate 1 (refine ev_st rfl rfl ?_)
            refine ev_getf rfl g1 (by rfl) ?_
            iterate 1 (refine ev_st rfl rfl ?_)
            refine ev_getf rfl g1 (by rfl) ?_
            refine ev_alen rfl p1 ?_
            iterate 1 (refine ev_st rfl rfl ?_)
            refine ev_getf rfl q4.1 (by rfl) ?_
            obtain ⟨_, _, _, _, _, _, _, _, _, _, qq⟩ := rs4
            refine ev_callV rfl rfl qq.c0 rfl cre ?_
            refine ev_callV rfl rfl g15 rfl cad ?_
            exact ev_rt rfl rfl rfl
          · have y0 := fewA
            obtain ⟨y1, y2⟩ := y0
            obtain ⟨y3, y4⟩ := w'
            exact ⟨by omega, by omega⟩
      · rw [if_neg al]
        refine ⟨H4, ad, ?_, q4, f04, ?_⟩
        · show Ev tRF_send 0 [some (vR B), some (.inl u), some (.inl k), some (.inl a), some (.inl b), some (.inl t), none, none, none, none] [] h _
          refine toA ?_
          refine ev_zneF rfl (by simpa using al) ?_
          iterate 1 (refine ev_st rfl rfl ?_)
          exact ev_rt rfl rfl rfl
        · obtain ⟨y1, y2⟩ := fewA
          exact ⟨by omega, by omega⟩
  · rw [if_neg p]
    refine ⟨h, ad, ?_, q, clf.rf, few.rf⟩
    show Ev tRF_send 0 [some (vR B), some (.inl u), some (.inl k), some (.inl a), some (.inl b), some (.inl t), none, none, none, none] [] h _
    iterate 4 (refine ev_st rfl rfl ?_)
    refine ev_cl rfl rfl cp ?_
    refine ev_zneF rfl (by simpa using p) ?_
    iterate 1 (refine ev_st rfl rfl ?_)
    exact ev_rt rfl rfl rfl
