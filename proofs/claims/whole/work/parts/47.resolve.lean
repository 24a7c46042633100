-- Resolver.resolve
-- chains go back and hold events of states alone
def CX (N : Nat) (E : EL) : Prop := ∀ n, n < N → ∀ y, e_ch (E n) y = true → y < n ∧ ¬ e_kd (E y) = 5
theorem CX.cw {N : Nat} {E : EL} (h : CX N E) : CW N E := fun n hn y hy => (h n hn y hy).1
theorem OL.ow {N : Nat} {E : EL} (h : OL N E) : ∀ n, n < N → sOK N E (e_ow (E n)) := fun n hn => sOK_mono (h n hn) (by omega)
theorem pl_no5 {x : ED} {p : Nat} (h : e_pl x = (p : Int)) : ¬ e_kd x = 5 := by
  intro k
  unfold e_pl m_pl at h
  rw [k] at h
  simp at h
theorem full_ok {N : Nat} {E : EL} (hB : BW N E) (hC : CX N E) {i : Nat} (hi : i < N) {y : Nat} (h : r_full E i y = true) : y < N ∧ ¬ e_kd (E y) = 5 := by
  unfold r_full m_ch at h
  rw [b_any_iff] at h
  obtain ⟨p, hp, h⟩ := h
  rcases (hB i hi).at p with z | ⟨n, z1, z2, z3⟩
  · rw [z] at h; simp at h
  · rw [z2, Int.toNat_natCast] at h
    simp only [Bool.and_eq_true, Bool.or_eq_true, decide_eq_true_eq] at h
    rcases h.2 with w | w
    · obtain rfl : n = y := by omega
      exact ⟨z1, pl_no5 z3⟩
    · obtain ⟨a, b⟩ := hC n z1 y w
      exact ⟨by omega, b⟩
theorem conf_ok {N : Nat} {E : EL} (hB : BW N E) (hC : CX N E) {L : List Nat} (hl : ∀ n ∈ L, n < N) {y : Nat} (h : r_conf E L y = true) : y < N ∧ ¬ e_kd (E y) = 5 := by
  unfold r_conf at h
  rw [Bool.or_eq_true] at h
  rcases h with h | h
  · obtain ⟨i, hi, h⟩ := List.any_eq_true.1 h
    rw [b_any_iff] at h
    obtain ⟨p, hp, h⟩ := h
    simp only [Bool.and_eq_true, decide_eq_true_eq] at h
    rcases (hB i (hl i hi)).at p with z | ⟨n, z1, z2, z3⟩
    · omega
    · obtain rfl : n = y := by omega
      exact ⟨z1, pl_no5 z3⟩
  · rw [Bool.and_eq_true] at h
    obtain ⟨i, hi, h⟩ := List.any_eq_true.1 h.1
    exact full_ok hB hC (hl i hi) h
theorem pow_ok {N : Nat} {E : EL} {cf : Nat → Bool} {y : Nat} (h : r_pow N E cf y = true) : cf y = true := by
  unfold r_pow at h
  rw [Bool.and_eq_true] at h
  exact h.1
theorem pow_2 {N : Nat} {E : EL} {cf : Nat → Bool} {y : Nat} (hy : y < N) (h1 : cf y = true) (h2 : r_pow N E cf y = false) : ¬ e_kd (E y) = 2 := by
  intro k
  have : r_pow N E cf y = true := by
    unfold r_pow
    rw [Bool.and_eq_true, b_any_iff]
    refine ⟨h1, y, hy, ?_⟩
    simp [h1, e_pow, k]
  rw [this] at h2; cases h2
theorem hOK_rz {h h' : AH} {Z : Nat} (hO : hOK h) (hl : Z + 18 < h.1) (q : rz Z h h') : hOK h' := by
  intro a e ha
  rw [q.1.1]
  by_cases hz : Z ≤ a ∧ a < Z + 19
  · omega
  · rw [q.1.2.2 a hz] at ha; exact hO a e ha
theorem hOK_two {h h' : AH} {a b : Nat} (hO : hOK h) (ha : a < h.1) (hb : b < h.1) (q : two a b h h') : hOK h' := by
  intro x e hx
  rw [q.1]
  by_cases h1 : x = a
  · omega
  · by_cases h2 : x = b
    · omega
    · rw [q.2.2 x h1 h2] at hx; exact hO x e hx
def rsX (h : AH) (Z : Nat) : Prop := ∃ fa ft gc gs gx gp tp ls qu rk, rsR h Z fa ft gc gs gx gp tp ls qu rk
theorem rsR.cg {h h' : AH} {Z : Nat} {fa ft : Nat → Option Nat} {gc gs gx gp : Nat → BitVec 64} {tp ls qu : Nat → Option Nat} {rk : Nat → Int} (q : rsR h Z fa ft gc gs gx gp tp ls qu rk) (e : ∀ i, i < 19 → h'.2.2 (Z + i) = h.2.2 (Z + i)) : rsR h' Z fa ft gc gs gx gp tp ls qu rk :=
  ⟨(e 0 (by omega)).trans q.c0, (e 3 (by omega)).trans q.c3, (e 4 (by omega)).trans q.c4, (e 5 (by omega)).trans q.c5, (e 6 (by omega)).trans q.c6, (e 7 (by omega)).trans q.c7, (e 8 (by omega)).trans q.c8, (e 9 (by omega)).trans q.c9, (e 10 (by omega)).trans q.c10, (e 11 (by omega)).trans q.c11, (e 12 (by omega)).trans q.c12, (e 13 (by omega)).trans q.c13, (e 14 (by omega)).trans q.c14, (e 15 (by omega)).trans q.c15, (e 16 (by omega)).trans q.c16, (e 17 (by omega)).trans q.c17, (e 18 (by omega)).trans q.c18⟩
-- all below b stays but the resolver's rows
def rzb (Z b : Nat) (h h' : AH) : Prop := ∀ a, a < b → ¬ (Z ≤ a ∧ a < Z + 19 ∧ a ≠ Z + 1 ∧ a ≠ Z + 2) → h'.2.2 a = h.2.2 a
theorem rzb.tr {Z b : Nat} {h h1 h2 : AH} (p : rzb Z b h h1) (q : rzb Z b h1 h2) : rzb Z b h h2 := fun a h3 h4 => (q a h3 h4).trans (p a h3 h4)
theorem rz.b {Z b : Nat} {h h' : AH} (q : rz Z h h') : rzb Z b h h' := by
  intro a _ hn
  by_cases hz : Z ≤ a ∧ a < Z + 19
  · by_cases e1 : a = Z + 1
    · subst e1; exact q.2.1
    · have e2 : a = Z + 2 := by omega
      subst e2; exact q.2.2
  · exact q.1.2.2 a hz
theorem rzb.fz {Z b : Nat} {h h' : AH} {R : Nat → Prop} (q : rzb Z b h h') (hR : rsN R Z) (hl : ∀ a, R a → a < b) : fz R h h' := by
  intro a ha
  refine q a (hl a ha) ?_
  rintro ⟨z1, z2, z3, z4⟩
  refine hR (a - Z) (by omega) (by omega) (by omega) ?_
  rw [show Z + (a - Z) = a by omega]
  exact ha
theorem two.b {Z b p0 : Nat} {h h' : AH} (q : two (Z + 6) p0 h h') (hp : b ≤ p0) : rzb Z b h h' := by
  intro a ha hn
  exact q.2.2 a (by omega) (by omega)
theorem stF.mono {h : AH} {R R' : Nat → Prop} {ad : Nat → Nat} {s : Nat} {σ : SS} (q : stF h R ad s σ) (hR : ∀ a, R a → R' a) : stF h R' ad s σ := by
  obtain ⟨p, f, ⟨r1, r2⟩, q⟩ := q
  exact ⟨p, f, ⟨hR _ r1, hR _ r2⟩, q⟩
set_option maxHeartbeats 8000000 in
theorem c_resolve {h : AH} {R : Nat → Prop} {ad : Nat → Nat} {N Z lo m ra len : Nat} {E : EL} {L : List Nat} {rf : Nat → Option Nat} (hN : N ≤ 400) (hZR : rsN R Z) (hW : WE N E) (hP : PW N E) (hC : CX N E) (hO : OL N E) (hB : BW N E) (n1 : ¬ (Z ≤ lo ∧ lo < Z + 19)) (n2 : ¬ (Z ≤ m ∧ m < Z + 19)) (hK : hOK h) (hRl : ∀ a, R a → a < h.1) (hl : ∀ n ∈ L, n < N) (hlen : L.length ≤ len) (hlen2 : len ≤ 400) (hrf : lsR ad L rf) (nr : ra ≠ Z + 4 ∧ ra ≠ Z + 8 ∧ ra ≠ Z + 10 ∧ ra ≠ Z + 12) (q : rsX h Z) (hr : h.2.2 ra = some (cEa len rf)) (hG : lgR h lo m N ad) (hL : LG h R ad N E) (h1 : stF h R ad (Z + 1) s_none) : ∃ s h', Em mResolver_resolve 1 [vR Z, vR ra, .inl (L.length : Int), vR lo] h (some (vR s)) h' ∧ rsX h' Z ∧ stF h' (fun a => R a ∨ h.1 ≤ a ∧ a < h'.1) ad s (r_res N E L) ∧ sOK N E (r_res N E L) ∧ (h.1 ≤ h'.1 ∧ h'.1 ≤ h.1 + 2 ∧ h.2.1 ≤ h'.2.1 ∧ h'.2.1 ≤ h.2.1 + 24) ∧ hOK h' ∧ rzb Z h.1 h h' := by
  obtain ⟨fa, ft, gc, gs, gx, gp, tp, ls, qu, rk, q⟩ := q
  by_cases hs0 : L.length = 0
  · have hL0 : L = [] := List.eq_nil_of_length_eq_zero hs0
    refine ⟨Z + 1, h, ?_, ⟨fa, ft, gc, gs, gx, gp, tp, ls, qu, rk, q⟩, ?_, ?_, ⟨by omega, by omega, by omega, by omega⟩, hK, fun a _ _ => rfl⟩
    · show Ev tResolver_resolve 0 [some (vR Z), some (vR ra), some (.inl (L.length : Int)), some (vR lo), none] [] h _
      rw [hs0]
      iterate 1 (refine ev_st rfl rfl ?_)
      refine ev_ifF rfl (by simp only [ick, w32]; omega) ?_
      iterate 1 (refine ev_st rfl rfl ?_)
      refine ev_getf rfl q.c0 (by rfl) ?_
      exact ev_rt rfl rfl rfl
    · rw [hL0]
      exact h1.mono (fun a ha => Or.inl ha)
    · rw [hL0]
      exact ⟨fun p _ => Or.inl rfl, fun p _ => rfl⟩
  · by_cases hs1 : L.length = 1
    · obtain ⟨i, hLi⟩ : ∃ i, L = [i] := by
        match L, hs1 with
        | [i], _ => exact ⟨i, rfl⟩
      have hi := hl i (by rw [hLi]; exact List.mem_singleton.2 rfl)
      obtain ⟨c, pa, gr, sl, lv, er, bh, gd, hc, hbh⟩ := LG_bh hL hi
      have e1 := hrf 0 (by omega)
      rw [hLi] at e1
      have e1 : rf 0 = some (ad i) := e1
      have hv : r_res N E L = e_bh E i := by
        rw [hLi]
        unfold r_res
        rw [if_pos (by simp)]
        funext p
        simp [r_agr]
      refine ⟨bh, h, ?_, ⟨fa, ft, gc, gs, gx, gp, tp, ls, qu, rk, q⟩, ?_, ?_, ⟨by omega, by omega, by omega, by omega⟩, hK, fun a _ _ => rfl⟩
      · show Ev tResolver_resolve 0 [some (vR Z), some (vR ra), some (.inl (L.length : Int)), some (vR lo), none] [] h _
        rw [hs1]
        clear hv
        iterate 1 (refine ev_st rfl rfl ?_)
        refine ev_ifT rfl (by simp only [ick, w32]; omega) ?_
        iterate 2 (refine ev_st rfl rfl ?_)
        refine ev_icF rfl (by simp only [ick, w32]; omega) ?_
        iterate 2 (refine ev_st rfl rfl ?_)
        refine ev_aald 0 rfl hr (by decide) (by omega) ?_
        rw [e1]
        refine ev_getf rfl hc (by rfl) ?_
        exact ev_rt rfl rfl rfl
      · rw [hv]
        exact hbh.mono (fun a ha => Or.inl ha)
      · rw [hv]
        exact hB i hi
    · have hL0 : L ≠ [] := fun z => hs0 (by rw [z]; rfl)
      have hZl : Z + 18 < h.1 := hK _ _ q.c18
      -- findAgreed
      obtain ⟨f1, hf1, c1⟩ := c_findAgreed (f := fa) hB hZR hl hL0 hlen hlen2 nr.1 hrf q.c0 q.c3 q.c4 hr hL
      have qq1 := q.u_fa (z := f1)
      have z1 := rz_put (Z := Z) (h := h) (i := 4) (e := cEa 23 f1) (by omega) (by omega) (by omega)
      have hL1 := hL.fz (rz_fz z1 hZR)
      -- findConflict
      obtain ⟨h2, gc2, gs2, gx2, c2, qq2, z2, hr2, e2⟩ := c_findConflict hN hB hZR hl hL0 hlen hlen2 nr.2 hrf qq1 hf1 (ah_ne nr.1 hr) hL1
      have z2 := rz_tr z1 z2
      have hL2 := hL.fz (rz_fz z2 hZR)
      -- partPowers
      obtain ⟨h3, gc3, gp3, c3, qq3, z3, e3, e3c⟩ := c_partPowers hN hZR hW n1 n2 qq2 (lgR_rz hG z2 n1 n2) hL2
      have z3 := rz_tr z2 z3
      have hcf : bS gc2 = r_conf E L := funext e2
      rw [hcf] at e3 e3c
      have hpw : bS gp3 = r_pow N E (r_conf E L) := funext e3
      have hL3 := hL.fz (rz_fz z3 hZR)
      have hK3 := hOK_rz hK hZl z3
      have h31 : h3.1 = h.1 := z3.1.1
      have h32 : h3.2.1 = h.2.1 := z3.1.2.1
      -- the new state
      have fE : ∀ i, i < 23 → ∀ x, f1 i = some x → isE h3 x := by
        intro i hi x hx
        rw [hf1 i hi] at hx
        rcases (agr_ok hB hl).at (pi_ i) with e | ⟨n, hn, e, -⟩
        · rw [oa_none e] at hx; cases hx
        · rw [oa_some e] at hx; cases hx; exact hL3.isE hn
      have cc := c_stcopy (h := hSt h3 fun _ => none) (f := fun _ => none) (f2 := f1) hSt_0 hSt_1 ((hSt_o (by omega)).trans qq3.c3) ((hSt_o (by omega)).trans qq3.c4) (by omega) (fun i hi x hx => by
        obtain ⟨fs, hfs⟩ := fE i hi x hx
        exact ⟨fs, (hSt_o (hK3 _ _ hfs)).trans hfs⟩)
      rw [hSt_put] at cc
      generalize hfA : fill 23 (fun j => f1 j) (fun _ => none) = fA at cc
      have efA : ∀ j, j < 23 → fA j = oa ad (r_agr E L (pi_ j)) := fun j hj => by
        rw [← hfA]; simp only [fill, if_pos hj]; exact hf1 j hj
      have b4 : ∀ f, rzb Z h.1 h3 (hSt h3 f) := fun f a ha _ => hSt_o (by omega)
      have q40 : rsR (hSt h3 fun _ => none) Z f1 ft gc3 gs2 gx2 gp3 tp ls qu rk := qq3.cg (fun i hi => hSt_o (by omega))
      have q4 : rsR (hSt h3 fA) Z f1 ft gc3 gs2 gx2 gp3 tp ls qu rk := qq3.cg (fun i hi => hSt_o (by omega))
      have hL4 : LG (hSt h3 fA) R ad N E := hL.fz (rzb.fz ((z3.b).tr (b4 fA)) hZR hRl)
      have hlo := hK _ _ hG.1
      have hmo : m < h.1 := by obtain ⟨-, mf, hm, -⟩ := hG; exact hK _ _ hm
      have hG3 := lgR_rz hG z3 n1 n2
      have hG4 : lgR (hSt h3 fA) lo m N ad := by
        obtain ⟨a, mf, b, c⟩ := hG3
        exact ⟨(hSt_o (by omega)).trans a, mf, (hSt_o (by omega)).trans b, c⟩
      have hK4 : hOK (hSt h3 fA) := by
        intro a e ha
        simp only [hSt] at ha ⊢
        by_cases a1 : a = h3.1
        · omega
        · by_cases a2 : a = h3.1 + 1
          · omega
          · rw [if_neg a1, if_neg a2] at ha
            have := hK3 _ _ ha
            omega
      -- orderOne
      have hpN : ∀ y, N ≤ y → bS gp3 y = false := by
        intro y hy
        rw [← Bool.not_eq_true, hpw]
        intro z
        have := (conf_ok hB hC hl (pow_ok z)).1
        omega
      obtain ⟨h5, gp5, ls5, qu5, c5, q5, z5, l5, len5, in5⟩ := c_orderOne hN hZR hW hC.cw hO.ow n1 n2 q4 hG4 hL4 hpN
      have hq1 := q1_all hN hC.cw N (bS gp3) hpN (b_cnt_le _ _)
      rw [← hq1.2] at c5 l5 len5 in5
      generalize hQ1 : r_q1 N E N (bS gp3) = Q1 at *
      have hcnt := b_cnt_le (bS gp3) N
      have hp0 : (hSt h3 fA).2.2 (h3.1 + 1) = some (cEa 23 fA) := hSt_1
      have hs4 : (hSt h3 fA).2.2 h3.1 = some (cSt (h3.1 + 1)) := hSt_0
      have hL5 : LG h5 R ad N E := hL4.fz (rz_fz z5 hZR)
      have hK5 := hOK_rz hK4 (by show Z + 18 < h3.1 + 2; omega) z5
      have s5 : h5.2.2 h3.1 = some (cSt (h3.1 + 1)) := (z5.1.2.2 _ (by omega)).trans hs4
      have p5 : h5.2.2 (h3.1 + 1) = some (cEa 23 fA) := (z5.1.2.2 _ (by omega)).trans hp0
      have hQ1N : ∀ n ∈ Q1, n < N ∧ ¬ e_kd (E n) = 5 := fun n hn => conf_ok hB hC hl (pow_ok (by rw [← hpw]; exact in5 n hn))
      have rp0 : ¬ R (h3.1 + 1) := fun z => by have := hRl _ z; omega
      -- tryQueue
      obtain ⟨h6, ft6, f6, c6, q6, s6, p6, e6, ok6, t6⟩ := c_tryQueue (s0 := h3.1) (p0 := h3.1 + 1) hZR hW hP hO.ow rp0 (by omega) (by omega) hQ1N (by omega) l5 q5 s5 p5 efA (agr_ok hB hl) hL5
      have h51 : h5.1 = h3.1 + 2 := z5.1.1
      have hK6 := hOK_two hK5 (by omega) (by omega) t6
      have b6 : rzb Z h.1 h h6 := ((z3.b).tr (b4 fA)).tr (z5.b.tr (t6.b (by omega)))
      have hL6 : LG h6 R ad N E := hL.fz (b6.fz hZR hRl)
      have hG6 : lgR h6 lo m N ad := by
        obtain ⟨a, mf, b, c⟩ := hG
        exact ⟨(b6 _ hlo (by omega)).trans a, mf, (b6 _ hmo (by omega)).trans b, c⟩
      -- orderTwo
      generalize hσ1 : Q1.foldl (r_try E) (r_agr E L) = σ1 at *
      obtain ⟨h7, Q2, ls7, qu7, rk7, c7, q7, z7, l7, len7, so7, in7⟩ := c_orderTwo (s0 := h3.1) (p0 := h3.1 + 1) hN hZR hW hO n1 n2 (by omega) (by omega) q6 hG6 hL6 s6 p6 e6 ok6 (fun y hy hc => by
        rw [e3c y, Bool.and_eq_true, Bool.not_eq_true'] at hc
        exact pow_2 hy hc.1 hc.2)
      have hL7 : LG h7 R ad N E := hL6.fz (rz_fz z7 hZR)
      have h61 : h6.1 = h3.1 + 2 := t6.1.trans h51
      have hK7 := hOK_rz hK6 (by omega) z7
      have s7 : h7.2.2 h3.1 = some (cSt (h3.1 + 1)) := (z7.1.2.2 _ (by omega)).trans s6
      have p7 : h7.2.2 (h3.1 + 1) = some (cEa 23 f6) := (z7.1.2.2 _ (by omega)).trans p6
      have hQ2N : ∀ n ∈ Q2, n < N ∧ ¬ e_kd (E n) = 5 := fun n hn => by
        have := (in7 n).1 hn
        rw [e3c n, Bool.and_eq_true] at this
        exact conf_ok hB hC hl this.2.1
      obtain ⟨h8, ft8, f8, c8, q8, s8, p8, e8, ok8, t8⟩ := c_tryQueue (s0 := h3.1) (p0 := h3.1 + 1) hZR hW hP hO.ow rp0 (by omega) (by omega) hQ2N (by omega) l7 q7 s7 p7 e6 ok6 hL7
      have h71 : h7.1 = h3.1 + 2 := z7.1.1.trans h61
      have hK8 := hOK_two hK7 (by omega) (by omega) t8
      have b8 : rzb Z h.1 h h8 := b6.tr (z7.b.tr (t8.b (by omega)))
      have hL8 : LG h8 R ad N E := hL.fz (b8.fz hZR hRl)
      have co := c_stoverlay (h := h8) s8 p8 q8.c3 q8.c4 (by omega) (fun i hi x hx => by
        rw [hf1 i hi] at hx
        rcases (agr_ok hB hl).at (pi_ i) with e | ⟨n, hn, e, -⟩
        · rw [oa_none e] at hx; cases hx
        · rw [oa_some e] at hx; cases hx; exact hL8.isE hn)
      -- the value
      have hcon : ∀ y, Q1.contains y = r_pow N E (r_conf E L) y := by
        intro y
        rw [← hpw]
        apply Bool.eq_iff_iff.2
        rw [List.contains_iff_mem]
        exact hq1.1 y
      have ho1 : r_ord1 N E N (r_pow N E (r_conf E L)) (r_conf E L) (r_agr E L) = (fun y => r_conf E L y && !r_pow N E (r_conf E L) y, σ1) := by
        rw [ord1_fold, ← hpw, hQ1, hσ1, hpw]
        congr 1
        funext y
        rw [hcon y]
      have ho2 : r_ord2 N E (r_main E 401 (σ1 13)) N (fun y => r_conf E L y && !r_pow N E (r_conf E L) y) σ1 = Q2.foldl (r_try E) σ1 := by
        refine ord2_fold hN Q2 _ _ N so7 (fun y => ?_) (fun y hy => (hQ2N y hy).1) len7
        rw [in7 y, e3c y]
        constructor
        · intro z
          refine ⟨?_, z⟩
          rw [Bool.and_eq_true] at z
          exact (conf_ok hB hC hl z.1).1
        · exact fun z => z.2
      have hv : r_res N E L = s_over (r_agr E L) (Q2.foldl (r_try E) σ1) := by
        unfold r_res
        rw [if_neg (by omega)]
        simp only [ho1, ho2]
        rfl
      have hok : sOK N E (r_res N E L) := by
        rw [hv]; exact over_ok (agr_ok hB hl) ok8
      have h81 : h8.1 = h3.1 + 2 := t8.1.trans h71
      have h82 : h8.2.1 = h.2.1 + 24 := by
        have := t8.2.1
        have := z7.1.2.1
        have := t6.2.1
        have := z5.1.2.1
        have : (hSt h3 fA).2.1 = h3.2.1 + 24 := rfl
        omega
      generalize hf9 : fill 23 (fun j => if f1 j = none then f8 j else f1 j) f8 = f9 at co
      have e9 : ∀ j, j < 23 → f9 j = oa ad (r_res N E L (pi_ j)) := by
        intro j hj
        rw [← hf9]
        simp only [fill, if_pos hj]
        rw [hf1 j hj, e8 j hj, hv]
        exact oa_over (agr_ok hB hl) _
      have q9 : rsR (ah_put h8 (h3.1 + 1) (cEa 23 f9)) Z f1 ft8 gc3 gs2 gx2 gp5 tp ls7 qu7 rk7 := q8.cg (fun i hi => ah_ne (by omega) rfl)
      refine ⟨h3.1, ah_put h8 (h3.1 + 1) (cEa 23 f9), ?_, ⟨_, _, _, _, _, _, _, _, _, _, q9⟩, ⟨h3.1 + 1, f9, ⟨Or.inr ⟨by omega, ?_⟩, Or.inr ⟨by omega, ?_⟩⟩, ah_ne (by omega) s8, ah_eq, e9⟩, hok, ⟨?_, ?_, ?_, ?_⟩, hK8.put (by omega), fun a ha hn => ?_⟩
      · clear hq1 hQ1 ho1 ho2 hcon hv e9 in7 so7 e8 e6 e3 e3c e2 efA hf1 hpN fE hrf hl hRl hQ1N hQ2N hcf hpw hok ok8 ok6 in5 hfA b4 hσ1 hf9
        show Ev tResolver_resolve 0 [some (vR Z), some (vR ra), some (.inl (L.length : Int)), some (vR lo), none] [] h _
        iterate 1 (refine ev_st rfl rfl ?_)
        refine ev_ifT rfl (by simp only [ick, w32]; omega) ?_
        iterate 2 (refine ev_st rfl rfl ?_)
        refine ev_icT rfl (by simp only [ick, w32]; omega) ?_
        iterate 3 (refine ev_st rfl rfl ?_)
        refine ev_callV rfl rfl q.c0 rfl c1 ?_
        iterate 3 (refine ev_st rfl rfl ?_)
        refine ev_callV rfl rfl qq1.c0 rfl c2 ?_
        iterate 2 (refine ev_st rfl rfl ?_)
        refine ev_callV rfl rfl qq2.c0 rfl c3 ?_
        iterate 2 (refine ev_st rfl rfl ?_)
        refine ev_callV rfl rfl ah_neq rfl (c_stinit ah_neq (Nat.lt_succ_self _)) ?_
        rw [hSt_eq (k := List.length [((0 : Int), (2 : Nat))]) rfl]
        iterate 3 (refine ev_st rfl rfl ?_)
        refine ev_getf rfl q40.c0 (by rfl) ?_
        refine ev_callV rfl rfl hSt_0 rfl cc ?_
        iterate 3 (refine ev_st rfl rfl ?_)
        refine ev_callV rfl rfl q4.c0 rfl c5 ?_
        iterate 1 (refine ev_st rfl rfl ?_)
        refine ev_callV rfl rfl q5.c0 rfl c6 ?_
        iterate 4 (refine ev_st rfl rfl ?_)
        refine ev_callV rfl rfl q6.c0 rfl c7 ?_
        iterate 1 (refine ev_st rfl rfl ?_)
        refine ev_callV rfl rfl q7.c0 rfl c8 ?_
        iterate 2 (refine ev_st rfl rfl ?_)
        refine ev_getf rfl q8.c0 (by rfl) ?_
        refine ev_callV rfl rfl s8 rfl co ?_
        iterate 1 (refine ev_st rfl rfl ?_)
        exact ev_rt rfl rfl rfl
      · show h3.1 < h8.1; omega
      · show h3.1 + 1 < h8.1; omega
      · show h.1 ≤ h8.1; omega
      · show h8.1 ≤ h.1 + 2; omega
      · show h.2.1 ≤ h8.2.1; omega
      · show h8.2.1 ≤ h.2.1 + 24; omega
      · exact (ah_ne (by omega) rfl).trans (b8 a ha hn)
