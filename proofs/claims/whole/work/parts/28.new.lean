-- new states: Law.needed, State.with
def hSt (h : AH) (f : Nat → Option Nat) : AH := (h.1 + 2, h.2.1 + 24, fun a => if a = h.1 then some (cSt (h.1 + 1)) else if a = h.1 + 1 then some (cEa 23 f) else h.2.2 a)
theorem hSt_eq {h : AH} {e0 : AE} {k : Nat} (hk : k = 1) : ah_put (ah_new (ah_new h k e0) 23 (cEa 23 fun _ => none)) h.1 (cSt (ah_new h k e0).1) = hSt h (fun _ => none) := by
  subst hk
  unfold ah_put ah_new hSt
  refine Prod.ext rfl (Prod.ext rfl ?_)
  funext a
  simp only [va_up]
  by_cases h1 : a = h.1
  · subst h1; simp
  · by_cases h2 : a = h.1 + 1
    · subst h2; simp
    · simp [h1, h2]
theorem hSt_0 {h : AH} {f : Nat → Option Nat} : (hSt h f).2.2 h.1 = some (cSt (h.1 + 1)) := by simp [hSt]
theorem hSt_1 {h : AH} {f : Nat → Option Nat} : (hSt h f).2.2 (h.1 + 1) = some (cEa 23 f) := by simp [hSt]
theorem hSt_o {h : AH} {f : Nat → Option Nat} {a : Nat} (ha : a < h.1) : (hSt h f).2.2 a = h.2.2 a := by
  simp only [hSt]
  rw [if_neg (by omega), if_neg (by omega)]
theorem hSt_put {h : AH} {f f' : Nat → Option Nat} : ah_put (hSt h f) (h.1 + 1) (cEa 23 f') = hSt h f' := by
  unfold ah_put hSt
  refine Prod.ext rfl (Prod.ext rfl ?_)
  funext a
  simp only [va_up]
  by_cases h1 : a = h.1
  · rw [if_neg (by omega), if_pos h1, if_pos h1]
  · by_cases h2 : a = h.1 + 1
    · rw [if_pos h2, if_neg h1, if_pos h2]
    · rw [if_neg h2, if_neg h1, if_neg h2, if_neg h1, if_neg h2]
-- every cell lies below the heap's end
def hOK (h : AH) : Prop := ∀ a e, h.2.2 a = some e → a < h.1
theorem cp_of {x : ED} (wf : wfE x) {i : Nat} (hi : i < 23) (hp : e_pl x = (pi_ i : Nat)) : e_cp x = i := by
  obtain ⟨-, h1, h2, h3, -⟩ := wf
  have key : pi_ i = if i = 0 then 0 else if i = 1 then 13 else if i = 2 then 14 else if i < 15 then i - 2 else i := rfl
  rw [key] at hp
  unfold e_pl m_pl at hp
  unfold e_cp
  by_cases k0 : e_kd x = 0
  · rw [if_pos k0] at hp ⊢; repeat (split at hp; first | omega | skip)
    all_goals omega
  rw [if_neg k0] at hp ⊢
  by_cases k1 : e_kd x = 1
  · rw [if_pos k1] at hp ⊢; repeat (split at hp; first | omega | skip)
    all_goals omega
  rw [if_neg k1] at hp ⊢
  by_cases k2 : e_kd x = 2
  · rw [if_pos k2] at hp ⊢; repeat (split at hp; first | omega | skip)
    all_goals omega
  rw [if_neg k2] at hp ⊢
  by_cases k3 : e_kd x = 3
  · rw [if_pos k3] at hp ⊢; repeat (split at hp; first | omega | skip)
    all_goals omega
  rw [if_neg k3] at hp ⊢
  by_cases k4 : e_kd x = 4
  · rw [if_pos k4] at hp ⊢; repeat (split at hp; first | omega | skip)
    all_goals omega
  rw [if_neg k4] at hp
  repeat (split at hp; first | omega | skip)
  all_goals omega
-- what was put so far: the places of a list
def ndf (ad : Nat → Nat) (σ : SS) (S : List Nat) : Nat → Option Nat := fun j => bif S.contains j then oa ad (σ (pi_ j)) else none
theorem ndf_cons {ad : Nat → Nat} {σ : SS} {S : List Nat} {i : Nat} : va_up (ndf ad σ S) i (oa ad (σ (pi_ i))) = ndf ad σ (i :: S) := by
  funext j
  by_cases h : j = i
  · subst h; simp [va_up, ndf]
  · simp only [va_up, ndf, if_neg h]
    have : (i :: S).contains j = S.contains j := by simp [h]
    rw [this]
theorem ndf_none {ad : Nat → Nat} {σ : SS} {S : List Nat} {i : Nat} (hn : oa ad (σ (pi_ i)) = none) : ndf ad σ (i :: S) = ndf ad σ S := by
  rw [← ndf_cons, hn]
  funext j
  by_cases h : j = i
  · subst h; simp [va_up, ndf, hn]
  · simp [va_up, h]
/-- put of what the state has at a place -/
theorem c_ndput {h : AH} {R : Nat → Prop} {ad : Nat → Nat} {N : Nat} {E : EL} {σ : SS} (hL : LG h R ad N E) (hO : hOK h) (hW : WE N E) (hσ : sOK N E σ) {S : List Nat} {i : Nat} (hi : i < 23) : Em mState_put 0 [vR h.1, .inr (.inr (oa ad (σ (pi_ i))))] (hSt h (ndf ad σ S)) none (hSt h (ndf ad σ (i :: S))) := by
  rcases hσ.at (pi_ i) with h1 | ⟨n, hn, h1, hpl⟩
  · rw [ndf_none (oa_none h1), oa_none h1]
    exact c_putN
  · obtain ⟨c, pa, gr, lv, er, bh, hc, -⟩ := evR.cell hL hn
    have hcp := cp_of (hW n hn) hi hpl
    have := c_putS (h := hSt h (ndf ad σ S)) (v := ad n) (cp := i) hSt_0 hSt_1 ((hSt_o (hO _ _ hc)).trans hc) (by rw [← hcp]; rfl) hi
    rw [hSt_put, ← oa_some (ad := ad) h1, ndf_cons] at this
    rw [show oa ad (σ (pi_ i)) = some (ad n) from oa_some h1]
    exact this
set_option maxHeartbeats 4000000 in
theorem c_needed {h : AH} {R : Nat → Prop} {ad : Nat → Nat} {N : Nat} {E : EL} {σ : SS} {s : Nat} (hS : stR h ad s σ) (hL : LG h R ad N E) (hO : hOK h) (hW : WE N E) (hσ : sOK N E σ) {v n c pa : Nat} {x : ED} {gr lv er bh : Option Nat} {sl gd : Int} (hv : h.2.2 v = some (cEv n x c pa gr sl lv er bh gd)) (wf : wfE x) : ∃ f, Em mLaw_needed 1 [vR s, vR v] h (some (vR h.1)) (hSt h f) ∧ ∀ i, i < 23 → f i = oa ad (m_need σ (e_kd x) (e_sd x) (e_a x) (pi_ i)) := by
  obtain ⟨us, hus, hus2⟩ : ∃ u : Nat, e_sd x = u ∧ u < 12 := ⟨(e_sd x).toNat, by have := wf.1; omega, by have := wf.1; omega⟩
  obtain ⟨p, f, hs, hp, hf⟩ := id hS
  have hk := wf.2.1
  have hvn : v < h.1 := hO _ _ hv
  have hsn : s < h.1 := hO _ _ hs
  have hpn : p < h.1 := hO _ _ hp
  have cv : ∀ g, (hSt h g).2.2 v = some (cEv n x c pa gr sl lv er bh gd) := fun g => (hSt_o hvn).trans hv
  have cs : ∀ g, (hSt h g).2.2 s = some (cSt p) := fun g => (hSt_o hsn).trans hs
  have cp : ∀ g, (hSt h g).2.2 p = some (cEa 23 f) := fun g => (hSt_o hpn).trans hp
  have cq : ∀ S (i : Nat), i < 23 → Em mState_at 0 [vR s, .inl (i : Int)] (hSt h (ndf ad σ S)) (some (.inr (.inr (oa ad (σ (pi_ i)))))) (hSt h (ndf ad σ S)) := by
    intro S i hi
    have := c_at (cs (ndf ad σ S)) (cp (ndf ad σ S)) hi
    rw [hf i hi] at this
    exact this
  have cn : ∀ S (i : Nat), i < 23 → Em mState_put 0 [vR h.1, .inr (.inr (oa ad (σ (pi_ i))))] (hSt h (ndf ad σ S)) none (hSt h (ndf ad σ (i :: S))) := fun S i hi => c_ndput hL hO hW hσ hi
  have cm : ∀ g (u : Nat), u < 12 → Em mState_placeOf 0 [.inl 1, .inl (u : Int)] (hSt h g) (some (.inl ((3 + u : Nat) : Int))) (hSt h g) := by
    intro g u hu
    have := c_placeOf (h := hSt h g) (k := 1) (a := (u : Int)) (by unfold InR; omega) (by unfold InR; omega)
    rw [show m_cpl 1 (u : Int) = ((3 + u : Nat) : Int) by unfold m_cpl; rw [if_neg (by decide), if_pos rfl, if_pos (by omega)]; omega] at this
    exact this
  have e0 : (fun _ => none : Nat → Option Nat) = ndf ad σ [] := rfl
  by_cases k0 : e_kd x = 0
  · refine ⟨ndf ad σ [], ?_, fun i hi => ?_⟩
    · show Ev tLaw_needed 0 [some (vR s), some (vR v), none] [] h _
      iterate 2 (refine ev_st rfl rfl ?_)
      refine ev_callV rfl rfl ah_neq rfl (c_stinit ah_neq (Nat.lt_succ_self _)) ?_
      rw [hSt_eq (k := List.length [((0 : Int), (2 : Nat))]) rfl, e0]
      repeat (refine ev_st rfl rfl ?_)
      refine ev_getf rfl (cv _) (by rfl) ?_
      repeat (first | refine ev_st rfl rfl ?_ | refine ev_getf rfl (by first | assumption | exact ah_eq | (refine ah_ne (by omega) ?_; first | assumption | exact ah_eq | (refine ah_ne (by omega) ?_; first | assumption | exact ah_eq | (refine ah_ne (by omega) ?_; first | assumption | exact ah_eq)))) (by rfl) ?_ | refine ev_ifT rfl (by simp only [ick, w32]; omega) ?_ | refine ev_ifF rfl (by simp only [ick, w32]; omega) ?_ | refine ev_icT rfl (by simp only [ick, w32]; omega) ?_ | refine ev_icF rfl (by simp only [ick, w32]; omega) ?_)
      exact ev_rt rfl rfl rfl
    · unfold m_need
      rw [if_pos k0]
      rfl
  by_cases k1 : e_kd x = 1
  · obtain ⟨ua, hua, hua2⟩ : ∃ u : Nat, e_a x = u ∧ u < 12 := ⟨(e_a x).toNat, by have := wf.2.2.1 (Or.inl k1); omega, by have := wf.2.2.1 (Or.inl k1); omega⟩
    refine ⟨ndf ad σ [2, 3 + ua, 3 + us, 1, 0], ?_, fun i hi => ?_⟩
    · show Ev tLaw_needed 0 [some (vR s), some (vR v), none] [] h _
      iterate 2 (refine ev_st rfl rfl ?_)
      refine ev_callV rfl rfl ah_neq rfl (c_stinit ah_neq (Nat.lt_succ_self _)) ?_
      rw [hSt_eq (k := List.length [((0 : Int), (2 : Nat))]) rfl, e0]
      repeat (refine ev_st rfl rfl ?_)
      refine ev_getf rfl (cv _) (by rfl) ?_
      repeat (first | refine ev_st rfl rfl ?_ | refine ev_getf rfl (by first | assumption | exact ah_eq | (refine ah_ne (by omega) ?_; first | assumption | exact ah_eq | (refine ah_ne (by omega) ?_; first | assumption | exact ah_eq | (refine ah_ne (by omega) ?_; first | assumption | exact ah_eq)))) (by rfl) ?_ | refine ev_ifT rfl (by simp only [ick, w32]; omega) ?_ | refine ev_ifF rfl (by simp only [ick, w32]; omega) ?_ | refine ev_icT rfl (by simp only [ick, w32]; omega) ?_ | refine ev_icF rfl (by simp only [ick, w32]; omega) ?_)
      refine ev_callV rfl rfl (cs _) rfl (cq [] 0 (by omega)) ?_
      refine ev_callV rfl rfl hSt_0 rfl (cn [] 0 (by omega)) ?_
      repeat (refine ev_st rfl rfl ?_)
      refine ev_callV rfl rfl (cs _) rfl (cq _ 1 (by omega)) ?_
      refine ev_callV rfl rfl hSt_0 rfl (cn _ 1 (by omega)) ?_
      repeat (refine ev_st rfl rfl ?_)
      refine ev_getf rfl (cv _) (by rfl) ?_
      rw [hus]
      refine ev_cl rfl rfl (cm _ us hus2) ?_
      refine ev_callV rfl rfl (cs _) rfl (cq _ (3 + us) (by omega)) ?_
      refine ev_callV rfl rfl hSt_0 rfl (cn _ (3 + us) (by omega)) ?_
      repeat (refine ev_st rfl rfl ?_)
      refine ev_getf rfl (cv _) (by rfl) ?_
      repeat (first | refine ev_st rfl rfl ?_ | refine ev_getf rfl (by first | assumption | exact ah_eq | (refine ah_ne (by omega) ?_; first | assumption | exact ah_eq | (refine ah_ne (by omega) ?_; first | assumption | exact ah_eq | (refine ah_ne (by omega) ?_; first | assumption | exact ah_eq)))) (by rfl) ?_ | refine ev_ifT rfl (by simp only [ick, w32]; omega) ?_ | refine ev_ifF rfl (by simp only [ick, w32]; omega) ?_ | refine ev_icT rfl (by simp only [ick, w32]; omega) ?_ | refine ev_icF rfl (by simp only [ick, w32]; omega) ?_)
      refine ev_getf rfl (cv _) (by rfl) ?_
      rw [hua]
      refine ev_cl rfl rfl (cm _ ua hua2) ?_
      refine ev_callV rfl rfl (cs _) rfl (cq _ (3 + ua) (by omega)) ?_
      refine ev_callV rfl rfl hSt_0 rfl (cn _ (3 + ua) (by omega)) ?_
      repeat (refine ev_st rfl rfl ?_)
      refine ev_callV rfl rfl (cs _) rfl (cq _ 2 (by omega)) ?_
      refine ev_callV rfl rfl hSt_0 rfl (cn _ 2 (by omega)) ?_
      repeat (refine ev_st rfl rfl ?_)
      exact ev_rt rfl rfl rfl
    · unfold m_need ndf
      rw [if_neg k0, hus, hua]
      by_cases hq : i = 2 ∨ i = 3 + ua ∨ i = 3 + us ∨ i = 1 ∨ i = 0
      · have hc : [2, 3 + ua, 3 + us, 1, 0].contains i = true := by simp; omega
        rw [hc, if_pos]
        · rfl
        · rcases hq with rfl | rfl | rfl | rfl | rfl
          · right; right; right; exact ⟨k1, Or.inr rfl⟩
          · right; right; right; rw [pi_m hua2]; exact ⟨k1, Or.inl (by omega)⟩
          · right; right; left; rw [pi_m hus2]; omega
          · right; left; rfl
          · left; rfl
      · have hc : [2, 3 + ua, 3 + us, 1, 0].contains i = false := by
          rw [← Bool.not_eq_true]; simp; omega
        rw [hc, if_neg]
        · rfl
        · rintro (q | q | q | ⟨-, q | q⟩)
          · exact hq (by have := pi_inj hi (show 0 < 23 by omega) q; omega)
          · exact hq (by have := pi_inj hi (show 1 < 23 by omega) q; omega)
          · exact hq (by have := pi_inj hi (show 3 + us < 23 by omega) (by rw [pi_m hus2]; omega); omega)
          · exact hq (by have := pi_inj hi (show 3 + ua < 23 by omega) (by rw [pi_m hua2]; omega); omega)
          · exact hq (by have := pi_inj hi (show 2 < 23 by omega) q; omega)
  · refine ⟨ndf ad σ [3 + us, 1, 0], ?_, fun i hi => ?_⟩
    · show Ev tLaw_needed 0 [some (vR s), some (vR v), none] [] h _
      iterate 2 (refine ev_st rfl rfl ?_)
      refine ev_callV rfl rfl ah_neq rfl (c_stinit ah_neq (Nat.lt_succ_self _)) ?_
      rw [hSt_eq (k := List.length [((0 : Int), (2 : Nat))]) rfl, e0]
      repeat (refine ev_st rfl rfl ?_)
      refine ev_getf rfl (cv _) (by rfl) ?_
      repeat (first | refine ev_st rfl rfl ?_ | refine ev_getf rfl (by first | assumption | exact ah_eq | (refine ah_ne (by omega) ?_; first | assumption | exact ah_eq | (refine ah_ne (by omega) ?_; first | assumption | exact ah_eq | (refine ah_ne (by omega) ?_; first | assumption | exact ah_eq)))) (by rfl) ?_ | refine ev_ifT rfl (by simp only [ick, w32]; omega) ?_ | refine ev_ifF rfl (by simp only [ick, w32]; omega) ?_ | refine ev_icT rfl (by simp only [ick, w32]; omega) ?_ | refine ev_icF rfl (by simp only [ick, w32]; omega) ?_)
      refine ev_callV rfl rfl (cs _) rfl (cq [] 0 (by omega)) ?_
      refine ev_callV rfl rfl hSt_0 rfl (cn [] 0 (by omega)) ?_
      repeat (refine ev_st rfl rfl ?_)
      refine ev_callV rfl rfl (cs _) rfl (cq _ 1 (by omega)) ?_
      refine ev_callV rfl rfl hSt_0 rfl (cn _ 1 (by omega)) ?_
      repeat (refine ev_st rfl rfl ?_)
      refine ev_getf rfl (cv _) (by rfl) ?_
      rw [hus]
      refine ev_cl rfl rfl (cm _ us hus2) ?_
      refine ev_callV rfl rfl (cs _) rfl (cq _ (3 + us) (by omega)) ?_
      refine ev_callV rfl rfl hSt_0 rfl (cn _ (3 + us) (by omega)) ?_
      repeat (refine ev_st rfl rfl ?_)
      refine ev_getf rfl (cv _) (by rfl) ?_
      repeat (first | refine ev_st rfl rfl ?_ | refine ev_getf rfl (by first | assumption | exact ah_eq | (refine ah_ne (by omega) ?_; first | assumption | exact ah_eq | (refine ah_ne (by omega) ?_; first | assumption | exact ah_eq | (refine ah_ne (by omega) ?_; first | assumption | exact ah_eq)))) (by rfl) ?_ | refine ev_ifT rfl (by simp only [ick, w32]; omega) ?_ | refine ev_ifF rfl (by simp only [ick, w32]; omega) ?_ | refine ev_icT rfl (by simp only [ick, w32]; omega) ?_ | refine ev_icF rfl (by simp only [ick, w32]; omega) ?_)
      exact ev_rt rfl rfl rfl
    · unfold m_need ndf
      rw [if_neg k0, hus]
      by_cases hq : i = 3 + us ∨ i = 1 ∨ i = 0
      · have hc : [3 + us, 1, 0].contains i = true := by simp; omega
        rw [hc, if_pos]
        · rfl
        · rcases hq with rfl | rfl | rfl
          · right; right; left; rw [pi_m hus2]; omega
          · right; left; rfl
          · left; rfl
      · have hc : [3 + us, 1, 0].contains i = false := by
          rw [← Bool.not_eq_true]; simp; omega
        rw [hc, if_neg]
        · rfl
        · rintro (q | q | q | ⟨q, -⟩)
          · exact hq (by have := pi_inj hi (show 0 < 23 by omega) q; omega)
          · exact hq (by have := pi_inj hi (show 1 < 23 by omega) q; omega)
          · exact hq (by have := pi_inj hi (show 3 + us < 23 by omega) (by rw [pi_m hus2]; omega); omega)
          · exact k1 q
