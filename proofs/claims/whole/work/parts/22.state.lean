-- states and events: what a heap holds of them
def pi_ (i : Nat) : Nat := if i = 0 then 0 else if i = 1 then 13 else if i = 2 then 14 else if i < 15 then i - 2 else i
def e_cp (x : ED) : Int := if e_kd x = 0 then 0 else if e_kd x = 1 then 3 + e_a x else if e_kd x = 2 then 1 else if e_kd x = 3 then 2 else if e_kd x = 4 then 15 + e_a x else -1
def oa (ad : Nat → Nat) (x : Int) : Option Nat := if x < 0 then none else some (ad x.toNat)
def stR (h : AH) (ad : Nat → Nat) (s : Nat) (σ : SS) : Prop := ∃ p f, h.2.2 s = some (cSt p) ∧ h.2.2 p = some (cEa 23 f) ∧ ∀ i, i < 23 → f i = oa ad (σ (pi_ i))
abbrev cEv (n : Nat) (x : ED) (c pa : Nat) (gr : Option Nat) (sl : Int) (lv er bh : Option Nat) (gd : Int) : AE := .inr (1, [.inl (n : Int), .inl (e_sd x), .inl (e_kd x), .inl (e_a x), .inl (e_b x), .inl (e_tm x), .inl (e_id n), .inl (e_cp x), .inr (.inr (some c)), .inr (.inr (some pa)), .inr (.inr gr), .inl sl, .inr (.inr lv), .inr (.inr er), .inr (.inr bh), .inl gd])
def lvR (h : AH) (x : ED) (lv : Option Nat) : Prop := (e_kd x = 2 → ∃ la fl, lv = some la ∧ h.2.2 la = some (cIa 12 fl) ∧ ∀ u, u < 12 → fl u = e_lv x u) ∧ (¬ e_kd x = 2 → lv = none)
def paR (h : AH) (ad : Nat → Nat) (x : ED) (pa : Nat) : Prop := ∃ pf, h.2.2 pa = some (cEa (e_pa x).length pf) ∧ ∀ i, i < (e_pa x).length → pf i = some (ad ((e_pa x).getD i 0))
def chR (h : AH) (x : ED) (c : Nat) : Prop := ∃ w g, h.2.2 c = some (cSet w) ∧ h.2.2 w = some (cLng g) ∧ ∀ y, bS g y = e_ch x y
-- the same in cells that stay as they are: R tells their addresses
def stF (h : AH) (R : Nat → Prop) (ad : Nat → Nat) (s : Nat) (σ : SS) : Prop := ∃ p f, (R s ∧ R p) ∧ h.2.2 s = some (cSt p) ∧ h.2.2 p = some (cEa 23 f) ∧ ∀ i, i < 23 → f i = oa ad (σ (pi_ i))
def lvF (h : AH) (R : Nat → Prop) (x : ED) (lv : Option Nat) : Prop := (e_kd x = 2 → ∃ la fl, R la ∧ lv = some la ∧ h.2.2 la = some (cIa 12 fl) ∧ ∀ u, u < 12 → fl u = e_lv x u) ∧ (¬ e_kd x = 2 → lv = none)
def paF (h : AH) (R : Nat → Prop) (ad : Nat → Nat) (x : ED) (pa : Nat) : Prop := ∃ pf, R pa ∧ h.2.2 pa = some (cEa (e_pa x).length pf) ∧ ∀ i, i < (e_pa x).length → pf i = some (ad ((e_pa x).getD i 0))
def chF (h : AH) (R : Nat → Prop) (x : ED) (c : Nat) : Prop := ∃ w g, (R c ∧ R w) ∧ h.2.2 c = some (cSet w) ∧ h.2.2 w = some (cLng g) ∧ ∀ y, bS g y = e_ch x y
theorem stF.toR {h : AH} {R : Nat → Prop} {ad : Nat → Nat} {s : Nat} {σ : SS} (q : stF h R ad s σ) : stR h ad s σ := by
  obtain ⟨p, f, -, q⟩ := q
  exact ⟨p, f, q⟩
theorem lvF.toR {h : AH} {R : Nat → Prop} {x : ED} {lv : Option Nat} (q : lvF h R x lv) : lvR h x lv := ⟨fun k => by obtain ⟨la, fl, -, q⟩ := q.1 k; exact ⟨la, fl, q⟩, q.2⟩
theorem paF.toR {h : AH} {R : Nat → Prop} {ad : Nat → Nat} {x : ED} {pa : Nat} (q : paF h R ad x pa) : paR h ad x pa := by
  obtain ⟨pf, -, q⟩ := q
  exact ⟨pf, q⟩
-- an event that is in the log
def evR (h : AH) (R : Nat → Prop) (ad : Nat → Nat) (E : EL) (n v : Nat) (x : ED) : Prop := R v ∧ ∃ c pa gr lv er bh, h.2.2 v = some (cEv n x c pa (some gr) (m_lev E (e_ow x) (e_sd x)) lv (some er) (some bh) (bif e_gd x then 1 else 0)) ∧ chF h R x c ∧ paF h R ad x pa ∧ lvF h R x lv ∧ stF h R ad gr (e_ow x) ∧ stF h R ad er (e_bf x) ∧ stF h R ad bh (e_bh E n)
def LG (h : AH) (R : Nat → Prop) (ad : Nat → Nat) (N : Nat) (E : EL) : Prop := ∀ n, n < N → evR h R ad E n (ad n) (E n)
-- nothing that stays has changed
def fz (R : Nat → Prop) (h h' : AH) : Prop := ∀ a, R a → h'.2.2 a = h.2.2 a
theorem fz.rf {R : Nat → Prop} {h : AH} : fz R h h := fun _ _ => rfl
theorem fz.tr {R : Nat → Prop} {h h1 h2 : AH} (p : fz R h h1) (q : fz R h1 h2) : fz R h h2 := fun a ha => (q a ha).trans (p a ha)
theorem fz.put {R : Nat → Prop} {h : AH} {w : Nat} {e : AE} (hw : ¬ R w) : fz R h (ah_put h w e) := fun a ha => ah_ne (fun q => hw (q ▸ ha)) rfl
theorem fz.new {R : Nat → Prop} {h : AH} {k : Nat} {e : AE} (hw : ¬ R h.1) : fz R h (ah_new h k e) := fun a ha => ah_nne (fun q => hw (q ▸ ha)) rfl
theorem stF.fz {R : Nat → Prop} {h h' : AH} {ad : Nat → Nat} {s : Nat} {σ : SS} (z : fz R h h') (q : stF h R ad s σ) : stF h' R ad s σ := by
  obtain ⟨p, f, ⟨r1, r2⟩, q1, q2, q3⟩ := q
  exact ⟨p, f, ⟨r1, r2⟩, (z _ r1).trans q1, (z _ r2).trans q2, q3⟩
theorem evR.fz {R : Nat → Prop} {h h' : AH} {ad : Nat → Nat} {E : EL} {n v : Nat} {x : ED} (z : fz R h h') (q : evR h R ad E n v x) : evR h' R ad E n v x := by
  obtain ⟨rv, c, pa, gr, lv, er, bh, q1, ⟨w, g, ⟨r1, r2⟩, c1, c2, c3⟩, ⟨pf, r3, p1, p2⟩, q4, q5, q6, q7⟩ := q
  refine ⟨rv, c, pa, gr, lv, er, bh, (z _ rv).trans q1, ⟨w, g, ⟨r1, r2⟩, (z _ r1).trans c1, (z _ r2).trans c2, c3⟩, ⟨pf, r3, (z _ r3).trans p1, p2⟩, ⟨fun k => ?_, q4.2⟩, q5.fz z, q6.fz z, q7.fz z⟩
  obtain ⟨la, fl, r4, l1, l2, l3⟩ := q4.1 k
  exact ⟨la, fl, r4, l1, (z _ r4).trans l2, l3⟩
theorem LG.fz {R : Nat → Prop} {h h' : AH} {ad : Nat → Nat} {N : Nat} {E : EL} (z : fz R h h') (q : LG h R ad N E) : LG h' R ad N E := fun n hn => (q n hn).fz z
theorem LG.isE {R : Nat → Prop} {h : AH} {ad : Nat → Nat} {N : Nat} {E : EL} (q : LG h R ad N E) {n : Nat} (hn : n < N) : isE h (ad n) := by
  obtain ⟨-, c, pa, gr, lv, er, bh, q1, -⟩ := q n hn
  exact ⟨_, q1⟩
def wfE (x : ED) : Prop := (0 ≤ e_sd x ∧ e_sd x ≤ 11) ∧ (0 ≤ e_kd x ∧ e_kd x ≤ 5) ∧ (e_kd x = 1 ∨ e_kd x = 2 → 0 ≤ e_a x ∧ e_a x ≤ 11) ∧ (e_kd x = 4 → 0 ≤ e_a x ∧ e_a x ≤ 7) ∧ InR (e_a x) ∧ InR (e_b x) ∧ InR (e_tm x) ∧ (e_kd x = 2 → ∀ u, u < 12 → -100 ≤ e_lv x u ∧ e_lv x u ≤ 100)
def WE (N : Nat) (E : EL) : Prop := ∀ n, n < N → wfE (E n)
def sOK (N : Nat) (E : EL) (σ : SS) : Prop := (∀ p, p < 23 → σ p = -1 ∨ (0 ≤ σ p ∧ σ p < N ∧ e_pl (E (σ p).toNat) = p)) ∧ ∀ p, 23 ≤ p → σ p = -1
theorem sOK.at {N : Nat} {E : EL} {σ : SS} (h : sOK N E σ) (p : Nat) : σ p = -1 ∨ ∃ n, n < N ∧ σ p = (n : Int) ∧ e_pl (E n) = p := by
  by_cases hp : p < 23
  · rcases h.1 p hp with h1 | ⟨h1, h2, h3⟩
    · exact Or.inl h1
    · exact Or.inr ⟨(σ p).toNat, by omega, by omega, h3⟩
  · exact Or.inl (h.2 p (by omega))
theorem pl_13 {x : ED} (h : wfE x) (hp : e_pl x = 13) : e_kd x = 2 := by
  obtain ⟨-, h1, h2, h3, -⟩ := h
  unfold e_pl m_pl at hp
  repeat (split at hp; first | omega | skip)
  all_goals omega
theorem pl_0 {x : ED} (h : wfE x) (hp : e_pl x = 0) : e_kd x = 0 := by
  obtain ⟨-, h1, h2, h3, -⟩ := h
  unfold e_pl m_pl at hp
  repeat (split at hp; first | omega | skip)
  all_goals omega
theorem oa_none {ad : Nat → Nat} {x : Int} (h : x = -1) : oa ad x = none := by subst h; rfl
theorem oa_some {ad : Nat → Nat} {x : Int} {n : Nat} (h : x = (n : Int)) : oa ad x = some (ad n) := by
  subst h; simp [oa]
theorem lev_p {E : EL} {σ : SS} {n : Nat} {u : Int} (h : σ 13 = (n : Int)) : m_lev E σ u = e_lv (E n) u.toNat := by
  unfold m_lev; rw [if_pos (by omega), h]; rfl
theorem lev_c {E : EL} {σ : SS} {n : Nat} {u : Int} (h : σ 13 = -1) (h0 : σ 0 = (n : Int)) : m_lev E σ u = if e_sd (E n) = u then 100 else 0 := by
  unfold m_lev; rw [if_neg (by omega), h0]
  simp
theorem lev_0 {E : EL} {σ : SS} {u : Int} (h : σ 13 = -1) (h0 : σ 0 = -1) : m_lev E σ u = 0 := by
  unfold m_lev; rw [if_neg (by omega), if_neg (by omega)]
theorem evR.cell {h : AH} {R : Nat → Prop} {ad : Nat → Nat} {N : Nat} {E : EL} (hL : LG h R ad N E) {n : Nat} (hn : n < N) : ∃ c pa gr lv er bh, h.2.2 (ad n) = some (cEv n (E n) c pa gr (m_lev E (e_ow (E n)) (e_sd (E n))) lv er bh (bif e_gd (E n) then 1 else 0)) ∧ chF h R (E n) c ∧ lvR h (E n) lv := by
  obtain ⟨-, c, pa, gr, lv, er, bh, h1, h2, h3, h4, -⟩ := hL n hn
  exact ⟨c, pa, some gr, lv, some er, some bh, h1, h2, h4.toR⟩
set_option maxHeartbeats 2000000 in
theorem c_levelOf {h : AH} {R : Nat → Prop} {ad : Nat → Nat} {N : Nat} {E : EL} {σ : SS} {s u : Nat} (hS : stR h ad s σ) (hL : LG h R ad N E) (hW : WE N E) (hσ : sOK N E σ) (hu : u < 12) : Em mState_levelOf 2 [vR s, .inl (u : Int)] h (some (.inl (m_lev E σ u))) h := by
  obtain ⟨p, f, hs, hp, hf⟩ := hS
  show Ev tState_levelOf 0 [some (vR s), some (.inl (u : Int)), none, none] [] h _
  repeat (first | refine ev_st rfl rfl ?_ | refine ev_getf rfl (by first | assumption | exact ah_eq | (refine ah_ne (by omega) ?_; first | assumption | exact ah_eq | (refine ah_ne (by omega) ?_; first | assumption | exact ah_eq | (refine ah_ne (by omega) ?_; first | assumption | exact ah_eq)))) (by rfl) ?_ | refine ev_ifT rfl (by simp only [ick, w32]; omega) ?_ | refine ev_ifF rfl (by simp only [ick, w32]; omega) ?_ | refine ev_icT rfl (by simp only [ick, w32]; omega) ?_ | refine ev_icF rfl (by simp only [ick, w32]; omega) ?_)
  refine ev_aald 1 rfl (by first | assumption | exact ah_eq | (refine ah_ne (by omega) ?_; first | assumption | exact ah_eq | (refine ah_ne (by omega) ?_; first | assumption | exact ah_eq | (refine ah_ne (by omega) ?_; first | assumption | exact ah_eq)))) (by simp only [ick, w32]; omega) (by omega) ?_
  rw [hf 1 (by omega), show pi_ 1 = 13 by rfl]
  rcases hσ.at 13 with h13 | ⟨n, hn, h13, hpl⟩
  · rw [oa_none h13]
    repeat (first | refine ev_st rfl rfl ?_ | refine ev_getf rfl (by first | assumption | exact ah_eq | (refine ah_ne (by omega) ?_; first | assumption | exact ah_eq | (refine ah_ne (by omega) ?_; first | assumption | exact ah_eq | (refine ah_ne (by omega) ?_; first | assumption | exact ah_eq)))) (by rfl) ?_ | refine ev_ifT rfl (by simp only [ick, w32]; omega) ?_ | refine ev_ifF rfl (by simp only [ick, w32]; omega) ?_ | refine ev_icT rfl (by simp only [ick, w32]; omega) ?_ | refine ev_icF rfl (by simp only [ick, w32]; omega) ?_)
    refine ev_aald 0 rfl (by first | assumption | exact ah_eq | (refine ah_ne (by omega) ?_; first | assumption | exact ah_eq | (refine ah_ne (by omega) ?_; first | assumption | exact ah_eq | (refine ah_ne (by omega) ?_; first | assumption | exact ah_eq)))) (by simp only [ick, w32]; omega) (by omega) ?_
    rw [hf 0 (by omega), show pi_ 0 = 0 by rfl]
    rcases hσ.at 0 with h0 | ⟨n, hn, h0, hpl⟩
    · rw [oa_none h0, lev_0 h13 h0]
      repeat (refine ev_st rfl rfl ?_)
      exact ev_rt rfl rfl rfl
    · rw [oa_some h0, lev_c h13 h0]
      obtain ⟨c, pa, gr, lv, er, bh, hc, -⟩ := evR.cell hL hn
      have hw := (hW n hn).1
      repeat (first | refine ev_st rfl rfl ?_ | refine ev_getf rfl (by first | assumption | exact ah_eq | (refine ah_ne (by omega) ?_; first | assumption | exact ah_eq | (refine ah_ne (by omega) ?_; first | assumption | exact ah_eq | (refine ah_ne (by omega) ?_; first | assumption | exact ah_eq)))) (by rfl) ?_ | refine ev_ifT rfl (by simp only [ick, w32]; omega) ?_ | refine ev_ifF rfl (by simp only [ick, w32]; omega) ?_ | refine ev_icT rfl (by simp only [ick, w32]; omega) ?_ | refine ev_icF rfl (by simp only [ick, w32]; omega) ?_)
      by_cases hq : e_sd (E n) = (u : Int)
      · rw [if_pos hq]
        repeat (first | refine ev_st rfl rfl ?_ | refine ev_getf rfl (by first | assumption | exact ah_eq | (refine ah_ne (by omega) ?_; first | assumption | exact ah_eq | (refine ah_ne (by omega) ?_; first | assumption | exact ah_eq | (refine ah_ne (by omega) ?_; first | assumption | exact ah_eq)))) (by rfl) ?_ | refine ev_ifT rfl (by simp only [ick, w32]; omega) ?_ | refine ev_ifF rfl (by simp only [ick, w32]; omega) ?_ | refine ev_icT rfl (by simp only [ick, w32]; omega) ?_ | refine ev_icF rfl (by simp only [ick, w32]; omega) ?_)
        exact ev_rt rfl rfl rfl
      · rw [if_neg hq]
        repeat (first | refine ev_st rfl rfl ?_ | refine ev_getf rfl (by first | assumption | exact ah_eq | (refine ah_ne (by omega) ?_; first | assumption | exact ah_eq | (refine ah_ne (by omega) ?_; first | assumption | exact ah_eq | (refine ah_ne (by omega) ?_; first | assumption | exact ah_eq)))) (by rfl) ?_ | refine ev_ifT rfl (by simp only [ick, w32]; omega) ?_ | refine ev_ifF rfl (by simp only [ick, w32]; omega) ?_ | refine ev_icT rfl (by simp only [ick, w32]; omega) ?_ | refine ev_icF rfl (by simp only [ick, w32]; omega) ?_)
        exact ev_rt rfl rfl rfl
  · rw [oa_some h13, lev_p h13]
    obtain ⟨c, pa, gr, lv, er, bh, hc, -, hlv⟩ := evR.cell hL hn
    obtain ⟨la, fl, rfl, hla, hfl⟩ := hlv.1 (pl_13 (hW n hn) hpl)
    repeat (first | refine ev_st rfl rfl ?_ | refine ev_getf rfl (by first | assumption | exact ah_eq | (refine ah_ne (by omega) ?_; first | assumption | exact ah_eq | (refine ah_ne (by omega) ?_; first | assumption | exact ah_eq | (refine ah_ne (by omega) ?_; first | assumption | exact ah_eq)))) (by rfl) ?_ | refine ev_laldN rfl (by first | assumption | exact ah_eq | (refine ah_ne (by omega) ?_; first | assumption | exact ah_eq | (refine ah_ne (by omega) ?_; first | assumption | exact ah_eq | (refine ah_ne (by omega) ?_; first | assumption | exact ah_eq)))) (by omega) (by omega) ?_ | refine ev_ialdN rfl (by first | assumption | exact ah_eq | (refine ah_ne (by omega) ?_; first | assumption | exact ah_eq | (refine ah_ne (by omega) ?_; first | assumption | exact ah_eq | (refine ah_ne (by omega) ?_; first | assumption | exact ah_eq)))) (by omega) (by omega) ?_ | refine ev_aaldN rfl (by first | assumption | exact ah_eq | (refine ah_ne (by omega) ?_; first | assumption | exact ah_eq | (refine ah_ne (by omega) ?_; first | assumption | exact ah_eq | (refine ah_ne (by omega) ?_; first | assumption | exact ah_eq)))) (by omega) (by omega) ?_ | refine ev_ifT rfl (by simp only [ick, w32]; omega) ?_ | refine ev_ifF rfl (by simp only [ick, w32]; omega) ?_ | refine ev_icT rfl (by simp only [ick, w32]; omega) ?_ | refine ev_icF rfl (by simp only [ick, w32]; omega) ?_)
    rw [hfl u hu]
    exact ev_rt rfl rfl rfl

theorem pi_m {u : Nat} (h : u < 12) : pi_ (3 + u) = 1 + u := by
  unfold pi_
  rw [if_neg (by omega), if_neg (by omega), if_neg (by omega), if_pos (by omega)]
  omega
theorem mem_0 {E : EL} {σ : SS} {u : Nat} (h : σ (1 + u) = -1) : m_mem E σ u = 0 := by
  unfold m_mem; rw [Int.toNat_natCast, if_pos (by omega)]
theorem mem_s {E : EL} {σ : SS} {u n : Nat} (h : σ (1 + u) = (n : Int)) : m_mem E σ u = e_b (E n) := by
  unfold m_mem; rw [Int.toNat_natCast, if_neg (by omega), h, Int.toNat_natCast]
set_option maxHeartbeats 2000000 in
theorem c_memb {h : AH} {R : Nat → Prop} {ad : Nat → Nat} {N : Nat} {E : EL} {σ : SS} {s : Nat} (hS : stR h ad s σ) (hL : LG h R ad N E) (hW : WE N E) (hσ : sOK N E σ) {u : Nat} (hu : u < 12) : Em mState_membershipOf 1 [vR s, .inl (u : Int)] h (some (.inl (m_mem E σ u))) h := by
  obtain ⟨p, f, hs, hp, hf⟩ := hS
  show Ev tState_membershipOf 0 [some (vR s), some (.inl (u : Int)), none] [] h _
  repeat (first | refine ev_st rfl rfl ?_ | refine ev_getf rfl (by first | assumption | exact ah_eq | (refine ah_ne (by omega) ?_; first | assumption | exact ah_eq | (refine ah_ne (by omega) ?_; first | assumption | exact ah_eq | (refine ah_ne (by omega) ?_; first | assumption | exact ah_eq)))) (by rfl) ?_ | refine ev_ifT rfl (by simp only [ick, w32]; omega) ?_ | refine ev_ifF rfl (by simp only [ick, w32]; omega) ?_ | refine ev_icT rfl (by simp only [ick, w32]; omega) ?_ | refine ev_icF rfl (by simp only [ick, w32]; omega) ?_)
  refine ev_aald (3 + u) rfl (by first | assumption | exact ah_eq | (refine ah_ne (by omega) ?_; first | assumption | exact ah_eq | (refine ah_ne (by omega) ?_; first | assumption | exact ah_eq | (refine ah_ne (by omega) ?_; first | assumption | exact ah_eq)))) (by simp only [ick, w32]; omega) (by omega) ?_
  rw [hf (3 + u) (by omega), pi_m hu]
  rcases hσ.at (1 + u) with h1 | ⟨n, hn, h1, hpl⟩
  · rw [oa_none h1, mem_0 h1]
    repeat (refine ev_st rfl rfl ?_)
    exact ev_rt rfl rfl rfl
  · rw [oa_some h1, mem_s h1]
    obtain ⟨c, pa, gr, lv, er, bh, hc, -⟩ := evR.cell hL hn
    repeat (first | refine ev_st rfl rfl ?_ | refine ev_getf rfl (by first | assumption | exact ah_eq | (refine ah_ne (by omega) ?_; first | assumption | exact ah_eq | (refine ah_ne (by omega) ?_; first | assumption | exact ah_eq | (refine ah_ne (by omega) ?_; first | assumption | exact ah_eq)))) (by rfl) ?_ | refine ev_ifT rfl (by simp only [ick, w32]; omega) ?_ | refine ev_ifF rfl (by simp only [ick, w32]; omega) ?_ | refine ev_icT rfl (by simp only [ick, w32]; omega) ?_ | refine ev_icF rfl (by simp only [ick, w32]; omega) ?_)
    exact ev_rt rfl rfl rfl
set_option maxHeartbeats 2000000 in
theorem c_isOpen {h : AH} {R : Nat → Prop} {ad : Nat → Nat} {N : Nat} {E : EL} {σ : SS} {s : Nat} (hS : stR h ad s σ) (hL : LG h R ad N E) (hW : WE N E) (hσ : sOK N E σ) : Em mState_isOpen 1 [vR s] h (some (vB (decide (σ 14 < 0) || decide (e_b (E (σ 14).toNat) = 0)))) h := by
  obtain ⟨p, f, hs, hp, hf⟩ := hS
  show Ev tState_isOpen 0 [some (vR s), none] [] h _
  repeat (first | refine ev_st rfl rfl ?_ | refine ev_getf rfl (by first | assumption | exact ah_eq | (refine ah_ne (by omega) ?_; first | assumption | exact ah_eq | (refine ah_ne (by omega) ?_; first | assumption | exact ah_eq | (refine ah_ne (by omega) ?_; first | assumption | exact ah_eq)))) (by rfl) ?_ | refine ev_ifT rfl (by simp only [ick, w32]; omega) ?_ | refine ev_ifF rfl (by simp only [ick, w32]; omega) ?_ | refine ev_icT rfl (by simp only [ick, w32]; omega) ?_ | refine ev_icF rfl (by simp only [ick, w32]; omega) ?_)
  refine ev_aald 2 rfl (by first | assumption | exact ah_eq | (refine ah_ne (by omega) ?_; first | assumption | exact ah_eq | (refine ah_ne (by omega) ?_; first | assumption | exact ah_eq | (refine ah_ne (by omega) ?_; first | assumption | exact ah_eq)))) (by simp only [ick, w32]; omega) (by omega) ?_
  rw [hf 2 (by omega), show pi_ 2 = 14 by rfl]
  rcases hσ.at 14 with h1 | ⟨n, hn, h1, hpl⟩
  · rw [oa_none h1, h1]
    repeat (refine ev_st rfl rfl ?_)
    exact ev_rt rfl rfl rfl
  · rw [oa_some h1, h1, Int.toNat_natCast, decide_eq_false (show ¬ ((n : Int) < 0) by omega), Bool.false_or]
    obtain ⟨c, pa, gr, lv, er, bh, hc, -⟩ := evR.cell hL hn
    have hw := (hW n hn).2.2.2.2.2.1
    unfold InR at hw
    repeat (first | refine ev_st rfl rfl ?_ | refine ev_getf rfl (by first | assumption | exact ah_eq | (refine ah_ne (by omega) ?_; first | assumption | exact ah_eq | (refine ah_ne (by omega) ?_; first | assumption | exact ah_eq | (refine ah_ne (by omega) ?_; first | assumption | exact ah_eq)))) (by rfl) ?_ | refine ev_ifT rfl (by simp only [ick, w32]; omega) ?_ | refine ev_ifF rfl (by simp only [ick, w32]; omega) ?_ | refine ev_icT rfl (by simp only [ick, w32]; omega) ?_ | refine ev_icF rfl (by simp only [ick, w32]; omega) ?_)
    by_cases hq : e_b (E n) = 0
    · rw [decide_eq_true hq]
      repeat (first | refine ev_st rfl rfl ?_ | refine ev_getf rfl (by first | assumption | exact ah_eq | (refine ah_ne (by omega) ?_; first | assumption | exact ah_eq | (refine ah_ne (by omega) ?_; first | assumption | exact ah_eq | (refine ah_ne (by omega) ?_; first | assumption | exact ah_eq)))) (by rfl) ?_ | refine ev_ifT rfl (by simp only [ick, w32]; omega) ?_ | refine ev_ifF rfl (by simp only [ick, w32]; omega) ?_ | refine ev_icT rfl (by simp only [ick, w32]; omega) ?_ | refine ev_icF rfl (by simp only [ick, w32]; omega) ?_)
      exact ev_rt rfl rfl rfl
    · rw [decide_eq_false hq]
      repeat (first | refine ev_st rfl rfl ?_ | refine ev_getf rfl (by first | assumption | exact ah_eq | (refine ah_ne (by omega) ?_; first | assumption | exact ah_eq | (refine ah_ne (by omega) ?_; first | assumption | exact ah_eq | (refine ah_ne (by omega) ?_; first | assumption | exact ah_eq)))) (by rfl) ?_ | refine ev_ifT rfl (by simp only [ick, w32]; omega) ?_ | refine ev_ifF rfl (by simp only [ick, w32]; omega) ?_ | refine ev_icT rfl (by simp only [ick, w32]; omega) ?_ | refine ev_icF rfl (by simp only [ick, w32]; omega) ?_)
      exact ev_rt rfl rfl rfl
set_option maxHeartbeats 2000000 in
theorem c_awaits {h : AH} {R : Nat → Prop} {ad : Nat → Nat} {N : Nat} {E : EL} {σ : SS} {s : Nat} (hS : stR h ad s σ) (hL : LG h R ad N E) (hW : WE N E) (hσ : sOK N E σ) {u : Nat} (hu : u < 12) : Em mState_awaitsMaker 1 [vR s, .inl (u : Int)] h (some (vB (decide (0 ≤ σ 0 ∧ e_sd (E (σ 0).toNat) = u ∧ σ 13 < 0 ∧ σ (1 + u) < 0)))) h := by
  obtain ⟨p, f, hs, hp, hf⟩ := hS
  show Ev tState_awaitsMaker 0 [some (vR s), some (.inl (u : Int)), none] [] h _
  repeat (first | refine ev_st rfl rfl ?_ | refine ev_getf rfl (by first | assumption | exact ah_eq | (refine ah_ne (by omega) ?_; first | assumption | exact ah_eq | (refine ah_ne (by omega) ?_; first | assumption | exact ah_eq | (refine ah_ne (by omega) ?_; first | assumption | exact ah_eq)))) (by rfl) ?_ | refine ev_ifT rfl (by simp only [ick, w32]; omega) ?_ | refine ev_ifF rfl (by simp only [ick, w32]; omega) ?_ | refine ev_icT rfl (by simp only [ick, w32]; omega) ?_ | refine ev_icF rfl (by simp only [ick, w32]; omega) ?_)
  refine ev_aald 0 rfl (by first | assumption | exact ah_eq | (refine ah_ne (by omega) ?_; first | assumption | exact ah_eq | (refine ah_ne (by omega) ?_; first | assumption | exact ah_eq | (refine ah_ne (by omega) ?_; first | assumption | exact ah_eq)))) (by simp only [ick, w32]; omega) (by omega) ?_
  rw [hf 0 (by omega), show pi_ 0 = 0 by rfl]
  rcases hσ.at 0 with h0 | ⟨n, hn, h0, hpl⟩
  · rw [oa_none h0, decide_eq_false (by omega)]
    repeat (refine ev_st rfl rfl ?_)
    exact ev_rt rfl rfl rfl
  · rw [oa_some h0, h0, Int.toNat_natCast]
    obtain ⟨c, pa, gr, lv, er, bh, hc, -⟩ := evR.cell hL hn
    have hw := (hW n hn).1
    repeat (first | refine ev_st rfl rfl ?_ | refine ev_getf rfl (by first | assumption | exact ah_eq | (refine ah_ne (by omega) ?_; first | assumption | exact ah_eq | (refine ah_ne (by omega) ?_; first | assumption | exact ah_eq | (refine ah_ne (by omega) ?_; first | assumption | exact ah_eq)))) (by rfl) ?_ | refine ev_ifT rfl (by simp only [ick, w32]; omega) ?_ | refine ev_ifF rfl (by simp only [ick, w32]; omega) ?_ | refine ev_icT rfl (by simp only [ick, w32]; omega) ?_ | refine ev_icF rfl (by simp only [ick, w32]; omega) ?_)
    by_cases hq : e_sd (E n) = (u : Int)
    · repeat (first | refine ev_st rfl rfl ?_ | refine ev_getf rfl (by first | assumption | exact ah_eq | (refine ah_ne (by omega) ?_; first | assumption | exact ah_eq | (refine ah_ne (by omega) ?_; first | assumption | exact ah_eq | (refine ah_ne (by omega) ?_; first | assumption | exact ah_eq)))) (by rfl) ?_ | refine ev_ifT rfl (by simp only [ick, w32]; omega) ?_ | refine ev_ifF rfl (by simp only [ick, w32]; omega) ?_ | refine ev_icT rfl (by simp only [ick, w32]; omega) ?_ | refine ev_icF rfl (by simp only [ick, w32]; omega) ?_)
      refine ev_aald 1 rfl (by first | assumption | exact ah_eq | (refine ah_ne (by omega) ?_; first | assumption | exact ah_eq | (refine ah_ne (by omega) ?_; first | assumption | exact ah_eq | (refine ah_ne (by omega) ?_; first | assumption | exact ah_eq)))) (by simp only [ick, w32]; omega) (by omega) ?_
      rw [hf 1 (by omega), show pi_ 1 = 13 by rfl]
      rcases hσ.at 13 with h1 | ⟨m, hm, h1, -⟩
      · rw [oa_none h1]
        repeat (first | refine ev_st rfl rfl ?_ | refine ev_getf rfl (by first | assumption | exact ah_eq | (refine ah_ne (by omega) ?_; first | assumption | exact ah_eq | (refine ah_ne (by omega) ?_; first | assumption | exact ah_eq | (refine ah_ne (by omega) ?_; first | assumption | exact ah_eq)))) (by rfl) ?_ | refine ev_ifT rfl (by simp only [ick, w32]; omega) ?_ | refine ev_ifF rfl (by simp only [ick, w32]; omega) ?_ | refine ev_icT rfl (by simp only [ick, w32]; omega) ?_ | refine ev_icF rfl (by simp only [ick, w32]; omega) ?_)
        refine ev_aald (3 + u) rfl (by first | assumption | exact ah_eq | (refine ah_ne (by omega) ?_; first | assumption | exact ah_eq | (refine ah_ne (by omega) ?_; first | assumption | exact ah_eq | (refine ah_ne (by omega) ?_; first | assumption | exact ah_eq)))) (by simp only [ick, w32]; omega) (by omega) ?_
        rw [hf (3 + u) (by omega), pi_m hu]
        rcases hσ.at (1 + u) with h2 | ⟨m, hm, h2, -⟩
        · rw [oa_none h2, decide_eq_true (by omega)]
          repeat (refine ev_st rfl rfl ?_)
          exact ev_rt rfl rfl rfl
        · rw [oa_some h2, decide_eq_false (by omega)]
          repeat (refine ev_st rfl rfl ?_)
          exact ev_rt rfl rfl rfl
      · rw [oa_some h1, decide_eq_false (by omega)]
        repeat (refine ev_st rfl rfl ?_)
        exact ev_rt rfl rfl rfl
    · rw [decide_eq_false (by omega)]
      repeat (first | refine ev_st rfl rfl ?_ | refine ev_getf rfl (by first | assumption | exact ah_eq | (refine ah_ne (by omega) ?_; first | assumption | exact ah_eq | (refine ah_ne (by omega) ?_; first | assumption | exact ah_eq | (refine ah_ne (by omega) ?_; first | assumption | exact ah_eq)))) (by rfl) ?_ | refine ev_ifT rfl (by simp only [ick, w32]; omega) ?_ | refine ev_ifF rfl (by simp only [ick, w32]; omega) ?_ | refine ev_icT rfl (by simp only [ick, w32]; omega) ?_ | refine ev_icF rfl (by simp only [ick, w32]; omega) ?_)
      exact ev_rt rfl rfl rfl
