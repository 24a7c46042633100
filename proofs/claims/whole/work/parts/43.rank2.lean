-- Resolver: rankMainline whole, rankOf, comesLater
def r_ml (E : EL) (σ : SS) : List Nat := r_main E 401 (σ 13)
set_option maxHeartbeats 2000000 in
theorem c_rankMainline {h : AH} {R : Nat → Prop} {ad : Nat → Nat} {N Z s0 p0 : Nat} {E : EL} {σ : SS} {f0 : Nat → Option Nat} {rk : Nat → Int} (hN : N ≤ 400) (hZR : rsN R Z) (hO : OL N E) (ns : ¬ (Z ≤ s0 ∧ s0 < Z + 19)) (np : ¬ (Z ≤ p0 ∧ p0 < Z + 19)) (hZ : h.2.2 Z = some (cRes Z)) (hr : h.2.2 (Z + 18) = some (cIa 400 rk)) (hL : LG h R ad N E) (hs : h.2.2 s0 = some (cSt p0)) (hp : h.2.2 p0 = some (cEa 23 f0)) (hf : ∀ j, j < 23 → f0 j = oa ad (σ (pi_ j))) (hσ : sOK N E σ) : Em mResolver_rankMainline 2 [vR Z, vR s0] h (some (.inl ((r_ml E σ).length : Int))) (ah_put h (Z + 18) (cIa 400 (r_rk (fill 400 (fun _ => -1) rk) (r_ml E σ) 0))) := by
  have r18 : ¬ R (Z + 18) := hZR 18 (by omega) (by omega) (by omega)
  have l1 := l_rank1 (j1 := some (vR s0)) hN hZR hO 400 (σ 13) 0 (ah_put h (Z + 18) (cIa 400 (fill 400 (fun _ => -1) rk))) _ (by
    rcases hσ.at 13 with z | ⟨m, z1, z2, -⟩
    · exact Or.inl z
    · exact Or.inr ⟨m, z1, by omega, z2⟩) (by omega) (ah_ne (by omega) hZ) ah_eq (hL.fz (fz.put r18))
  rw [ah_putput, Nat.zero_add] at l1
  have ca := c_at (h := ah_put h (Z + 18) (cIa 400 (fill 400 (fun _ => -1) rk))) (ah_ne (by omega) hs) (ah_ne (by omega) hp) (i := 1) (by omega)
  rw [hf 1 (by omega), show pi_ 1 = 13 by rfl] at ca
  show Ev tResolver_rankMainline 0 [some (vR Z), some (vR s0), none, none] [] h _
  iterate 2 (refine ev_st rfl rfl ?_)
  refine l_rank0 (j1 := some (vR s0)) (j3 := none) 400 0 h rk (by omega) hZ (by rw [fill_0]; exact hr) _ ?_
  iterate 2 (refine ev_st rfl rfl ?_)
  refine ev_callV rfl rfl (ah_ne (by omega) hs) rfl ca ?_
  iterate 3 (refine ev_st rfl rfl ?_)
  exact l1
theorem r_rk_no {l : List Nat} : ∀ {rk : Nat → Int} {d n : Nat}, n ∉ l → r_rk rk l d n = rk n := by
  induction l with
  | nil => intro rk d n _; rfl
  | cons x r ih =>
    intro rk d n hn
    simp only [r_rk]
    rw [ih (fun z => hn (List.mem_cons_of_mem _ z))]
    simp only [va_up]
    have hx : ¬ n = x := by rintro rfl; exact hn List.mem_cons_self
    rw [if_neg hx]
theorem r_rk_in {l : List Nat} : ∀ {rk : Nat → Int} {d n : Nat}, l.Nodup → n ∈ l → r_rk rk l d n = ((d + l.idxOf n : Nat) : Int) := by
  induction l with
  | nil => intro rk d n _ h; cases h
  | cons x r ih =>
    intro rk d n hd hn
    simp only [r_rk]
    rw [List.nodup_cons] at hd
    by_cases hx : n = x
    · subst hx
      rw [r_rk_no hd.1]
      simp [va_up]
    · have hr : n ∈ r := by
        rcases List.mem_cons.1 hn with z | z
        · exact absurd z hx
        · exact z
      rw [ih hd.2 hr, List.idxOf_cons]
      have : (x == n) = false := by simp; exact fun z => hx z.symm
      rw [this]
      simp only [cond_false]
      omega
theorem main_lt {N : Nat} {E : EL} (hO : OL N E) : ∀ (k : Nat) (x : Int), x = -1 ∨ (∃ n, n < N ∧ x = (n : Int)) → ∀ y ∈ r_main E k x, (y : Int) ≤ x ∧ y < N := by
  intro k
  induction k with
  | zero => intro x _ y hy; simp [r_main] at hy
  | succ k ih =>
    intro x hx y hy
    simp only [r_main] at hy
    rcases hx with rfl | ⟨n, hn, rfl⟩
    · rw [if_pos (by omega)] at hy; cases hy
    · rw [if_neg (by omega), Int.toNat_natCast] at hy
      rcases List.mem_cons.1 hy with rfl | hy
      · exact ⟨Int.le_refl _, hn⟩
      · rcases (hO n hn).at 13 with z | ⟨m, z1, z2, -⟩
        · have := ih _ (Or.inl z) y hy
          omega
        · have := ih _ (Or.inr ⟨m, by omega, z2⟩) y hy
          omega
theorem main_nodup {N : Nat} {E : EL} (hO : OL N E) : ∀ (k : Nat) (x : Int), x = -1 ∨ (∃ n, n < N ∧ x = (n : Int)) → (r_main E k x).Nodup := by
  intro k
  induction k with
  | zero => intro x _; exact List.nodup_nil
  | succ k ih =>
    intro x hx
    simp only [r_main]
    rcases hx with rfl | ⟨n, hn, rfl⟩
    · rw [if_pos (by omega)]; exact List.nodup_nil
    · rw [if_neg (by omega), Int.toNat_natCast, List.nodup_cons]
      have hx : e_ow (E n) 13 = -1 ∨ ∃ m, m < N ∧ e_ow (E n) 13 = (m : Int) := by
        rcases (hO n hn).at 13 with z | ⟨m, z1, z2, -⟩
        · exact Or.inl z
        · exact Or.inr ⟨m, by omega, z2⟩
      refine ⟨fun hy => ?_, ih _ hx⟩
      have h1 := (main_lt hO k _ hx n hy).1
      rcases (hO n hn).at 13 with z | ⟨m, z1, z2, -⟩
      · omega
      · omega
-- the first of an event and its powers below that has a rank
def r_find (rk : Nat → Int) (E : EL) (bd : Int) : Nat → Int → Int
  | 0, _ => bd
  | k + 1, x => if x < 0 then bd else if 0 ≤ rk x.toNat then rk x.toNat else r_find rk E bd k (e_ow (E x.toNat) 13)
set_option maxHeartbeats 2000000 in
theorem l_rankOf {h : AH} {R : Nat → Prop} {ad : Nat → Nat} {N Z : Nat} {E : EL} {rk : Nat → Int} (hN : N ≤ 400) (hO : OL N E) (hZ : h.2.2 Z = some (cRes Z)) (hr : h.2.2 (Z + 18) = some (cIa 400 rk)) (hrk : ∀ n, n < 400 → -1 ≤ rk n ∧ rk n ≤ 400) (hL : LG h R ad N E) {bd : Int} {j1 : Option AV} : ∀ (k : Nat) (x : Int) (t : Nat), x = -1 ∨ (∃ n, n < N ∧ n < k ∧ x = (n : Int)) → t + k ≤ 400 → Ev tResolver_rankOf 5 [some (vR Z), j1, some (.inl bd), some (.inr (.inr (oa ad x))), some (.inl (t : Int))] [] h (some (.inl (r_find rk E bd (k + 1) x)), h) := by
  have none_case : ∀ (t : Nat), t ≤ 400 → Ev tResolver_rankOf 5 [some (vR Z), j1, some (.inl bd), some (.inr (.inr none)), some (.inl (t : Int))] [] h (some (.inl bd), h) := by
    intro t ht
    by_cases h4 : t = 400
    · iterate 2 (refine ev_st rfl rfl ?_)
      refine ev_icT rfl (by simp only [ick, w32]; omega) ?_
      repeat (refine ev_st rfl rfl ?_)
      exact ev_rt rfl rfl rfl
    · iterate 2 (refine ev_st rfl rfl ?_)
      refine ev_icF rfl (by simp only [ick, w32]; omega) ?_
      repeat (refine ev_st rfl rfl ?_)
      exact ev_rt rfl rfl rfl
  intro k
  induction k with
  | zero =>
    intro x t hx ht
    rcases hx with rfl | ⟨n, -, h0, -⟩
    · rw [oa_none rfl]
      exact none_case t (by omega)
    · omega
  | succ k ih =>
    intro x t hx ht
    rcases hx with rfl | ⟨n, hn, hk, rfl⟩
    · rw [oa_none rfl]
      exact none_case t (by omega)
    · have ih := ih (e_ow (E n) 13) (t + 1) (by
        rcases (hO n hn).at 13 with z | ⟨m, z1, z2, -⟩
        · exact Or.inl z
        · exact Or.inr ⟨m, by omega, by omega, z2⟩) (by omega)
      have hrn := hrk n (by omega)
      obtain ⟨c, pa, gr, sl, lv, er, bh, gd, pf, hc, hg, -⟩ := LG_gr hL hn
      have cpb := c_powBelow hc hg.toR
      rw [oa_some (n := n) rfl]
      have hfd : r_find rk E bd (k + 1 + 1) (n : Int) = if 0 ≤ rk n then rk n else r_find rk E bd (k + 1) (e_ow (E n) 13) := by
        show (if (n : Int) < 0 then bd else if 0 ≤ rk (n : Int).toNat then rk (n : Int).toNat else r_find rk E bd (k + 1) (e_ow (E (n : Int).toNat) 13)) = _
        rw [if_neg (by omega), Int.toNat_natCast]
      rw [hfd]
      clear none_case hfd hrk
      iterate 2 (refine ev_st rfl rfl ?_)
      refine ev_icF rfl (by simp only [ick, w32]; omega) ?_
      iterate 3 (refine ev_st rfl rfl ?_)
      refine ev_getf rfl hZ (by rfl) ?_
      iterate 1 (refine ev_st rfl rfl ?_)
      refine ev_getf rfl hc (by rfl) ?_
      refine ev_ialdN rfl hr (by omega) (by omega) ?_
      by_cases h0 : 0 ≤ rk n
      · rw [if_pos h0]
        refine ev_ifF rfl (by simp only [ick, w32]; omega) ?_
        iterate 1 (refine ev_st rfl rfl ?_)
        refine ev_getf rfl hZ (by rfl) ?_
        iterate 1 (refine ev_st rfl rfl ?_)
        refine ev_getf rfl hc (by rfl) ?_
        refine ev_ialdN rfl hr (by omega) (by omega) ?_
        exact ev_rt rfl rfl rfl
      · rw [if_neg h0]
        refine ev_ifT rfl (by simp only [ick, w32]; omega) ?_
        iterate 1 (refine ev_st rfl rfl ?_)
        refine ev_callV rfl rfl hc rfl cpb ?_
        iterate 3 (refine ev_st rfl rfl ?_)
        rw [nat_1]
        exact ih
theorem c_rankOf {h : AH} {R : Nat → Prop} {ad : Nat → Nat} {N Z : Nat} {E : EL} {rk : Nat → Int} (hN : N ≤ 400) (hO : OL N E) (hZ : h.2.2 Z = some (cRes Z)) (hr : h.2.2 (Z + 18) = some (cIa 400 rk)) (hrk : ∀ n, n < 400 → -1 ≤ rk n ∧ rk n ≤ 400) (hL : LG h R ad N E) {bd : Int} {e : Nat} (he : e < N) : Em mResolver_rankOf 2 [vR Z, vR (ad e), .inl bd] h (some (.inl (r_find rk E bd 401 e))) h := by
  have := l_rankOf (j1 := some (vR (ad e))) (bd := bd) hN hO hZ hr hrk hL 400 (e : Int) 0 (Or.inr ⟨e, he, by omega, rfl⟩) (by omega)
  rw [oa_some (n := e) rfl] at this
  show Ev tResolver_rankOf 0 [some (vR Z), some (vR (ad e)), some (.inl bd), none, none] [] h _
  iterate 4 (refine ev_st rfl rfl ?_)
  exact this
set_option maxHeartbeats 2000000 in
theorem c_comesLater {h : AH} {R : Nat → Prop} {ad : Nat → Nat} {N Z : Nat} {E : EL} {rk : Nat → Int} (hN : N ≤ 400) (hW : WE N E) (hZ : h.2.2 Z = some (cRes Z)) (hr : h.2.2 (Z + 18) = some (cIa 400 rk)) (hrk : ∀ n, n < 400 → -1 ≤ rk n ∧ rk n ≤ 400) (hL : LG h R ad N E) {a b : Nat} (ha : a < N) (hb : b < N) {own : Int} (ho : -1 ≤ own ∧ own ≤ 400) : Em mResolver_comesLater 1 [vR Z, vR (ad a), vR (ad b), .inl own] h (some (vB (if rk a = own then r_old E b a else decide (rk a < own)))) h := by
  obtain ⟨c, pa, gr, lv, er, bh, hc, -⟩ := evR.cell hL ha
  obtain ⟨c', pa', gr', lv', er', bh', hc', -⟩ := evR.cell hL hb
  have co := c_isOlder hc' (hW b hb).2.2.2.2.2.2.1 hc (hW a ha).2.2.2.2.2.2.1
  have hra := hrk a (by omega)
  show Ev tResolver_comesLater 0 [some (vR Z), some (vR (ad a)), some (vR (ad b)), some (.inl own), none] [] h _
  clear hrk
  repeat (first | refine ev_st rfl rfl ?_ | refine ev_getf rfl (by first | assumption | exact ah_eq | (refine ah_ne (by omega) ?_; first | assumption | exact ah_eq | (refine ah_ne (by omega) ?_; first | assumption | exact ah_eq | (refine ah_ne (by omega) ?_; first | assumption | exact ah_eq)))) (by rfl) ?_)
  refine ev_ialdN rfl hr (by omega) (by omega) ?_
  generalize rk a = x at *
  iterate 3 (refine ev_st rfl rfl ?_)
  by_cases h1 : x = own
  · rw [if_pos h1]
    refine ev_icT rfl (by simp only [ick, w32]; omega) ?_
    iterate 2 (refine ev_st rfl rfl ?_)
    refine ev_callV rfl rfl hc' rfl co ?_
    unfold r_old
    cases (if e_tm (E b) = e_tm (E a) then decide (e_id b < e_id a) else decide (e_tm (E b) < e_tm (E a))) <;> exact ev_rt rfl rfl rfl
  · rw [if_neg h1]
    by_cases h2 : x < own
    · rw [decide_eq_true h2]
      repeat (first | refine ev_st rfl rfl ?_ | refine ev_getf rfl (by first | assumption | exact ah_eq | (refine ah_ne (by omega) ?_; first | assumption | exact ah_eq | (refine ah_ne (by omega) ?_; first | assumption | exact ah_eq | (refine ah_ne (by omega) ?_; first | assumption | exact ah_eq)))) (by rfl) ?_ | refine ev_ifT rfl (by simp only [ick, w32]; omega) ?_ | refine ev_ifF rfl (by simp only [ick, w32]; omega) ?_ | refine ev_icT rfl (by simp only [ick, w32]; omega) ?_ | refine ev_icF rfl (by simp only [ick, w32]; omega) ?_)
      exact ev_rt rfl rfl rfl
    · rw [decide_eq_false h2]
      repeat (first | refine ev_st rfl rfl ?_ | refine ev_getf rfl (by first | assumption | exact ah_eq | (refine ah_ne (by omega) ?_; first | assumption | exact ah_eq | (refine ah_ne (by omega) ?_; first | assumption | exact ah_eq | (refine ah_ne (by omega) ?_; first | assumption | exact ah_eq)))) (by rfl) ?_ | refine ev_ifT rfl (by simp only [ick, w32]; omega) ?_ | refine ev_ifF rfl (by simp only [ick, w32]; omega) ?_ | refine ev_icT rfl (by simp only [ick, w32]; omega) ?_ | refine ev_icF rfl (by simp only [ick, w32]; omega) ?_)
      exact ev_rt rfl rfl rfl
