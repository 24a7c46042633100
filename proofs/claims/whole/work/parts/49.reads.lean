-- RoomFederation: what only tells
def d_srv (s : Int) : Bool := decide (0 ≤ s ∧ s < 4)
def d_key (k key : Int) : Bool := decide ((0 ≤ k ∧ k ≤ 4) ∧ (0 ≤ key ∧ key < 12))
def d_num (σ : SS) (k key : Int) : Int := if m_cpl k key < 0 then -2 else if σ (pi_ (m_cpl k key).toNat) < 0 then -2 else σ (pi_ (m_cpl k key).toNat)
def d_cnt (σ : SS) : Nat := b_cnt 23 fun p => decide (0 ≤ σ p)
def d_state (N : Nat) (E : EL) (V : Nat → SV) (s k key : Int) : Int := if d_srv s && d_key k key then d_num (m_state N E (V s.toNat).1) k key else -1
def d_before (N : Nat) (E : EL) (e k key : Int) : Int := if d_key k key then (if 0 ≤ e ∧ e < N then d_num (e_bf (E e.toNat)) k key else -2) else -1
def d_lk (x : ED) (n : Nat) (w : Int) : Int := if w = 0 then e_sd x else if w = 1 then e_kd x else if w = 2 then e_a x else if w = 3 then e_b x else if w = 4 then ((e_pa x).length : Int) else if w = 5 then (d_cnt (e_ow x) : Int) else if w = 6 then (bif e_gd x then 1 else 0) else e_id n
def d_look (N : Nat) (E : EL) (e w : Int) : Int := if 0 ≤ w ∧ w ≤ 7 then (if 0 ≤ e ∧ e < N then d_lk (E e.toNat) e.toNat w else -2) else -1
def d_level (N : Nat) (E : EL) (V : Nat → SV) (s u : Int) : Int := if d_srv s && decide (0 ≤ u ∧ u < 12) then m_lev E (m_state N E (V s.toNat).1) u else 1000
def d_knows (V : Nat → SV) (s e : Int) : Int := if d_srv s then (if (decide (0 ≤ e ∧ e < 400) && (V s.toNat).1 e.toNat) = true then 1 else if (decide (0 ≤ e ∧ e < 400) && (V s.toNat).2.1 e.toNat) = true then 2 else 0) else -1
def d_head (N : Nat) (V : Nat → SV) (s k : Int) : Int := if d_srv s then v_hn (V s.toNat).2.2 k N 0 0 else -1
def d_count (N : Nat) (E : EL) (V : Nat → SV) (s w : Int) : Int := if d_srv s then (if w = 0 then (b_cnt 448 (V s.toNat).1 : Int) else if w = 1 then (b_cnt 448 (V s.toNat).2.1 : Int) else if w = 2 then (b_cnt 448 (V s.toNat).2.2 : Int) else if w = 3 then (d_cnt (m_state N E (V s.toNat).1) : Int) else -1) else -1
theorem cnt_pi {σ : SS} : b_cnt 23 (fun j => decide (0 ≤ σ (pi_ j))) = d_cnt σ := by
  unfold d_cnt
  simp only [b_cnt, show pi_ 0 = 0 from rfl, show pi_ 1 = 13 from rfl, show pi_ 2 = 14 from rfl, show pi_ 3 = 1 from rfl, show pi_ 4 = 2 from rfl, show pi_ 5 = 3 from rfl, show pi_ 6 = 4 from rfl, show pi_ 7 = 5 from rfl, show pi_ 8 = 6 from rfl, show pi_ 9 = 7 from rfl, show pi_ 10 = 8 from rfl, show pi_ 11 = 9 from rfl, show pi_ 12 = 10 from rfl, show pi_ 13 = 11 from rfl, show pi_ 14 = 12 from rfl, show pi_ 15 = 15 from rfl, show pi_ 16 = 16 from rfl, show pi_ 17 = 17 from rfl, show pi_ 18 = 18 from rfl, show pi_ 19 = 19 from rfl, show pi_ 20 = 20 from rfl, show pi_ 21 = 21 from rfl, show pi_ 22 = 22 from rfl]
  omega
theorem c_stsz {h : AH} {ad : Nat → Nat} {s : Nat} {σ : SS} (q : stR h ad s σ) : Em mState_size 2 [vR s] h (some (.inl (d_cnt σ : Int))) h := by
  obtain ⟨p, f, a, b, c⟩ := q
  have := c_stsize a b
  rw [b_cnt_congr (g := fun j => decide (0 ≤ σ (pi_ j))) (fun j hj => by
    rw [c j hj]
    unfold oa
    by_cases hz : σ (pi_ j) < 0
    · rw [if_pos hz, decide_eq_false (by omega)]; rfl
    · rw [if_neg hz, decide_eq_true (by omega)]; rfl), cnt_pi] at this
  exact this
section RD
variable {h : AH} {B N : Nat} {E : EL} {V : Nat → SV} {ad : Nat → Nat}
theorem c_serverOf (q : cls h B N E V ad) {s : Int} (hs : InR s) : Em mRF_serverOf 0 [vR B, .inl s] h (some (.inr (.inr (if d_srv s then some (B + 23 + 7 * s.toNat) else none)))) h := by
  obtain ⟨q1, q2, q3, q4, ⟨f, q5, q6⟩, -⟩ := q
  unfold InR at hs
  show Ev tRF_serverOf 0 [some (vR B), some (.inl s)] [] h _
  unfold d_srv
  by_cases h1 : 0 ≤ s
  · by_cases h2 : s < 4
    · rw [if_pos (decide_eq_true ⟨h1, h2⟩)]
      repeat (refine ev_st rfl rfl ?_)
      refine ev_ifF rfl (by simp only [ick, w32]; omega) ?_
      repeat (refine ev_st rfl rfl ?_)
      refine ev_icF rfl (by simp only [ick, w32]; omega) ?_
      repeat (refine ev_st rfl rfl ?_)
      refine ev_getf rfl q1 (by rfl) ?_
      repeat (refine ev_st rfl rfl ?_)
      refine ev_aald s.toNat rfl q5 (by simp only [w32]; omega) (by omega) ?_
      rw [q6 _ (by omega)]
      repeat (refine ev_st rfl rfl ?_)
      exact ev_rt rfl rfl rfl
    · rw [if_neg (by simp; omega)]
      repeat (first | refine ev_st rfl rfl ?_ | refine ev_getf rfl (by first | assumption | exact ah_eq | (refine ah_ne (by omega) ?_; first | assumption | exact ah_eq | (refine ah_ne (by omega) ?_; first | assumption | exact ah_eq | (refine ah_ne (by omega) ?_; first | assumption | exact ah_eq)))) (by rfl) ?_ | refine ev_ifT rfl (by simp only [ick, w32]; omega) ?_ | refine ev_ifF rfl (by simp only [ick, w32]; omega) ?_ | refine ev_icT rfl (by simp only [ick, w32]; omega) ?_ | refine ev_icF rfl (by simp only [ick, w32]; omega) ?_)
      exact ev_rt rfl rfl rfl
  · rw [if_neg (by simp; omega)]
    repeat (first | refine ev_st rfl rfl ?_ | refine ev_getf rfl (by first | assumption | exact ah_eq | (refine ah_ne (by omega) ?_; first | assumption | exact ah_eq | (refine ah_ne (by omega) ?_; first | assumption | exact ah_eq | (refine ah_ne (by omega) ?_; first | assumption | exact ah_eq)))) (by rfl) ?_ | refine ev_ifT rfl (by simp only [ick, w32]; omega) ?_ | refine ev_ifF rfl (by simp only [ick, w32]; omega) ?_ | refine ev_icT rfl (by simp only [ick, w32]; omega) ?_ | refine ev_icF rfl (by simp only [ick, w32]; omega) ?_)
    exact ev_rt rfl rfl rfl
theorem c_isStateKey {h : AH} {k key : Int} (hk : InR k) (hy : InR key) : Em mRF_isStateKey 0 [.inl k, .inl key] h (some (vB (d_key k key))) h := by
  have cu := c_isUser (h := h) hy
  unfold InR at hk
  show Ev tRF_isStateKey 0 [some (.inl k), some (.inl key)] [] h _
  unfold d_key
  by_cases h1 : 0 ≤ k
  · by_cases h2 : k ≤ 4
    · repeat (refine ev_st rfl rfl ?_)
      refine ev_ifF rfl (by simp only [ick, w32]; omega) ?_
      repeat (refine ev_st rfl rfl ?_)
      refine ev_icF rfl (by simp only [ick, w32]; omega) ?_
      repeat (refine ev_st rfl rfl ?_)
      refine ev_cl rfl rfl cu ?_
      by_cases h3 : 0 ≤ key ∧ key < 12
      · rw [decide_eq_true h3, decide_eq_true ⟨⟨h1, h2⟩, h3⟩]
        refine ev_zeqF rfl rfl ?_
        repeat (refine ev_st rfl rfl ?_)
        exact ev_rt rfl rfl rfl
      · rw [decide_eq_false h3, decide_eq_false (fun z => h3 z.2)]
        refine ev_zeqT rfl rfl ?_
        repeat (refine ev_st rfl rfl ?_)
        exact ev_rt rfl rfl rfl
    · rw [decide_eq_false (fun z => h2 z.1.2)]
      repeat (refine ev_st rfl rfl ?_)
      refine ev_ifF rfl (by simp only [ick, w32]; omega) ?_
      repeat (refine ev_st rfl rfl ?_)
      refine ev_icT rfl (by simp only [ick, w32]; omega) ?_
      repeat (refine ev_st rfl rfl ?_)
      exact ev_rt rfl rfl rfl
  · rw [decide_eq_false (fun z => h1 z.1.1)]
    repeat (refine ev_st rfl rfl ?_)
    refine ev_ifT rfl (by simp only [ick, w32]; omega) ?_
    repeat (refine ev_st rfl rfl ?_)
    exact ev_rt rfl rfl rfl
theorem cpl_rng (k key : Int) : m_cpl k key = -1 ∨ (0 ≤ m_cpl k key ∧ m_cpl k key < 23) := by
  unfold m_cpl
  repeat (first | omega | split)
theorem c_numberIn {R : Nat → Prop} {x : Nat} {σ : SS} (hL : LG h R ad N E) (hS : stR h ad x σ) (hσ : sOK N E σ) {k key : Int} (hk : InR k) (hy : InR key) : Em mRF_numberIn 1 [vR x, .inl k, .inl key] h (some (.inl (d_num σ k key))) h := by
  have cp := c_placeOf (h := h) hk hy
  obtain ⟨p, f, a, b, c⟩ := hS
  have hcp := cpl_rng k key
  show Ev tRF_numberIn 0 [some (vR x), some (.inl k), some (.inl key), none] [] h _
  unfold d_num
  repeat (refine ev_st rfl rfl ?_)
  refine ev_cl rfl rfl cp ?_
  rcases hcp with z | ⟨z1, z2⟩
  · rw [if_pos (by omega), z]
    refine ev_callV rfl rfl a rfl c_atN ?_
    repeat (refine ev_st rfl rfl ?_)
    exact ev_rt rfl rfl rfl
  · rw [if_neg (by omega)]
    obtain ⟨i, hi⟩ : ∃ i : Nat, m_cpl k key = (i : Int) := ⟨(m_cpl k key).toNat, by omega⟩
    rw [hi, Int.toNat_natCast]
    refine ev_callV rfl rfl a rfl (c_at a b (i := i) (by omega)) ?_
    rw [c i (by omega)]
    rcases hσ.at (pi_ i) with w | ⟨n, w1, w2, -⟩
    · rw [if_pos (by omega), oa_none w]
      repeat (refine ev_st rfl rfl ?_)
      exact ev_rt rfl rfl rfl
    · rw [if_neg (by omega), w2, oa_some (n := n) rfl]
      obtain ⟨c, pa, gr, lv, er, bh, hc, -⟩ := evR.cell hL w1
      repeat (refine ev_st rfl rfl ?_)
      refine ev_getf rfl hc (by rfl) ?_
      exact ev_rt rfl rfl rfl
theorem c_state (q : cls h B N E V ad) (hE : EOK N E) (hS : ∀ s, s < 4 → SOK N E (V s)) {s k key : Int} (hs : InR s) (hk : InR k) (hy : InR key) : ∃ h', Em mRF_state 1 [vR B, .inl s, .inl k, .inl key] h (some (.inl (d_state N E V s k key))) h' ∧ cls h' B N E V ad ∧ clf B h h' ∧ few 2 24 h h' := by
  have c1 := c_serverOf q hs
  have c2 := c_isStateKey (h := h) hk hy
  unfold d_state
  cases hd : d_srv s with
  | false =>
    rw [hd] at c1
    refine ⟨h, ?_, q, clf.rf, few.rf⟩
    show Ev tRF_state 0 [some (vR B), some (.inl s), some (.inl k), some (.inl key), none] [] h _
    rw [if_neg (by simp)]
    iterate 2 (refine ev_st rfl rfl ?_)
    refine ev_callV rfl rfl q.1 rfl c1 ?_
    repeat (refine ev_st rfl rfl ?_)
    exact ev_rt rfl rfl rfl
  | true =>
    rw [hd] at c1
    have hs4 : s.toNat < 4 := by
      unfold d_srv at hd
      simp only [decide_eq_true_eq] at hd
      omega
    cases hkk : d_key k key with
    | false =>
      rw [hkk] at c2
      refine ⟨h, ?_, q, clf.rf, few.rf⟩
      show Ev tRF_state 0 [some (vR B), some (.inl s), some (.inl k), some (.inl key), none] [] h _
      rw [if_neg (by simp)]
      iterate 2 (refine ev_st rfl rfl ?_)
      refine ev_callV rfl rfl q.1 rfl c1 ?_
      repeat (refine ev_st rfl rfl ?_)
      refine ev_cl rfl rfl c2 ?_
      refine ev_zneF rfl rfl ?_
      repeat (refine ev_st rfl rfl ?_)
      exact ev_rt rfl rfl rfl
    | true =>
      rw [hkk] at c2
      obtain ⟨x, h', c3, q', f', few', st', ok'⟩ := c_stateOf q hE hs4 (hS _ hs4)
      refine ⟨h', ?_, q', f', few'⟩
      have c4 := c_numberIn q'.2.2.2.2.2.2.1 st'.toR ok' hk hy
      obtain ⟨nw, ⟨gk, gh, gd, hsv, -⟩, -⟩ := q.2.2.2.2.2.1 _ hs4
      obtain ⟨fa, ft, gc, gs, gx, gp, tp, ls, qu, rk, q3⟩ := q.2.2.1
      show Ev tRF_state 0 [some (vR B), some (.inl s), some (.inl k), some (.inl key), none] [] h _
      rw [if_pos (show (true && true) = true from rfl)]
      clear st' ok'
      iterate 2 (refine ev_st rfl rfl ?_)
      refine ev_callV rfl rfl q.1 rfl c1 ?_
      repeat (refine ev_st rfl rfl ?_)
      refine ev_cl rfl rfl c2 ?_
      refine ev_zneT rfl rfl ?_
      iterate 1 (refine ev_st rfl rfl ?_)
      refine ev_getf rfl q.1 (by rfl) ?_
      iterate 2 (refine ev_st rfl rfl ?_)
      refine ev_getf rfl q.1 (by rfl) ?_
      refine ev_callV rfl rfl q3.c0 rfl c3 ?_
      iterate 2 (refine ev_st rfl rfl ?_)
      refine ev_cl rfl rfl c4 ?_
      exact ev_rt rfl rfl rfl
theorem c_findI (q : cls h B N E V ad) (hN : N ≤ 400) {e : Int} (he : InR e) : Em mLog_find 0 [vR (B + 1), .inl e] h (some (.inr (.inr (if 0 ≤ e ∧ e < N then some (ad e.toNat) else none)))) h := by
  obtain ⟨-, ⟨a, mf, b, c⟩, -⟩ := q
  have := c_lfind a b hN he
  by_cases hz : 0 ≤ e ∧ e < N
  · rw [if_pos hz] at this ⊢
    rw [c _ (by omega)] at this
    exact this
  · rw [if_neg hz] at this ⊢
    exact this
theorem c_before (q : cls h B N E V ad) (hE : EOK N E) {e k key : Int} (he : InR e) (hk : InR k) (hy : InR key) : Em mRF_before 1 [vR B, .inl e, .inl k, .inl key] h (some (.inl (d_before N E e k key))) h := by
  have c1 := c_findI q hE.1 he
  have c2 := c_isStateKey (h := h) hk hy
  unfold d_before
  show Ev tRF_before 0 [some (vR B), some (.inl e), some (.inl k), some (.inl key), none] [] h _
  iterate 2 (refine ev_st rfl rfl ?_)
  refine ev_cl rfl rfl c2 ?_
  cases hkk : d_key k key with
  | false =>
    refine ev_zneF rfl rfl ?_
    rw [if_neg (by simp)]
    repeat (refine ev_st rfl rfl ?_)
    exact ev_rt rfl rfl rfl
  | true =>
    refine ev_zneT rfl rfl ?_
    rw [if_pos rfl]
    iterate 1 (refine ev_st rfl rfl ?_)
    refine ev_getf rfl q.1 (by rfl) ?_
    iterate 1 (refine ev_st rfl rfl ?_)
    refine ev_callV rfl rfl q.2.1.1 rfl c1 ?_
    by_cases hz : 0 ≤ e ∧ e < N
    · rw [if_pos hz, if_pos hz]
      have hn : e.toNat < N := by omega
      obtain ⟨-, c, pa, gr, lv, er, bh, r1, -, -, -, -, r6, -⟩ := q.2.2.2.2.2.2.1 _ hn
      have c4 := c_numberIn q.2.2.2.2.2.2.1 r6.toR (sOK_mono (hE.2.2.2.2.2 _ hn) (by omega)) hk hy
      repeat (refine ev_st rfl rfl ?_)
      refine ev_getf rfl r1 (by rfl) ?_
      iterate 2 (refine ev_st rfl rfl ?_)
      refine ev_cl rfl rfl c4 ?_
      exact ev_rt rfl rfl rfl
    · rw [if_neg hz, if_neg hz]
      repeat (refine ev_st rfl rfl ?_)
      exact ev_rt rfl rfl rfl
theorem c_look (q : cls h B N E V ad) (hE : EOK N E) {e w : Int} (he : InR e) (hw : InR w) : Em mRF_look 1 [vR B, .inl e, .inl w] h (some (.inl (d_look N E e w))) h := by
  have c1 := c_findI q hE.1 he
  unfold InR at hw
  unfold d_look
  show Ev tRF_look 0 [some (vR B), some (.inl e), some (.inl w), none] [] h _
  by_cases hw0 : 0 ≤ w
  · by_cases hw7 : w ≤ 7
    · rw [if_pos ⟨hw0, hw7⟩]
      iterate 1 (refine ev_st rfl rfl ?_)
      refine ev_ifF rfl (by simp only [ick, w32]; omega) ?_
      iterate 2 (refine ev_st rfl rfl ?_)
      refine ev_icT rfl (by simp only [ick, w32]; omega) ?_
      iterate 1 (refine ev_st rfl rfl ?_)
      refine ev_getf rfl q.1 (by rfl) ?_
      iterate 1 (refine ev_st rfl rfl ?_)
      refine ev_callV rfl rfl q.2.1.1 rfl c1 ?_
      by_cases hz : 0 ≤ e ∧ e < N
      · rw [if_pos hz, if_pos hz]
        have hn : e.toNat < N := by omega
        obtain ⟨-, c, pa, gr, lv, er, bh, r1, -, r3, -, r5, -, -⟩ := q.2.2.2.2.2.2.1 _ hn
        have csz := c_stsz r5.toR
        obtain ⟨gp_, gf_, -, r5a, -⟩ := r5
        obtain ⟨pf, -, r3a, -⟩ := r3
        repeat (refine ev_st rfl rfl ?_)
        unfold d_lk
        by_cases w0 : w = 0
        · subst w0
          rw [if_pos rfl]
          refine ev_sw rfl (pc' := 72) (by decide) rfl ?_
          iterate 1 (refine ev_st rfl rfl ?_)
          refine ev_getf rfl r1 (by rfl) ?_
          exact ev_rt rfl rfl rfl
        rw [if_neg w0]
        by_cases w1 : w = 1
        · subst w1
          rw [if_pos rfl]
          refine ev_sw rfl (pc' := 77) (by decide) rfl ?_
          iterate 1 (refine ev_st rfl rfl ?_)
          refine ev_getf rfl r1 (by rfl) ?_
          exact ev_rt rfl rfl rfl
        rw [if_neg w1]
        by_cases w2 : w = 2
        · subst w2
          rw [if_pos rfl]
          refine ev_sw rfl (pc' := 82) (by decide) rfl ?_
          iterate 1 (refine ev_st rfl rfl ?_)
          refine ev_getf rfl r1 (by rfl) ?_
          exact ev_rt rfl rfl rfl
        rw [if_neg w2]
        by_cases w3 : w = 3
        · subst w3
          rw [if_pos rfl]
          refine ev_sw rfl (pc' := 87) (by decide) rfl ?_
          iterate 1 (refine ev_st rfl rfl ?_)
          refine ev_getf rfl r1 (by rfl) ?_
          exact ev_rt rfl rfl rfl
        rw [if_neg w3]
        by_cases w4 : w = 4
        · subst w4
          rw [if_pos rfl]
          refine ev_sw rfl (pc' := 92) (by decide) rfl ?_
          iterate 1 (refine ev_st rfl rfl ?_)
          refine ev_getf rfl r1 (by rfl) ?_
          refine ev_alen rfl r3a ?_
          exact ev_rt rfl rfl rfl
        rw [if_neg w4]
        by_cases w5 : w = 5
        · subst w5
          rw [if_pos rfl]
          refine ev_sw rfl (pc' := 98) (by decide) rfl ?_
          iterate 1 (refine ev_st rfl rfl ?_)
          refine ev_getf rfl r1 (by rfl) ?_
          refine ev_callV rfl rfl r5a rfl csz ?_
          exact ev_rt rfl rfl rfl
        rw [if_neg w5]
        by_cases w6 : w = 6
        · subst w6
          rw [if_pos rfl]
          refine ev_sw rfl (pc' := 106) (by decide) rfl ?_
          iterate 1 (refine ev_st rfl rfl ?_)
          refine ev_getf rfl r1 (by rfl) ?_
          cases e_gd (E e.toNat) with
          | false =>
            refine ev_zeqT rfl rfl ?_
            repeat (refine ev_st rfl rfl ?_)
            exact ev_rt rfl rfl rfl
          | true =>
            refine ev_zeqF rfl rfl ?_
            repeat (refine ev_st rfl rfl ?_)
            exact ev_rt rfl rfl rfl
        rw [if_neg w6]
        obtain rfl : w = 7 := by omega
        refine ev_sw rfl (pc' := 119) (by decide) rfl ?_
        iterate 1 (refine ev_st rfl rfl ?_)
        refine ev_getf rfl r1 (by rfl) ?_
        exact ev_rt rfl rfl rfl
      · rw [if_neg hz, if_neg hz]
        repeat (refine ev_st rfl rfl ?_)
        exact ev_rt rfl rfl rfl
    · rw [if_neg (fun z => hw7 z.2)]
      iterate 1 (refine ev_st rfl rfl ?_)
      refine ev_ifF rfl (by simp only [ick, w32]; omega) ?_
      iterate 2 (refine ev_st rfl rfl ?_)
      refine ev_icF rfl (by simp only [ick, w32]; omega) ?_
      repeat (refine ev_st rfl rfl ?_)
      exact ev_rt rfl rfl rfl
  · rw [if_neg (fun z => hw0 z.1)]
    iterate 1 (refine ev_st rfl rfl ?_)
    refine ev_ifT rfl (by simp only [ick, w32]; omega) ?_
    repeat (refine ev_st rfl rfl ?_)
    exact ev_rt rfl rfl rfl
theorem d_srv_lt {s : Int} (hd : d_srv s = true) : s.toNat < 4 := by
  unfold d_srv at hd
  simp only [decide_eq_true_eq] at hd
  omega
theorem c_level (q : cls h B N E V ad) (hE : EOK N E) (hS : ∀ s, s < 4 → SOK N E (V s)) {s u : Int} (hs : InR s) (hu : InR u) : ∃ h', Em mRF_level 1 [vR B, .inl s, .inl u] h (some (.inl (d_level N E V s u))) h' ∧ cls h' B N E V ad ∧ clf B h h' ∧ few 2 24 h h' := by
  have c1 := c_serverOf q hs
  have c2 := c_isUser (h := h) hu
  unfold d_level
  cases hd : d_srv s with
  | false =>
    rw [hd] at c1
    refine ⟨h, ?_, q, clf.rf, few.rf⟩
    show Ev tRF_level 0 [some (vR B), some (.inl s), some (.inl u), none] [] h _
    rw [if_neg (by simp)]
    iterate 2 (refine ev_st rfl rfl ?_)
    refine ev_callV rfl rfl q.1 rfl c1 ?_
    repeat (refine ev_st rfl rfl ?_)
    exact ev_rt rfl rfl rfl
  | true =>
    rw [hd] at c1
    have hs4 := d_srv_lt hd
    by_cases hkk : 0 ≤ u ∧ u < 12
    · rw [decide_eq_true hkk] at c2 ⊢
      obtain ⟨x, h', c3, q', f', few', st', ok'⟩ := c_stateOf q hE hs4 (hS _ hs4)
      refine ⟨h', ?_, q', f', few'⟩
      have c4 := c_levelOf (u := u.toNat) st'.toR q'.2.2.2.2.2.2.1 hE.2.1 ok' (by omega)
      rw [show ((u.toNat : Nat) : Int) = u by omega] at c4
      obtain ⟨fa, ft, gc, gs, gx, gp, tp, ls, qu, rk, q3⟩ := q.2.2.1
      obtain ⟨sp, sf, -, st1, -⟩ := st'
      show Ev tRF_level 0 [some (vR B), some (.inl s), some (.inl u), none] [] h _
      rw [if_pos (show (true && true) = true from rfl)]
      iterate 2 (refine ev_st rfl rfl ?_)
      refine ev_callV rfl rfl q.1 rfl c1 ?_
      repeat (refine ev_st rfl rfl ?_)
      refine ev_cl rfl rfl c2 ?_
      refine ev_zneT rfl rfl ?_
      iterate 1 (refine ev_st rfl rfl ?_)
      refine ev_getf rfl q.1 (by rfl) ?_
      iterate 2 (refine ev_st rfl rfl ?_)
      refine ev_getf rfl q.1 (by rfl) ?_
      refine ev_callV rfl rfl q3.c0 rfl c3 ?_
      iterate 1 (refine ev_st rfl rfl ?_)
      refine ev_callV rfl rfl st1 rfl c4 ?_
      exact ev_rt rfl rfl rfl
    · rw [decide_eq_false hkk] at c2 ⊢
      refine ⟨h, ?_, q, clf.rf, few.rf⟩
      show Ev tRF_level 0 [some (vR B), some (.inl s), some (.inl u), none] [] h _
      rw [if_neg (by simp)]
      iterate 2 (refine ev_st rfl rfl ?_)
      refine ev_callV rfl rfl q.1 rfl c1 ?_
      repeat (refine ev_st rfl rfl ?_)
      refine ev_cl rfl rfl c2 ?_
      refine ev_zneF rfl rfl ?_
      repeat (refine ev_st rfl rfl ?_)
      exact ev_rt rfl rfl rfl
theorem c_knows (q : cls h B N E V ad) {s e : Int} (hs : InR s) (he : InR e) : Em mRF_knows 1 [vR B, .inl s, .inl e] h (some (.inl (d_knows V s e))) h := by
  have c1 := c_serverOf q hs
  unfold d_knows
  show Ev tRF_knows 0 [some (vR B), some (.inl s), some (.inl e), none] [] h _
  iterate 2 (refine ev_st rfl rfl ?_)
  refine ev_callV rfl rfl q.1 rfl c1 ?_
  cases hd : d_srv s with
  | false =>
    rw [if_neg (by simp), if_neg (by simp)]
    repeat (refine ev_st rfl rfl ?_)
    exact ev_rt rfl rfl rfl
  | true =>
    have hs4 := d_srv_lt hd
    obtain ⟨nw, ⟨gk, gh, gd, hsv, e1, e2, e3⟩, -⟩ := q.2.2.2.2.2.1 _ hs4
    have k1 := c_hasKnown hsv he
    have k2 := c_isHolding hsv he
    rw [e1] at k1
    rw [e2] at k2
    rw [if_pos rfl, if_pos rfl]
    repeat (refine ev_st rfl rfl ?_)
    refine ev_callV rfl rfl hsv.1 rfl k1 ?_
    cases (decide (0 ≤ e ∧ e < 400) && (V s.toNat).1 e.toNat) with
    | true =>
      refine ev_zeqF rfl rfl ?_
      rw [if_pos rfl]
      repeat (refine ev_st rfl rfl ?_)
      exact ev_rt rfl rfl rfl
    | false =>
      refine ev_zeqT rfl rfl ?_
      rw [if_neg (by simp)]
      repeat (refine ev_st rfl rfl ?_)
      refine ev_callV rfl rfl hsv.1 rfl k2 ?_
      cases (decide (0 ≤ e ∧ e < 400) && (V s.toNat).2.1 e.toNat) with
      | true =>
        refine ev_zeqF rfl rfl ?_
        rw [if_pos rfl]
        repeat (refine ev_st rfl rfl ?_)
        exact ev_rt rfl rfl rfl
      | false =>
        refine ev_zeqT rfl rfl ?_
        rw [if_neg (by simp)]
        repeat (refine ev_st rfl rfl ?_)
        exact ev_rt rfl rfl rfl
theorem c_head (q : cls h B N E V ad) (hN : N ≤ 400) {s k : Int} (hs : InR s) (hk : InR k) : Em mRF_head 1 [vR B, .inl s, .inl k] h (some (.inl (d_head N V s k))) h := by
  have c1 := c_serverOf q hs
  unfold d_head
  show Ev tRF_head 0 [some (vR B), some (.inl s), some (.inl k), none] [] h _
  iterate 2 (refine ev_st rfl rfl ?_)
  refine ev_callV rfl rfl q.1 rfl c1 ?_
  cases hd : d_srv s with
  | false =>
    rw [if_neg (by simp), if_neg (by simp)]
    repeat (refine ev_st rfl rfl ?_)
    exact ev_rt rfl rfl rfl
  | true =>
    have hs4 := d_srv_lt hd
    obtain ⟨nw, ⟨gk, gh, gd, hsv, e1, e2, e3⟩, -⟩ := q.2.2.2.2.2.1 _ hs4
    have k1 := c_headNumber hsv q.2.1 hN hk
    rw [e3] at k1
    rw [if_pos rfl, if_pos rfl]
    repeat (refine ev_st rfl rfl ?_)
    refine ev_getf rfl q.1 (by rfl) ?_
    refine ev_callV rfl rfl hsv.1 rfl k1 ?_
    exact ev_rt rfl rfl rfl
theorem c_events (q : cls h B N E V ad) : Em mRF_events 0 [vR B] h (some (.inl (N : Int))) h := by
  show Ev tRF_events 0 [some (vR B)] [] h _
  iterate 1 (refine ev_st rfl rfl ?_)
  refine ev_getf rfl q.1 (by rfl) ?_
  refine ev_callV rfl rfl q.2.1.1 rfl (c_lsize q.2.1.1) ?_
  exact ev_rt rfl rfl rfl
theorem c_count (q : cls h B N E V ad) (hE : EOK N E) (hS : ∀ s, s < 4 → SOK N E (V s)) {s w : Int} (hs : InR s) (hw : InR w) : ∃ h', Em mRF_count 1 [vR B, .inl s, .inl w] h (some (.inl (d_count N E V s w))) h' ∧ cls h' B N E V ad ∧ clf B h h' ∧ few 2 24 h h' := by
  have c1 := c_serverOf q hs
  unfold InR at hw
  unfold d_count
  have pre : ∀ h' r, (d_srv s = false → Ev tRF_count 10 [some (vR B), some (.inl s), some (.inl w), some (.inr (.inr none))] [] h (some (.inl r), h')) → (d_srv s = true → Ev tRF_count 13 [some (vR B), some (.inl s), some (.inl w), some (vR (B + 23 + 7 * s.toNat))] [.inl w] h (some (.inl r), h')) → Em mRF_count 1 [vR B, .inl s, .inl w] h (some (.inl r)) h' := by
    intro h' r k1 k2
    show Ev tRF_count 0 [some (vR B), some (.inl s), some (.inl w), none] [] h _
    iterate 2 (refine ev_st rfl rfl ?_)
    refine ev_callV rfl rfl q.1 rfl c1 ?_
    cases hd : d_srv s with
    | false =>
      rw [if_neg (by simp)]
      iterate 2 (refine ev_st rfl rfl ?_)
      refine ev_nnF rfl rfl ?_
      exact k1 hd
    | true =>
      rw [if_pos rfl]
      iterate 2 (refine ev_st rfl rfl ?_)
      refine ev_nnT rfl (fun z => by cases z) ?_
      iterate 1 (refine ev_st rfl rfl ?_)
      exact k2 hd
  cases hd : d_srv s with
  | false =>
    refine ⟨h, pre h _ (fun _ => ?_) (fun z => by rw [hd] at z; cases z), q, clf.rf, few.rf⟩
    rw [if_neg (by simp)]
    repeat (refine ev_st rfl rfl ?_)
    exact ev_rt rfl rfl rfl
  | true =>
    have hs4 := d_srv_lt hd
    rw [if_pos rfl]
    obtain ⟨nw, ⟨gk, gh, gd, hsv, e1, e2, e3⟩, -⟩ := q.2.2.2.2.2.1 _ hs4
    by_cases w0 : w = 0
    · have k := c_knownCount hsv
      rw [e1] at k
      refine ⟨h, pre h _ (fun z => by rw [hd] at z; cases z) (fun _ => ?_), q, clf.rf, few.rf⟩
      clear pre
      subst w0
      rw [if_pos rfl]
      refine ev_sw rfl (pc' := 44) (by decide) rfl ?_
      iterate 1 (refine ev_st rfl rfl ?_)
      refine ev_callV rfl rfl hsv.1 rfl k ?_
      exact ev_rt rfl rfl rfl
    rw [if_neg w0]
    by_cases w1 : w = 1
    · have k := c_heldCount hsv
      rw [e2] at k
      refine ⟨h, pre h _ (fun z => by rw [hd] at z; cases z) (fun _ => ?_), q, clf.rf, few.rf⟩
      clear pre
      subst w1
      rw [if_pos rfl]
      refine ev_sw rfl (pc' := 49) (by decide) rfl ?_
      iterate 1 (refine ev_st rfl rfl ?_)
      refine ev_callV rfl rfl hsv.1 rfl k ?_
      exact ev_rt rfl rfl rfl
    rw [if_neg w1]
    by_cases w2 : w = 2
    · have k := c_headCount hsv
      rw [e3] at k
      refine ⟨h, pre h _ (fun z => by rw [hd] at z; cases z) (fun _ => ?_), q, clf.rf, few.rf⟩
      clear pre
      subst w2
      rw [if_pos rfl]
      refine ev_sw rfl (pc' := 54) (by decide) rfl ?_
      iterate 1 (refine ev_st rfl rfl ?_)
      refine ev_callV rfl rfl hsv.1 rfl k ?_
      exact ev_rt rfl rfl rfl
    rw [if_neg w2]
    by_cases w3 : w = 3
    · obtain ⟨x, h', c3, q', f', few', st', ok'⟩ := c_stateOf q hE hs4 (hS _ hs4)
      have c4 := c_stsz st'.toR
      obtain ⟨fa, ft, gc, gs, gx, gp, tp, ls, qu, rk, q3⟩ := q.2.2.1
      obtain ⟨sp, sf, -, st1, -⟩ := st'
      refine ⟨h', pre h' _ (fun z => by rw [hd] at z; cases z) (fun _ => ?_), q', f', few'⟩
      clear pre
      subst w3
      rw [if_pos rfl]
      refine ev_sw rfl (pc' := 59) (by decide) rfl ?_
      iterate 1 (refine ev_st rfl rfl ?_)
      refine ev_getf rfl q.1 (by rfl) ?_
      iterate 2 (refine ev_st rfl rfl ?_)
      refine ev_getf rfl q.1 (by rfl) ?_
      refine ev_callV rfl rfl q3.c0 rfl c3 ?_
      refine ev_callV rfl rfl st1 rfl c4 ?_
      exact ev_rt rfl rfl rfl
    rw [if_neg w3]
    refine ⟨h, pre h _ (fun z => by rw [hd] at z; cases z) (fun _ => ?_), q, clf.rf, few.rf⟩
    clear pre
    refine ev_sw rfl (pc' := 75) ?_ rfl ?_
    · have hq : w32 w = w := w32_id hw.1 hw.2
      rw [hq]
      simp only [ai_sw]
      rw [if_neg (by omega), if_neg (by omega), if_neg (by omega), if_neg (by omega)]
    · repeat (refine ev_st rfl rfl ?_)
      exact ev_rt rfl rfl rfl
end RD
