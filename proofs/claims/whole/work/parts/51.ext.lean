-- a later event changes nothing of what was
def agE (N : Nat) (E E' : EL) : Prop := ∀ n, n < N → E' n = E n
section EX
variable {N : Nat} {E E' : EL}
theorem x_at (ag : agE N E E') {σ : SS} (h : sOK N E σ) {p : Nat} (hp : 0 ≤ σ p) : E' (σ p).toNat = E (σ p).toNat := by
  rcases h.at p with z | ⟨n, z1, z2, -⟩
  · omega
  · rw [z2, Int.toNat_natCast]; exact ag n z1
theorem x_ok (ag : agE N E E') {σ : SS} (h : sOK N E σ) : sOK N E' σ := by
  refine ⟨fun p hp => ?_, h.2⟩
  rcases h.1 p hp with z | ⟨z1, z2, z3⟩
  · exact Or.inl z
  · exact Or.inr ⟨z1, z2, by rw [x_at ag h z1]; exact z3⟩
theorem x_lev (ag : agE N E E') {σ : SS} (h : sOK N E σ) (u : Int) : m_lev E' σ u = m_lev E σ u := by
  unfold m_lev
  by_cases h1 : 0 ≤ σ 13
  · rw [if_pos h1, if_pos h1, x_at ag h h1]
  · rw [if_neg h1, if_neg h1]
    by_cases h2 : 0 ≤ σ 0
    · rw [x_at ag h h2]
    · rw [if_neg (fun z => h2 z.1), if_neg (fun z => h2 z.1)]
theorem x_mem (ag : agE N E E') {σ : SS} (h : sOK N E σ) (u : Int) : m_mem E' σ u = m_mem E σ u := by
  unfold m_mem
  by_cases h1 : σ (1 + u.toNat) < 0
  · rw [if_pos h1, if_pos h1]
  · rw [if_neg h1, if_neg h1, x_at ag h (by omega)]
theorem x_allow (ag : agE N E E') {σ : SS} (h : sOK N E σ) (x : ED) : m_allow E' x σ = m_allow E x σ := by
  unfold m_allow
  by_cases h0 : σ 0 < 0
  · rw [if_pos h0, if_pos h0]
  · rw [if_neg h0, if_neg h0]
    have hm : m_member E' x σ = m_member E x σ := by
      unfold m_member m_join m_above
      rw [x_at ag h (show 0 ≤ σ 0 by omega)]
      simp only [x_mem ag h, x_lev ag h]
      by_cases h14 : σ 14 < 0
      · simp only [decide_eq_true h14, Bool.true_or]
      · rw [x_at ag h (show 0 ≤ σ 14 by omega)]
    have hl : m_levels E' x σ = m_levels E x σ := by
      unfold m_levels
      simp only [x_lev ag h]
    rw [hm, hl, x_mem ag h, x_lev ag h]
theorem x_ch (ag : agE N E E') {σ : SS} (h : sOK N E σ) : m_ch E' σ = m_ch E σ := by
  funext y
  unfold m_ch
  congr 1
  funext p
  by_cases h1 : 0 ≤ σ p
  · rw [x_at ag h h1]
  · rw [decide_eq_false h1, Bool.false_and, Bool.false_and]
theorem x_bh (ag : agE N E E') {n : Nat} (hn : n < N) : e_bh E' n = e_bh E n := by
  unfold e_bh
  rw [ag n hn]
theorem x_agr (ag : agE N E E') {L : List Nat} (hl : ∀ n ∈ L, n < N) : r_agr E' L = r_agr E L := by
  cases L with
  | nil => rfl
  | cons i r =>
    funext p
    simp only [r_agr]
    rw [x_bh ag (hl i List.mem_cons_self)]
    congr 1
    apply Bool.eq_iff_iff.2
    rw [List.all_eq_true, List.all_eq_true]
    constructor
    · intro h j hj
      have := h j hj
      rw [x_bh ag (hl j (List.mem_cons_of_mem _ hj))] at this
      exact this
    · intro h j hj
      rw [x_bh ag (hl j (List.mem_cons_of_mem _ hj))]
      exact h j hj
theorem x_full (ag : agE N E E') (hB : BW N E) {i : Nat} (hi : i < N) : r_full E' i = r_full E i := by
  unfold r_full
  rw [x_bh ag hi]
  exact x_ch ag (hB i hi)
theorem x_conf (ag : agE N E E') (hB : BW N E) {L : List Nat} (hl : ∀ n ∈ L, n < N) : r_conf E' L = r_conf E L := by
  funext y
  unfold r_conf
  rw [x_agr ag hl]
  have any_eq : ∀ (f g : Nat → Bool), (∀ i ∈ L, f i = g i) → L.any f = L.any g := by
    intro f g h
    apply Bool.eq_iff_iff.2
    rw [List.any_eq_true, List.any_eq_true]
    constructor
    · rintro ⟨i, hi, hf⟩; exact ⟨i, hi, by rw [← h i hi]; exact hf⟩
    · rintro ⟨i, hi, hf⟩; exact ⟨i, hi, by rw [h i hi]; exact hf⟩
  rw [any_eq _ (fun i => b_any 23 fun p => decide (e_bh E i p = y) && decide (r_agr E L p < 0)) (fun i hi => by rw [x_bh ag (hl i hi)]), any_eq (fun i => r_full E' i y) (fun i => r_full E i y) (fun i hi => by rw [x_full ag hB (hl i hi)]), any_eq (fun i => !r_full E' i y) (fun i => !r_full E i y) (fun i hi => by rw [x_full ag hB (hl i hi)])]
theorem any_up {f g : Nat → Bool} (h : ∀ i, i < N → f i = g i) (h1 : f N = false) : b_any (N + 1) f = b_any N g := by
  apply Bool.eq_iff_iff.2
  rw [b_any_iff, b_any_iff]
  constructor
  · rintro ⟨i, hi, hf⟩
    by_cases hiN : i = N
    · subst hiN; rw [h1] at hf; cases hf
    · exact ⟨i, by omega, by rw [← h i (by omega)]; exact hf⟩
  · rintro ⟨i, hi, hf⟩
    exact ⟨i, by omega, by rw [h i hi]; exact hf⟩
theorem all_up {f g : Nat → Bool} (h : ∀ i, i < N → f i = g i) (h1 : f N = true) : b_all (N + 1) f = b_all N g := by
  apply Bool.eq_iff_iff.2
  rw [b_all_iff, b_all_iff]
  constructor
  · intro hf i hi
    rw [← h i hi]; exact hf i (by omega)
  · intro hg i hi
    by_cases hiN : i = N
    · subst hiN; exact h1
    · rw [h i (by omega)]; exact hg i (by omega)
theorem x_pow (ag : agE N E E') {cf : Nat → Bool} (hc : cf N = false) : r_pow (N + 1) E' cf = r_pow N E cf := by
  funext y
  unfold r_pow
  congr 1
  exact any_up (fun i hi => by rw [ag i hi]) (by rw [hc]; rfl)
theorem x_old (ag : agE N E E') {e f : Nat} (he : e < N) (hf : f < N) : r_old E' e f = r_old E e f := by
  unfold r_old
  rw [ag e he, ag f hf]
theorem x_first (ag : agE N E E') (hO : OL N E) {e f : Nat} (he : e < N) (hf : f < N) : r_first E' e f = r_first E e f := by
  unfold r_first e_sl
  rw [x_old ag he hf, ag e he, ag f hf, x_lev ag (hO.ow e he), x_lev ag (hO.ow f hf)]
theorem x_free (ag : agE N E E') {pw : Nat → Bool} (hp : pw N = false) {e : Nat} (he : e < N) : r_free (N + 1) E' pw e = r_free N E pw e := by
  unfold r_free
  rw [ag e he]
  exact all_up (fun i hi => rfl) (by rw [hp]; rfl)
theorem x_best1 (ag : agE N E E') (hN : N ≤ 400) (hO : OL N E) {pw : Nat → Bool} (hp : pw N = false) : r_best1 (N + 1) E' pw (N + 1) = r_best1 N E pw N := by
  have key : ∀ k, k ≤ N → r_best1 (N + 1) E' pw k = r_best1 N E pw k := by
    intro k
    induction k with
    | zero => intro _; rfl
    | succ k ih =>
      intro hk
      simp only [r_best1]
      rw [ih (by omega), x_free ag hp (by omega)]
      cases hb : r_best1 N E pw k with
      | none => rfl
      | some f =>
        have hf := (best1_some (by omega) hb).1
        simp only
        rw [x_first ag hO (by omega) (by omega)]
  rw [← key N (Nat.le_refl _)]
  show (bif pw N && _ then _ else _) = _
  rw [hp]
  rfl
theorem x_q1 (ag : agE N E E') (hN : N ≤ 400) (hO : OL N E) : ∀ (n : Nat) (pw : Nat → Bool), pw N = false → r_q1 (N + 1) E' n pw = r_q1 N E n pw := by
  intro n
  induction n with
  | zero => intro pw _; rfl
  | succ n ih =>
    intro pw hp
    simp only [r_q1]
    rw [x_best1 ag hN hO hp]
    cases r_best1 N E pw N with
    | none => rfl
    | some e =>
      simp only
      rw [ih (f_off pw e) (by
        rw [← Bool.not_eq_true, f_off_iff, hp]
        rintro ⟨-, z⟩; cases z)]
theorem x_try (ag : agE N E E') (hW : WE N E) (hO : OL N E) {s : SS} (hs : sOK N E s) {e : Nat} (he : e < N) : r_try E' s e = r_try E s e := by
  unfold r_try
  rw [ag e he]
  have := x_allow ag (over_ok hs (hO.ow e he)) (E e)
  unfold s_over at this
  rw [this]
theorem x_fold (ag : agE N E E') (hW : WE N E) (hO : OL N E) : ∀ (Q : List Nat) (s : SS), sOK N E s → (∀ n ∈ Q, n < N ∧ ¬ e_kd (E n) = 5) → Q.foldl (r_try E') s = Q.foldl (r_try E) s := by
  intro Q
  induction Q with
  | nil => intro s _ _; rfl
  | cons x r ih =>
    intro s hs hQ
    obtain ⟨a, b⟩ := hQ x List.mem_cons_self
    rw [List.foldl_cons, List.foldl_cons, x_try ag hW hO hs a]
    exact ih _ (try_ok hs a hW b) (fun n hn => hQ n (List.mem_cons_of_mem _ hn))
theorem x_main (ag : agE N E E') (hO : OL N E) : ∀ (k : Nat) (x : Int), x = -1 ∨ (∃ n, n < N ∧ x = (n : Int)) → r_main E' k x = r_main E k x := by
  intro k
  induction k with
  | zero => intro x _; rfl
  | succ k ih =>
    intro x hx
    simp only [r_main]
    rcases hx with rfl | ⟨n, hn, rfl⟩
    · rfl
    · rw [if_neg (by omega), if_neg (by omega), Int.toNat_natCast, ag n hn, ih _ (by
        rcases (hO.ow n hn).at 13 with z | ⟨m, z1, z2, -⟩
        · exact Or.inl z
        · exact Or.inr ⟨m, z1, z2⟩)]
theorem x_plc (ag : agE N E E') (hO : OL N E) {ml : List Nat} : ∀ (k : Nat) (x : Int), x = -1 ∨ (∃ n, n < N ∧ x = (n : Int)) → r_plc E' ml k x = r_plc E ml k x := by
  intro k
  induction k with
  | zero => intro x _; rfl
  | succ k ih =>
    intro x hx
    simp only [r_plc]
    rcases hx with rfl | ⟨n, hn, rfl⟩
    · rfl
    · rw [if_neg (by omega), if_neg (by omega), Int.toNat_natCast, ag n hn, ih _ (by
        rcases (hO.ow n hn).at 13 with z | ⟨m, z1, z2, -⟩
        · exact Or.inl z
        · exact Or.inr ⟨m, z1, z2⟩)]
theorem x_mp (ag : agE N E E') (hO : OL N E) {ml : List Nat} {e : Nat} (he : e < N) : r_mp E' ml e = r_mp E ml e := by
  unfold r_mp
  rw [ag e he]
  refine x_plc ag hO 401 _ ?_
  by_cases hk : e_kd (E e) = 2
  · rw [if_pos hk]; exact Or.inr ⟨e, he, rfl⟩
  · rw [if_neg hk]
    rcases (hO.ow e he).at 13 with z | ⟨m, z1, z2, -⟩
    · exact Or.inl z
    · exact Or.inr ⟨m, z1, z2⟩
theorem x_best2 (ag : agE N E E') (hN : N ≤ 400) (hO : OL N E) {ml : List Nat} {cf : Nat → Bool} (hc : cf N = false) : r_best2 E' ml cf (N + 1) = r_best2 E ml cf N := by
  have key : ∀ k, k ≤ N → r_best2 E' ml cf k = r_best2 E ml cf k := by
    intro k
    induction k with
    | zero => intro _; rfl
    | succ k ih =>
      intro hk
      simp only [r_best2]
      rw [ih (by omega)]
      cases hb : r_best2 E ml cf k with
      | none => rfl
      | some f =>
        have hf := (best2_some (by omega) hb).1
        simp only
        unfold r_sec
        rw [x_mp ag hO (by omega), x_mp ag hO (by omega), x_old ag (by omega) (by omega)]
  rw [← key N (Nat.le_refl _)]
  show (bif cf N && _ then _ else _) = _
  rw [hc]
  rfl
theorem x_ord2 (ag : agE N E E') (hN : N ≤ 400) (hW : WE N E) (hO : OL N E) {ml : List Nat} : ∀ (n : Nat) (cf : Nat → Bool) (s : SS), sOK N E s → (∀ y, cf y = true → y < N ∧ ¬ e_kd (E y) = 5) → r_ord2 (N + 1) E' ml n cf s = r_ord2 N E ml n cf s := by
  intro n
  induction n with
  | zero => intro cf s _ _; rfl
  | succ n ih =>
    intro cf s hs hc
    have hcN : cf N = false := by
      rw [← Bool.not_eq_true]
      intro z
      have := (hc N z).1
      omega
    simp only [r_ord2]
    rw [x_best2 ag hN hO hcN]
    cases hb : r_best2 E ml cf N with
    | none => rfl
    | some e =>
      obtain ⟨a, b⟩ := hc e (best2_some hN hb).2.1
      simp only
      rw [x_try ag hW hO hs a]
      exact ih _ _ (try_ok hs a hW b) (fun y hy => hc y (f_off_iff.1 hy).2)
theorem ord2_fuel (hN : N ≤ 400) {ml : List Nat} : ∀ (n : Nat) (cf : Nat → Bool) (s : SS), b_cnt N cf ≤ n → r_ord2 N E ml n cf s = r_ord2 N E ml (n + 1) cf s := by
  intro n
  induction n with
  | zero =>
    intro cf s hc
    simp only [r_ord2]
    cases hb : r_best2 E ml cf N with
    | none => rfl
    | some e =>
      obtain ⟨a, b, -⟩ := best2_some hN hb
      rw [cnt_0 (pw := cf) (N := N) (by omega) e a] at b
      cases b
  | succ n ih =>
    intro cf s hc
    rw [show r_ord2 N E ml (n + 1) cf s = (match r_best2 E ml cf N with | none => s | some e => r_ord2 N E ml n (f_off cf e) (r_try E s e)) from rfl, show r_ord2 N E ml (n + 1 + 1) cf s = (match r_best2 E ml cf N with | none => s | some e => r_ord2 N E ml (n + 1) (f_off cf e) (r_try E s e)) from rfl]
    cases hb : r_best2 E ml cf N with
    | none => rfl
    | some e =>
      obtain ⟨a, b, -⟩ := best2_some hN hb
      simp only
      refine ih _ _ ?_
      have := cnt_off (N := N) b a
      omega
theorem res_ext (ag : agE N E E') (hE : EOK N E) {L : List Nat} (hl : ∀ n ∈ L, n < N) : r_res (N + 1) E' L = r_res N E L := by
  have hB := hE.bw
  obtain ⟨hN, hW, hP, hC, hO, hBf⟩ := id hE
  unfold r_res
  rw [x_agr ag hl]
  by_cases h2 : L.length < 2
  · rw [if_pos h2, if_pos h2]
  · rw [if_neg h2, if_neg h2, x_conf ag hB hl]
    have hcN : r_conf E L N = false := by
      rw [← Bool.not_eq_true]
      intro z
      have := (conf_ok hB hC hl z).1
      omega
    rw [x_pow ag hcN, ord1_fold, ord1_fold]
    have hpN : ∀ y, N ≤ y → r_pow N E (r_conf E L) y = false := by
      intro y hy
      rw [← Bool.not_eq_true]
      intro z
      have := (conf_ok hB hC hl (pow_ok z)).1
      omega
    have hq : r_q1 (N + 1) E' (N + 1) (r_pow N E (r_conf E L)) = r_q1 N E N (r_pow N E (r_conf E L)) := by
      rw [x_q1 ag hN hO _ _ (hpN N (Nat.le_refl _))]
      have hle := b_cnt_le (r_pow N E (r_conf E L)) N
      rw [(q1_all hN hC.cw (N + 1) _ hpN (by omega)).2, (q1_all hN hC.cw N _ hpN hle).2]
    have hQ : ∀ n ∈ r_q1 N E N (r_pow N E (r_conf E L)), n < N ∧ ¬ e_kd (E n) = 5 := fun n hn => conf_ok hB hC hl (pow_ok (q1_sub hN _ _ n hn))
    rw [hq, x_fold ag hW hO _ _ (agr_ok hB hl) hQ]
    simp only
    have ok1 := fold_ok hW _ _ (agr_ok hB hl) hQ
    generalize (r_q1 N E N (r_pow N E (r_conf E L))).foldl (r_try E) (r_agr E L) = σ1 at *
    generalize hcf : (fun y => r_conf E L y && !(r_q1 N E N (r_pow N E (r_conf E L))).contains y) = cf
    have hcf2 : ∀ y, cf y = true → y < N ∧ ¬ e_kd (E y) = 5 := by
      intro y hy
      rw [← hcf] at hy
      simp only [Bool.and_eq_true] at hy
      exact conf_ok hB hC hl hy.1
    rw [x_main ag hO 401 _ (by
      rcases ok1.at 13 with z | ⟨m, z1, z2, -⟩
      · exact Or.inl z
      · exact Or.inr ⟨m, z1, z2⟩), x_ord2 ag hN hW hO _ _ _ ok1 hcf2, ← ord2_fuel hN N cf σ1 (b_cnt_le _ _)]
theorem x_head (ag : agE N E E') {kn : Nat → Bool} (hk : ∀ y, kn y = true → y < N) : m_head (N + 1) E' kn = m_head N E kn := by
  have hkN : kn N = false := by
    rw [← Bool.not_eq_true]
    intro z
    have := hk N z
    omega
  funext y
  unfold m_head
  congr 2
  exact any_up (fun i hi => by rw [ag i hi]) (by rw [hkN]; rfl)
theorem x_heads (ag : agE N E E') {kn : Nat → Bool} (hk : ∀ y, kn y = true → y < N) : m_heads (N + 1) E' kn = m_heads N E kn := by
  unfold m_heads
  rw [x_head ag hk, List.range_succ, List.filter_append]
  have : m_head N E kn N = false := by
    rw [← Bool.not_eq_true]
    intro z
    have := hk N (m_head_iff.1 z).1
    omega
  simp [this]
theorem heads_lt {kn : Nat → Bool} : ∀ n ∈ m_heads N E kn, n < N := by
  intro n hn
  unfold m_heads at hn
  exact List.mem_range.1 (List.mem_filter.1 hn).1
theorem x_state (ag : agE N E E') (hE : EOK N E) {kn : Nat → Bool} (hk : ∀ y, kn y = true → y < N) : m_state (N + 1) E' kn = m_state N E kn := by
  unfold m_state
  rw [x_heads ag hk]
  exact res_ext ag hE heads_lt
theorem x_SOK (ag : agE N E E') (hE : EOK N E) {V : SV} (q : SOK N E V) : SOK (N + 1) E' V := by
  obtain ⟨q1, q2, q3, q4, q5⟩ := q
  refine ⟨fun y hy => Nat.lt_succ_of_lt (q1 y hy), fun y hy => Nat.lt_succ_of_lt (q2 y hy), fun y hy => ?_, fun y hy p hp => ?_, ?_⟩
  · have := q3 y hy
    unfold v_par at this ⊢
    rw [ag y (q2 y hy)]
    exact this
  · rw [ag y (q1 y hy)] at hp
    exact q4 y hy p hp
  · rw [q5, x_head ag q1]
theorem x_EOK (ag : agE N E E') (hE : EOK N E) (hN : N < 400) (w1 : wfE (E' N)) (w2 : (e_pa (E' N)).length ≤ 4 ∧ ∀ p ∈ e_pa (E' N), p < N) (w3 : ∀ y, e_ch (E' N) y = true → y < N ∧ ¬ e_kd (E y) = 5) (w4 : sOK N E (e_ow (E' N))) (w5 : sOK N E (e_bf (E' N))) : EOK (N + 1) E' := by
  obtain ⟨-, hW, hP, hC, hO, hBf⟩ := id hE
  have sub : ∀ {n : Nat} {σ : SS}, n ≤ N → sOK n E σ → sOK n E' σ := by
    intro n σ hn hs
    exact x_ok (N := n) (fun m hm => ag m (by omega)) hs
  refine ⟨by omega, fun n hn => ?_, fun n hn => ?_, fun n hn y hy => ?_, fun n hn => ?_, fun n hn => ?_⟩ <;> by_cases hnN : n = N
  · subst hnN; exact w1
  · rw [ag n (by omega)]; exact hW n (by omega)
  · subst hnN; exact w2
  · rw [ag n (by omega)]; exact hP n (by omega)
  · subst hnN
    obtain ⟨a, b⟩ := w3 y hy
    exact ⟨a, by rw [ag y a]; exact b⟩
  · rw [ag n (by omega)] at hy
    obtain ⟨a, b⟩ := hC n (by omega) y hy
    exact ⟨a, by rw [ag y (by omega)]; exact b⟩
  · subst hnN; exact sub (Nat.le_refl _) w4
  · rw [ag n (by omega)]; exact sub (by omega) (hO n (by omega))
  · subst hnN; exact sub (Nat.le_refl _) w5
  · rw [ag n (by omega)]; exact sub (by omega) (hBf n (by omega))
end EX
