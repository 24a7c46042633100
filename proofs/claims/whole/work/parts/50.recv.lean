-- a server takes an event in: what stays right
theorem f_on_iff {f : Nat → Bool} {e y : Nat} : f_on f e y = true ↔ y = e ∨ f y = true := by
  rw [f_on_d]
  simp only [Bool.or_eq_true, decide_eq_true_eq]
theorem v_par_iff {E : EL} {n : Nat} {kn : Nat → Bool} : v_par E n kn = true ↔ ∀ p ∈ e_pa (E n), kn p = true := by
  unfold v_par
  rw [b_all_iff]
  constructor
  · intro h p hp
    obtain ⟨i, hi, rfl⟩ := mem_getD hp
    exact h i hi
  · intro h i hi
    exact h _ (getD_mem hi)
theorem m_head_iff {N : Nat} {E : EL} {kn : Nat → Bool} {y : Nat} : m_head N E kn y = true ↔ kn y = true ∧ ∀ x, x < N → kn x = true → y ∉ e_pa (E x) := by
  unfold m_head
  rw [Bool.and_eq_true, Bool.not_eq_true', ← Bool.not_eq_true, b_any_iff]
  constructor
  · rintro ⟨a, b⟩
    refine ⟨a, fun x hx hk hm => b ⟨x, hx, ?_⟩⟩
    rw [hk, List.contains_iff_mem.2 hm]
    rfl
  · rintro ⟨a, b⟩
    refine ⟨a, ?_⟩
    rintro ⟨x, hx, hc⟩
    rw [Bool.and_eq_true] at hc
    exact b x hx hc.1 (List.contains_iff_mem.1 hc.2)
-- all but the held that wait on i
def SOI (N : Nat) (E : EL) (i : Nat) (V : SV) : Prop := (∀ y, V.1 y = true → y < N) ∧ (∀ y, V.2.1 y = true → y < N) ∧ (∀ y, y < i → V.2.1 y = true → v_par E y V.1 = false) ∧ (∀ y, V.1 y = true → ∀ p ∈ e_pa (E y), V.1 p = true) ∧ V.2.2 = m_head N E V.1 ∧ ∀ y, V.1 y = true → V.2.1 y = false
theorem par_on {N : Nat} {E : EL} (hP : PW N E) {n y : Nat} (hy : y < N) (hyn : y ≤ n) {kn : Nat → Bool} : v_par E y (f_on kn n) = v_par E y kn := by
  apply Bool.eq_iff_iff.2
  rw [v_par_iff, v_par_iff]
  constructor
  · intro h p hp
    rcases f_on_iff.1 (h p hp) with z | z
    · have := (hP y hy).2 p hp
      omega
    · exact z
  · intro h p hp
    exact f_on_iff.2 (Or.inr (h p hp))
theorem learn_ok {N : Nat} {E : EL} (hP : PW N E) {i n : Nat} (hn : n < N) {kn hl hd : Nat → Bool} (q : SOI N E i (kn, hl, hd)) (hk : kn n = false) (hp : v_par E n kn = true) : (∀ y, f_on kn n y = true → y < N) ∧ (∀ y, f_on kn n y = true → ∀ p ∈ e_pa (E y), f_on kn n p = true) ∧ (v_learn E n (kn, hl, hd)).2.2 = m_head N E (f_on kn n) := by
  obtain ⟨q1, q2, q3, q4, q5, q6⟩ := q
  simp only at q1 q2 q3 q4 q5
  refine ⟨fun y hy => ?_, fun y hy p hpp => ?_, ?_⟩
  · rcases f_on_iff.1 hy with rfl | z
    · exact hn
    · exact q1 y z
  · rcases f_on_iff.1 hy with rfl | z
    · exact f_on_iff.2 (Or.inr (v_par_iff.1 hp p hpp))
    · exact f_on_iff.2 (Or.inr (q4 y z p hpp))
  · funext y
    unfold v_learn
    simp only
    rw [q5]
    apply Bool.eq_iff_iff.2
    rw [Bool.or_eq_true, decide_eq_true_eq, Bool.and_eq_true, Bool.not_eq_true', ← Bool.not_eq_true, List.contains_iff_mem, m_head_iff, m_head_iff]
    constructor
    · rintro (rfl | ⟨⟨a, b⟩, c⟩)
      · refine ⟨f_on_iff.2 (Or.inl rfl), fun x hx hkx hm => ?_⟩
        rcases f_on_iff.1 hkx with rfl | z
        · have := (hP _ hx).2 _ hm
          omega
        · have := q4 x z _ hm
          rw [hk] at this; cases this
      · refine ⟨f_on_iff.2 (Or.inr a), fun x hx hkx hm => ?_⟩
        rcases f_on_iff.1 hkx with rfl | z
        · exact c hm
        · exact b x hx z hm
    · rintro ⟨a, b⟩
      by_cases hyn : y = n
      · exact Or.inl hyn
      · right
        refine ⟨⟨(f_on_iff.1 a).resolve_left hyn, fun x hx hkx => b x hx (f_on_iff.2 (Or.inr hkx))⟩, b n hn (f_on_iff.2 (Or.inl rfl))⟩
theorem learn_soi {N : Nat} {E : EL} (hP : PW N E) {i n : Nat} (hn : n < N) (hin : i ≤ n + 1) {kn hl hl' hd : Nat → Bool} (q : SOI N E i (kn, hl, hd)) (hk : kn n = false) (hp : v_par E n kn = true) (hl1 : ∀ y, hl' y = true ↔ y ≠ n ∧ hl y = true) (hni : i = n + 1 ∨ i = n) : SOI N E (n + 1) (v_learn E n (kn, hl', hd)) := by
  obtain ⟨a, b, c⟩ := learn_ok hP hn q hk hp
  obtain ⟨q1, q2, q3, q4, q5, q6⟩ := q
  simp only at q1 q2 q3 q4 q5 q6
  refine ⟨a, fun y hy => q2 y ((hl1 y).1 hy).2, fun y hy hh => ?_, b, c, fun y hy => ?_⟩
  · have h1 := (hl1 y).1 hh
    show v_par E y (f_on kn n) = false
    rw [par_on hP (q2 y h1.2) (by omega)]
    exact q3 y (by omega) h1.2
  · show hl' y = false
    rw [← Bool.not_eq_true, hl1 y]
    rintro ⟨z1, z2⟩
    have hy : f_on kn n y = true := hy
    rcases f_on_iff.1 hy with z | z
    · exact z1 z
    · rw [q6 y z] at z2; cases z2
theorem rel1_ok {N : Nat} {E : EL} (hP : PW N E) {i : Nat} (hi : i < N) {T : SV × Nat} (q : SOI N E i T.1) : SOI N E (i + 1) (v_rel1 E i T).1 := by
  obtain ⟨⟨kn, hl, hd⟩, c⟩ := T
  cases hc : (hl i && v_par E i kn) with
  | false =>
    rw [v_rel1_f hc]
    obtain ⟨q1, q2, q3, q4, q5, q6⟩ := q
    refine ⟨q1, q2, fun y hy hh => ?_, q4, q5, q6⟩
    by_cases hyi : y = i
    · subst hyi
      simp only at hh
      rw [hh, Bool.true_and] at hc
      exact hc
    · exact q3 y (by omega) hh
  | true =>
    rw [v_rel1_t hc]
    rw [Bool.and_eq_true] at hc
    have hkn : kn i = false := by
      rw [← Bool.not_eq_true]
      intro hk
      have := q.2.2.2.2.2 i hk
      simp only at this
      rw [hc.1] at this; cases this
    exact learn_soi hP hi (by omega) q hkn hc.2 (fun y => f_off_iff) (Or.inr rfl)
theorem rel_ok {N : Nat} {E : EL} (hP : PW N E) : ∀ (k i : Nat) (T : SV × Nat), i + k = N → SOI N E i T.1 → SOI N E N (v_rel E k i T).1 := by
  intro k
  induction k with
  | zero =>
    intro i T hi q
    obtain rfl : i = N := by omega
    exact q
  | succ k ih =>
    intro i T hi q
    exact ih (i + 1) _ (by omega) (rel1_ok hP (by omega) q)
theorem SOK.soi {N : Nat} {E : EL} {V : SV} (q : SOK N E V) (i : Nat) : SOI N E i V := by
  obtain ⟨q1, q2, q3, q4, q5⟩ := q
  refine ⟨q1, q2, fun y _ hy => q3 y hy, q4, q5, fun y hy => ?_⟩
  rw [← Bool.not_eq_true]
  intro hh
  have h1 := q3 y hh
  rw [v_par_iff.2 (q4 y hy)] at h1
  cases h1
theorem SOI.sok {N : Nat} {E : EL} {V : SV} (q : SOI N E N V) : SOK N E V := by
  obtain ⟨q1, q2, q3, q4, q5, q6⟩ := q
  exact ⟨q1, q2, fun y hy => q3 y (q2 y hy) hy, q4, q5⟩
theorem recv_ok {N : Nat} {E : EL} (hP : PW N E) {n : Nat} (hn : n < N) {V : SV} (q : SOK N E V) : SOK N E (v_recv E N n V).1 := by
  unfold v_recv
  split
  · exact q
  · rename_i h1
    split
    · exact q
    · rename_i h2
      have h1 : V.1 n = false := by rw [← Bool.not_eq_true]; exact h1
      have h2 : V.2.1 n = false := by rw [← Bool.not_eq_true]; exact h2
      split
      · rename_i h3
        refine SOI.sok (rel_ok hP _ (n + 1) _ (by omega) ?_)
        obtain ⟨kn, hl, hd⟩ := V
        exact learn_soi hP hn (Nat.le_refl _) (q.soi (n + 1)) h1 h3 (fun y => ⟨fun z => ⟨fun w => (by
          subst w
          simp only at h2
          rw [h2] at z
          cases z), z⟩, fun z => z.2⟩) (Or.inl rfl)
      · rename_i h3
        split
        · exact q
        · obtain ⟨q1, q2, q3, q4, q5⟩ := q
          refine ⟨q1, fun y hy => ?_, fun y hy => ?_, q4, q5⟩
          · rcases f_on_iff.1 hy with rfl | z
            · exact hn
            · exact q2 y z
          · rcases f_on_iff.1 hy with rfl | z
            · rw [← Bool.not_eq_true]; exact h3
            · exact q3 y z
theorem recv_kn {N : Nat} {E : EL} {n : Nat} {V : SV} (h : v_learns E n V = false) : (v_recv E N n V).1.1 = V.1 := by
  unfold v_recv
  split
  · rfl
  · rename_i h1
    split
    · rfl
    · rename_i h2
      split
      · rename_i h3
        exfalso
        have h1 : V.1 n = false := by rw [← Bool.not_eq_true]; exact h1
        have h2 : V.2.1 n = false := by rw [← Bool.not_eq_true]; exact h2
        unfold v_learns at h
        rw [h1, h2, h3] at h
        cases h
      · split <;> rfl
def v_set (V : Nat → SV) (s : Nat) (W : SV) : Nat → SV := fun t => if t = s then W else V t
def d_deliver (N : Nat) (E : EL) (V : Nat → SV) (s e : Int) : (Nat → SV) × Int := if d_srv s then (if 0 ≤ e ∧ e < N then (v_set V s.toNat (v_recv E N e.toNat (V s.toNat)).1, (v_recv E N e.toNat (V s.toNat)).2) else (V, -2)) else (V, -1)
-- one event comes from one server to another
def d_sy1 (N : Nat) (E : EL) (f t n : Nat) (V : Nat → SV) : Nat → SV := bif (V f).1 n then v_set V t (v_recv E N n (V t)).1 else V
def d_sy (N : Nat) (E : EL) (f t : Nat) : Nat → Nat → (Nat → SV) → (Nat → SV)
  | 0, _, V => V
  | k + 1, n, V => d_sy N E f t k (n + 1) (d_sy1 N E f t n V)
def d_sync (N : Nat) (E : EL) (V : Nat → SV) (f t : Int) : (Nat → SV) × Int := if d_srv f && d_srv t then (d_sy N E f.toNat t.toNat N 0 V, (b_cnt 448 (d_sy N E f.toNat t.toNat N 0 V t.toNat).1 : Int) - (b_cnt 448 (V t.toNat).1 : Int)) else (V, -1)
def VOK (N : Nat) (E : EL) (V : Nat → SV) : Prop := ∀ s, s < 4 → SOK N E (V s)
theorem VOK.set {N : Nat} {E : EL} {V : Nat → SV} (q : VOK N E V) {s : Nat} {W : SV} (h : SOK N E W) : VOK N E (v_set V s W) := by
  intro t ht
  unfold v_set
  by_cases hts : t = s
  · rw [if_pos hts]; exact h
  · rw [if_neg hts]; exact q t ht
section DV
variable {h : AH} {B N : Nat} {E : EL} {V : Nat → SV} {ad : Nat → Nat}
theorem c_recv (q : cls h B N E V ad) (hE : EOK N E) (hS : VOK N E V) {s : Nat} (hs : s < 4) {n : Nat} (hn : n < N) : ∃ h', Em mServer_receive 0 [vR (B + 23 + 7 * s), vR (ad n), vR (B + 1)] h (some (.inl (v_recv E N n (V s)).2)) h' ∧ cls h' B N E (v_set V s (v_recv E N n (V s)).1) ad ∧ clf B h h' ∧ few 0 0 h h' := by
  obtain ⟨nw, hsv, hnw⟩ := q.2.2.2.2.2.1 s hs
  obtain ⟨h', c1, sv1, sm1⟩ := c_receive hsv q.2.2.2.2.2.2.1 q.2.1 hE.1 hE.2.2.1 (RW.ns hs) (by omega) (by omega) hn (fun y hy => by
    rw [← Bool.not_eq_true]
    intro hh
    have := (hS s hs).2.1 y hh
    have := hE.1
    omega)
  refine ⟨h', c1, ?_, clf_sm hs sm1, ⟨by rw [sm1.1]; omega, by rw [sm1.2.1]; omega⟩⟩
  refine q.sv (V' := v_set V s (v_recv E N n (V s)).1) hs sm1 (nw := bif v_learns E n (V s) then none else nw) ?_ (fun x hx => ?_) (fun t ht hts => ?_)
  · simp only [v_set, if_pos]
    exact sv1
  · simp only [v_set, if_pos]
    cases hl : v_learns E n (V s) with
    | true => rw [hl] at hx; cases hx
    | false =>
      rw [hl] at hx
      rw [recv_kn hl]
      exact (hnw x hx).fz (sm1.fz (RW.ns hs))
  · simp only [v_set, if_neg hts]
theorem c_deliver (q : cls h B N E V ad) (hE : EOK N E) (hS : VOK N E V) {s e : Int} (hs : InR s) (he : InR e) : ∃ h', Em mRF_deliver 2 [vR B, .inl s, .inl e] h (some (.inl (d_deliver N E V s e).2)) h' ∧ cls h' B N E (d_deliver N E V s e).1 ad ∧ clf B h h' ∧ few 0 0 h h' := by
  have c1 := c_serverOf q hs
  have c2 := c_findI q hE.1 he
  unfold d_deliver
  cases hd : d_srv s with
  | false =>
    rw [hd] at c1
    refine ⟨h, ?_, q, clf.rf, few.rf⟩
    show Ev tRF_deliver 0 [some (vR B), some (.inl s), some (.inl e), none, none] [] h _
    rw [if_neg (by simp)]
    iterate 2 (refine ev_st rfl rfl ?_)
    refine ev_callV rfl rfl q.1 rfl c1 ?_
    repeat (refine ev_st rfl rfl ?_)
    exact ev_rt rfl rfl rfl
  | true =>
    rw [hd] at c1
    rw [if_pos rfl]
    have hs4 := d_srv_lt hd
    by_cases hz : 0 ≤ e ∧ e < N
    · rw [if_pos hz] at c2 ⊢
      obtain ⟨h', c3, q', f', few'⟩ := c_recv q hE hS hs4 (n := e.toNat) (by omega)
      refine ⟨h', ?_, q', f', few'⟩
      obtain ⟨nw, ⟨gk, gh, gd, hsv, -⟩, -⟩ := q.2.2.2.2.2.1 _ hs4
      show Ev tRF_deliver 0 [some (vR B), some (.inl s), some (.inl e), none, none] [] h _
      iterate 2 (refine ev_st rfl rfl ?_)
      refine ev_callV rfl rfl q.1 rfl c1 ?_
      rw [if_pos rfl]
      repeat (refine ev_st rfl rfl ?_)
      refine ev_getf rfl q.1 (by rfl) ?_
      iterate 1 (refine ev_st rfl rfl ?_)
      refine ev_callV rfl rfl q.2.1.1 rfl c2 ?_
      repeat (refine ev_st rfl rfl ?_)
      refine ev_getf rfl q.1 (by rfl) ?_
      refine ev_callV rfl rfl hsv.1 rfl c3 ?_
      exact ev_rt rfl rfl rfl
    · rw [if_neg hz] at c2 ⊢
      refine ⟨h, ?_, q, clf.rf, few.rf⟩
      show Ev tRF_deliver 0 [some (vR B), some (.inl s), some (.inl e), none, none] [] h _
      iterate 2 (refine ev_st rfl rfl ?_)
      refine ev_callV rfl rfl q.1 rfl c1 ?_
      rw [if_pos rfl]
      repeat (refine ev_st rfl rfl ?_)
      refine ev_getf rfl q.1 (by rfl) ?_
      iterate 1 (refine ev_st rfl rfl ?_)
      refine ev_callV rfl rfl q.2.1.1 rfl c2 ?_
      repeat (refine ev_st rfl rfl ?_)
      exact ev_rt rfl rfl rfl
end DV
theorem sy1_ok {N : Nat} {E : EL} {V : Nat → SV} (hP : PW N E) (q : VOK N E V) {f t n : Nat} (ht : t < 4) (hn : n < N) : VOK N E (d_sy1 N E f t n V) := by
  unfold d_sy1
  cases (V f).1 n with
  | false => exact q
  | true => exact q.set (recv_ok hP hn (q t ht))
theorem sy_ok {N : Nat} {E : EL} (hP : PW N E) {f t : Nat} (ht : t < 4) : ∀ (k n : Nat) (V : Nat → SV), n + k = N → VOK N E V → VOK N E (d_sy N E f t k n V) := by
  intro k
  induction k with
  | zero => intro n V _ q; exact q
  | succ k ih =>
    intro n V hn q
    exact ih (n + 1) _ (by omega) (sy1_ok hP q ht (by omega))
set_option maxHeartbeats 4000000 in
theorem l_sync {B N : Nat} {E : EL} {ad : Nat → Nat} (hE : EOK N E) {f t : Nat} (hf : f < 4) (ht : t < 4) {K : Nat} (hK : K ≤ 448) {j1 j2 : Option AV} : ∀ (k i : Nat) (h : AH) (V : Nat → SV) (j7 : Option AV), i + k = N → cls h B N E V ad → VOK N E V → ∃ h', Ev tRF_sync 34 [some (vR B), j1, j2, some (vR (B + 23 + 7 * f)), some (vR (B + 23 + 7 * t)), some (.inl (K : Int)), some (.inl (i : Int)), j7] [] h (some (.inl ((b_cnt 448 (d_sy N E f t k i V t).1 : Int) - (K : Int))), h') ∧ cls h' B N E (d_sy N E f t k i V) ad ∧ clf B h h' ∧ few 0 0 h h' := by
  have hN := hE.1
  intro k
  induction k with
  | zero =>
    intro i h V j7 hi q hV
    obtain ⟨nw, ⟨gk, gh, gd, hsv, e1, -⟩, -⟩ := q.2.2.2.2.2.1 _ ht
    have ck := c_knownCount hsv
    rw [e1] at ck
    refine ⟨h, ?_, q, clf.rf, few.rf⟩
    have hle : b_cnt 448 (V t).1 ≤ 448 := b_cnt_le _ _
    simp only [d_sy]
    generalize b_cnt 448 (V t).1 = X at *
    iterate 2 (refine ev_st rfl rfl ?_)
    refine ev_getf rfl q.1 (by rfl) ?_
    refine ev_callV rfl rfl q.2.1.1 rfl (c_lsize q.2.1.1) ?_
    refine ev_icT rfl (by simp only [ick, w32]; omega) ?_
    iterate 1 (refine ev_st rfl rfl ?_)
    refine ev_callV rfl rfl hsv.1 rfl ck ?_
    repeat (refine ev_st rfl rfl ?_)
    exact ev_rt rfl rfl rfl
  | succ k ih =>
    intro i h V j7 hi q hV
    have cf := c_find q.2.1 hN (n := i) (by omega)
    obtain ⟨nw, ⟨gk, gh, gd, hsv, e1, -⟩, -⟩ := q.2.2.2.2.2.1 _ hf
    have ch := c_hasKnown hsv (n := (i : Int)) (by unfold InR; omega)
    rw [e1, decide_eq_true (show 0 ≤ (i : Int) ∧ (i : Int) < 400 by omega), Bool.true_and, Int.toNat_natCast] at ch
    cases hk : (V f).1 i with
    | false =>
      have hs1 : d_sy1 N E f t i V = V := by unfold d_sy1; rw [hk]; rfl
      obtain ⟨h', ih, ih2⟩ := ih (i + 1) h V (some (vR (ad i))) (by omega) q hV
      simp only [d_sy, hs1]
      refine ⟨h', ?_, ih2⟩
      rw [hk] at ch
      iterate 2 (refine ev_st rfl rfl ?_)
      refine ev_getf rfl q.1 (by rfl) ?_
      refine ev_callV rfl rfl q.2.1.1 rfl (c_lsize q.2.1.1) ?_
      refine ev_icF rfl (by simp only [ick, w32]; omega) ?_
      iterate 1 (refine ev_st rfl rfl ?_)
      refine ev_getf rfl q.1 (by rfl) ?_
      iterate 1 (refine ev_st rfl rfl ?_)
      refine ev_callV rfl rfl q.2.1.1 rfl cf ?_
      iterate 2 (refine ev_st rfl rfl ?_)
      refine ev_nF rfl (fun z => by cases z) ?_
      iterate 2 (refine ev_st rfl rfl ?_)
      refine ev_callV rfl rfl hsv.1 rfl ch ?_
      refine ev_zeqT rfl rfl ?_
      iterate 2 (refine ev_st rfl rfl ?_)
      rw [nat_1]
      exact ih
    | true =>
      have hs1 : d_sy1 N E f t i V = v_set V t (v_recv E N i (V t)).1 := by unfold d_sy1; rw [hk]; rfl
      obtain ⟨h1, c1, q1, f1, few1⟩ := c_recv q hE hV ht (n := i) (by omega)
      obtain ⟨h', ih, ih2, ih3, ih4⟩ := ih (i + 1) h1 _ (some (vR (ad i))) (by omega) q1 (hV.set (recv_ok hE.2.2.1 (by omega) (hV t ht)))
      simp only [d_sy, hs1]
      refine ⟨h', ?_, ih2, f1.tr ih3, few1.tr ih4⟩
      rw [hk] at ch
      obtain ⟨nw', ⟨gk', gh', gd', hsv', -⟩, -⟩ := q.2.2.2.2.2.1 _ ht
      iterate 2 (refine ev_st rfl rfl ?_)
      refine ev_getf rfl q.1 (by rfl) ?_
      refine ev_callV rfl rfl q.2.1.1 rfl (c_lsize q.2.1.1) ?_
      refine ev_icF rfl (by simp only [ick, w32]; omega) ?_
      iterate 1 (refine ev_st rfl rfl ?_)
      refine ev_getf rfl q.1 (by rfl) ?_
      iterate 1 (refine ev_st rfl rfl ?_)
      refine ev_callV rfl rfl q.2.1.1 rfl cf ?_
      iterate 2 (refine ev_st rfl rfl ?_)
      refine ev_nF rfl (fun z => by cases z) ?_
      iterate 2 (refine ev_st rfl rfl ?_)
      refine ev_callV rfl rfl hsv.1 rfl ch ?_
      refine ev_zeqF rfl rfl ?_
      iterate 3 (refine ev_st rfl rfl ?_)
      refine ev_getf rfl q.1 (by rfl) ?_
      refine ev_callV rfl rfl hsv'.1 rfl c1 ?_
      iterate 3 (refine ev_st rfl rfl ?_)
      rw [nat_1]
      exact ih
set_option maxHeartbeats 4000000 in
theorem c_sync {h : AH} {B N : Nat} {E : EL} {V : Nat → SV} {ad : Nat → Nat} (q : cls h B N E V ad) (hE : EOK N E) (hS : VOK N E V) {f t : Int} (hf : InR f) (ht : InR t) : ∃ h', Em mRF_sync 5 [vR B, .inl f, .inl t] h (some (.inl (d_sync N E V f t).2)) h' ∧ cls h' B N E (d_sync N E V f t).1 ad ∧ clf B h h' ∧ few 0 0 h h' := by
  have c1 := c_serverOf q hf
  have c2 := c_serverOf q ht
  unfold d_sync
  cases hd : d_srv f with
  | false =>
    rw [hd] at c1
    refine ⟨h, ?_, q, clf.rf, few.rf⟩
    show Ev tRF_sync 0 [some (vR B), some (.inl f), some (.inl t), none, none, none, none, none] [] h _
    rw [if_neg (by simp)]
    iterate 2 (refine ev_st rfl rfl ?_)
    refine ev_callV rfl rfl q.1 rfl c1 ?_
    iterate 3 (refine ev_st rfl rfl ?_)
    refine ev_callV rfl rfl q.1 rfl c2 ?_
    repeat (refine ev_st rfl rfl ?_)
    exact ev_rt rfl rfl rfl
  | true =>
    rw [hd] at c1
    cases hd2 : d_srv t with
    | false =>
      rw [hd2] at c2
      refine ⟨h, ?_, q, clf.rf, few.rf⟩
      show Ev tRF_sync 0 [some (vR B), some (.inl f), some (.inl t), none, none, none, none, none] [] h _
      rw [if_neg (by simp)]
      iterate 2 (refine ev_st rfl rfl ?_)
      refine ev_callV rfl rfl q.1 rfl c1 ?_
      iterate 3 (refine ev_st rfl rfl ?_)
      refine ev_callV rfl rfl q.1 rfl c2 ?_
      repeat (refine ev_st rfl rfl ?_)
      exact ev_rt rfl rfl rfl
    | true =>
      rw [hd2] at c2
      rw [if_pos (show (true && true) = true from rfl)]
      have hf4 := d_srv_lt hd
      have ht4 := d_srv_lt hd2
      obtain ⟨nw, ⟨gk, gh, gd, hsv, e1, -⟩, -⟩ := q.2.2.2.2.2.1 _ ht4
      have ck := c_knownCount hsv
      rw [e1] at ck
      obtain ⟨h', hE', r⟩ := l_sync (j1 := some (.inl f)) (j2 := some (.inl t)) hE hf4 ht4 (K := b_cnt 448 (V t.toNat).1) (b_cnt_le _ _) N 0 h V none (Nat.zero_add _) q hS
      refine ⟨h', ?_, r⟩
      show Ev tRF_sync 0 [some (vR B), some (.inl f), some (.inl t), none, none, none, none, none] [] h _
      generalize b_cnt 448 (V t.toNat).1 = X at *
      iterate 2 (refine ev_st rfl rfl ?_)
      refine ev_callV rfl rfl q.1 rfl c1 ?_
      iterate 3 (refine ev_st rfl rfl ?_)
      refine ev_callV rfl rfl q.1 rfl c2 ?_
      iterate 2 (refine ev_st rfl rfl ?_)
      refine ev_nF rfl (fun z => by cases z) ?_
      iterate 1 (refine ev_st rfl rfl ?_)
      refine ev_nnT rfl (fun z => by cases z) ?_
      iterate 1 (refine ev_st rfl rfl ?_)
      refine ev_callV rfl rfl hsv.1 rfl ck ?_
      iterate 3 (refine ev_st rfl rfl ?_)
      exact hE'
