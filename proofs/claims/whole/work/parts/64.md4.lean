-- the reference: what stays; need, findNeeded
def wd : Nat → Nat
  | 5 => 4
  | 7 => 6
  | 9 => 12
  | 10 => 400
  | 12 => 23
  | 13 => 23
  | _ => 1
def kp (N : Nat) (C C' : RM) : Prop := (∀ i, i < 14 → ∀ j, j < wd i * N → C'.1 i j = C.1 i j) ∧ (∀ i, 14 ≤ i → i ≤ 17 → C'.1 i = C.1 i) ∧ C'.2.1 = C.2.1
theorem kp.rf {N : Nat} {C : RM} : kp N C C := ⟨fun _ _ _ _ => rfl, fun _ _ _ => rfl, rfl⟩
theorem kp.tr {N : Nat} {C C1 C2 : RM} (p : kp N C C1) (q : kp N C1 C2) : kp N C C2 := ⟨fun i hi j hj => (q.1 i hi j hj).trans (p.1 i hi j hj), fun i a b => (q.2.1 i a b).trans (p.2.1 i a b), q.2.2.trans p.2.2⟩
theorem rAu.cg {C C' : RM} {n : Nat} {σ : SS} (q : rAu C n σ) (h8 : C'.1 8 n = C.1 8 n) (h7 : ∀ i, i < 6 → C'.1 7 (6 * n + i) = C.1 7 (6 * n + i)) : rAu C' n σ := by
  obtain ⟨A, a1, a2, a3, a4, a5⟩ := q
  exact ⟨A, h8.trans a1, a2, a3, fun i hi => (h7 i (by omega)).trans (a4 i hi), a5⟩
theorem rPa.cg {C C' : RM} {n : Nat} {l : List Nat} (hl : l.length ≤ 4) (q : rPa C n l) (h6 : C'.1 6 n = C.1 6 n) (h5 : ∀ i, i < 4 → C'.1 5 (4 * n + i) = C.1 5 (4 * n + i)) : rPa C' n l := ⟨h6.trans q.1, fun i hi => (h5 i (by omega)).trans (q.2 i hi)⟩
theorem rE.k2 {C C' : RM} {N : Nat} {E : EL} (hP : PW N E) (q : rE C N E) (k1 : ∀ i, i < 14 → ∀ j, j < wd i * N → C'.1 i j = C.1 i j) (k3 : C'.2.1 = C.2.1) : rE C' N E := by
  obtain ⟨q1, q2⟩ := q
  refine ⟨k3.trans q1, fun n hn => ?_⟩
  obtain ⟨⟨a0, a1, a2, a3, a4⟩, b, c, d, e, f, g, h⟩ := q2 n hn
  refine ⟨⟨(k1 0 (by omega) n (by show n < 1 * N; omega)).trans a0, (k1 1 (by omega) n (by show n < 1 * N; omega)).trans a1, (k1 2 (by omega) n (by show n < 1 * N; omega)).trans a2, (k1 3 (by omega) n (by show n < 1 * N; omega)).trans a3, (k1 4 (by omega) n (by show n < 1 * N; omega)).trans a4⟩, b.cg (hP n hn).1 (k1 6 (by omega) n (by show n < 1 * N; omega)) (fun i hi => k1 5 (by omega) _ (by show _ < 4 * N; omega)), c.cg (k1 8 (by omega) n (by show n < 1 * N; omega)) (fun i hi => k1 7 (by omega) _ (by show _ < 6 * N; omega)), fun z u hu => (k1 9 (by omega) _ (by show _ < 12 * N; omega)).trans (d z u hu), fun y hy => (k1 10 (by omega) _ (by show _ < 400 * N; omega)).trans (e y hy), (k1 11 (by omega) n (by show n < 1 * N; omega)).trans f, fun p hp => (k1 12 (by omega) _ (by show _ < 23 * N; omega)).trans (g p hp), fun p hp => (k1 13 (by omega) _ (by show _ < 23 * N; omega)).trans (h p hp)⟩
theorem rE.kp {C C' : RM} {N : Nat} {E : EL} (hP : PW N E) (q : rE C N E) (k : kp N C C') : rE C' N E := q.k2 hP k.1 k.2.2
-- all but scratch stays
def kq (C C' : RM) : Prop := (∀ i, i ≤ 17 → C'.1 i = C.1 i) ∧ C'.2.1 = C.2.1
theorem kq.rf {C : RM} : kq C C := ⟨fun _ _ => rfl, rfl⟩
theorem kq.tr {C C1 C2 : RM} (p : kq C C1) (q : kq C1 C2) : kq C C2 := ⟨fun i hi => (q.1 i hi).trans (p.1 i hi), q.2.trans p.2⟩
theorem kq.kp {N : Nat} {C C' : RM} (q : kq C C') : kp N C C' := ⟨fun i hi j _ => by rw [q.1 i (by omega)], fun i _ hi => q.1 i hi, q.2⟩
theorem rU_ne {C : RM} {i j : Nat} {f : Nat → Int} (h : j ≠ i) : (rU C i f).1 j = C.1 j := by
  show (bif Nat.beq j i then f else C.1 j) = _
  cases hz : Nat.beq j i
  · rfl
  · exact absurd (Nat.eq_of_beq_eq_true hz) h
theorem kq.u {C : RM} {i : Nat} {f : Nat → Int} (hi : 18 ≤ i) : kq C (rU C i f) := ⟨fun j hj => rU_ne (by omega), rfl⟩
-- the counts
theorem evM20 {t : AT} {pc nx : Nat} {z v : Int} {ts : List (Int × Nat)} {lv : AL} {r : List AV} {h : AH} {M : Nat} {C : RM} {o : Option AV × AH} (e : am_at t pc = (41, z, 7, 20, nx, ts)) (hz : z.toNat = 0) (k : Ev t nx lv r (hM h M (rI C (C.2.1, v, C.2.2.2))) o) : Ev t pc lv (.inl v :: vR M :: r) (hM h M C) o := by
  refine ev_putf e hM_0 (Nat.le_of_ble_eq_true rfl) (by rw [hz]; rfl) ?_
  rw [← hM_f] at k
  exact k
theorem evM28 {t : AT} {pc nx : Nat} {z v : Int} {ts : List (Int × Nat)} {lv : AL} {r : List AV} {h : AH} {M : Nat} {C : RM} {o : Option AV × AH} (e : am_at t pc = (41, z, 7, 28, nx, ts)) (hz : z.toNat = 0) (k : Ev t nx lv r (hM h M (rI C (C.2.1, C.2.2.1, v, C.2.2.2.2))) o) : Ev t pc lv (.inl v :: vR M :: r) (hM h M C) o := by
  refine ev_putf e hM_0 (Nat.le_of_ble_eq_true rfl) (by rw [hz]; rfl) ?_
  rw [← hM_f] at k
  exact k
theorem evM32 {t : AT} {pc nx : Nat} {z v : Int} {ts : List (Int × Nat)} {lv : AL} {r : List AV} {h : AH} {M : Nat} {C : RM} {o : Option AV × AH} (e : am_at t pc = (41, z, 7, 32, nx, ts)) (hz : z.toNat = 0) (k : Ev t nx lv r (hM h M (rI C (C.2.1, C.2.2.1, C.2.2.2.1, v))) o) : Ev t pc lv (.inl v :: vR M :: r) (hM h M C) o := by
  refine ev_putf e hM_0 (Nat.le_of_ble_eq_true rfl) (by rw [hz]; rfl) ?_
  rw [← hM_f] at k
  exact k
theorem evM14 {t : AT} {pc nx : Nat} {z v : Int} {ts : List (Int × Nat)} {lv : AL} {r : List AV} {h : AH} {M : Nat} {C : RM} {o : Option AV × AH} (e : am_at t pc = (41, z, 7, 14, nx, ts)) (hz : z.toNat = 0) (k : Ev t nx lv r (hM h M (rI C (v, C.2.2))) o) : Ev t pc lv (.inl v :: vR M :: r) (hM h M C) o := by
  refine ev_putf e hM_0 (Nat.le_of_ble_eq_true rfl) (by rw [hz]; rfl) ?_
  rw [← hM_f] at k
  exact k
-- need
def rN (C : RM) (A : List Nat) : Prop := C.2.2.2.2 = (A.length : Int) ∧ ∀ i, i < A.length → C.1 28 i = (A.getD i 0 : Nat)
def kN (C C' : RM) : Prop := (∀ i, i ≠ 28 → C'.1 i = C.1 i) ∧ C'.2.1 = C.2.1 ∧ C'.2.2.1 = C.2.2.1 ∧ C'.2.2.2.1 = C.2.2.2.1
theorem kN.rf {C : RM} : kN C C := ⟨fun _ _ => rfl, rfl, rfl, rfl⟩
theorem kN.tr {C C1 C2 : RM} (p : kN C C1) (q : kN C1 C2) : kN C C2 := ⟨fun i hi => (q.1 i hi).trans (p.1 i hi), q.2.1.trans p.2.1, q.2.2.1.trans p.2.2.1, q.2.2.2.trans p.2.2.2⟩
def nd_add (A : List Nat) (v : Int) : List Nat := if v < 0 ∨ v.toNat ∈ A then A else A ++ [v.toNat]
theorem l_mneed {h : AH} {M : Nat} {C : RM} {A : List Nat} (hA : rN C A) (h6 : A.length ≤ 6) {v : Int} (hl : ∀ a ∈ A, a < 400) (hv : -1 ≤ v ∧ v < 400) {o : Option AV × AH} : ∀ (k i : Nat), i + k = A.length → Ev tMd_need 46 [some (vR M), some (.inl v), some (vB (decide (v < 0) || b_any A.length (fun j => decide ((A.getD j 0 : Int) = v)))), some (.inl (A.length : Int))] [] (hM h M C) o → Ev tMd_need 12 [some (vR M), some (.inl v), some (vB (decide (v < 0) || b_any i (fun j => decide ((A.getD j 0 : Int) = v)))), some (.inl (i : Int))] [] (hM h M C) o := by
  intro k
  induction k with
  | zero =>
    intro i hi hgo
    obtain rfl : i = A.length := by omega
    iterate 2 (refine ev_st rfl rfl ?_)
    refine ev_getf rfl hM_0 (by rfl) ?_
    rw [hA.1]
    refine ev_icT rfl (by simp only [ick, w32]; omega) ?_
    exact hgo
  | succ k ih =>
    intro i hi hgo
    have hm := hl _ (getD_mem (show i < A.length by omega))
    have := ih (i + 1) (by omega) hgo
    simp only [b_any] at this
    rw [← Bool.or_assoc] at this
    generalize (decide (v < 0) || b_any i (fun j => decide ((A.getD j 0 : Int) = v))) = bb at *
    iterate 2 (refine ev_st rfl rfl ?_)
    refine ev_getf rfl hM_0 (by rfl) ?_
    rw [hA.1]
    refine ev_icF rfl (by simp only [ick, w32]; omega) ?_
    iterate 1 (refine ev_st rfl rfl ?_)
    cases bb with
    | true =>
      refine ev_zneT rfl rfl ?_
      iterate 5 (refine ev_st rfl rfl ?_)
      exact this
    | false =>
      refine ev_zneF rfl rfl ?_
      iterate 1 (refine ev_st rfl rfl ?_)
      refine ev_getf rfl hM_0 (by rfl) ?_
      iterate 1 (refine ev_st rfl rfl ?_)
      refine ev_iald i rfl hA28 (by simp only [w32]; omega) (by omega) ?_
      rw [hA.2 i (by omega)]
      iterate 1 (refine ev_st rfl rfl ?_)
      by_cases z : (A.getD i 0 : Int) = v
      · rw [decide_eq_true z] at this
        refine ev_icF rfl (by simp only [ick, w32]; omega) ?_
        iterate 5 (refine ev_st rfl rfl ?_)
        exact this
      · rw [decide_eq_false z] at this
        refine ev_icT rfl (by simp only [ick, w32]; omega) ?_
        iterate 4 (refine ev_st rfl rfl ?_)
        exact this
theorem c_mneed {h : AH} {M : Nat} {C : RM} {A : List Nat} (hA : rN C A) (h6 : A.length < 6) {v : Int} (hl : ∀ a ∈ A, a < 400) (hv : -1 ≤ v ∧ v < 400) : ∃ C', Em mMd_need 2 [vR M, .inl v] (hM h M C) none (hM h M C') ∧ rN C' (nd_add A v) ∧ kN C C' := by
  have hb : (decide (v < 0) || b_any A.length (fun j => decide ((A.getD j 0 : Int) = v))) = decide (v < 0 ∨ v.toNat ∈ A) := by
    apply Bool.eq_iff_iff.2
    rw [Bool.or_eq_true, decide_eq_true_eq, decide_eq_true_eq, b_any_iff]
    constructor
    · rintro (z | ⟨j, j1, j2⟩)
      · exact Or.inl z
      · rw [decide_eq_true_eq] at j2
        right
        have : v.toNat = A.getD j 0 := by omega
        rw [this]
        exact getD_mem j1
    · rintro (z | z)
      · exact Or.inl z
      · by_cases z0 : v < 0
        · exact Or.inl z0
        · right
          obtain ⟨j, j1, j2⟩ := List.getElem_of_mem z
          refine ⟨j, j1, ?_⟩
          rw [decide_eq_true_eq, List.getD_eq_getElem?_getD, List.getElem?_eq_getElem j1, j2]
          show ((v.toNat : Nat) : Int) = v
          omega
  have start : ∀ {o : Option AV × AH}, Ev tMd_need 12 [some (vR M), some (.inl v), some (vB (decide (v < 0) || b_any 0 (fun j => decide ((A.getD j 0 : Int) = v)))), some (.inl ((0 : Nat) : Int))] [] (hM h M C) o → Ev tMd_need 0 [some (vR M), some (.inl v), none, none] [] (hM h M C) o := by
    intro o hgo
    simp only [b_any, Bool.or_false] at hgo
    iterate 1 (refine ev_st rfl rfl ?_)
    by_cases z : v < 0
    · rw [decide_eq_true z] at hgo
      refine ev_ifF rfl (by simp only [ick, w32]; omega) ?_
      iterate 5 (refine ev_st rfl rfl ?_)
      exact hgo
    · rw [decide_eq_false z] at hgo
      refine ev_ifT rfl (by simp only [ick, w32]; omega) ?_
      iterate 4 (refine ev_st rfl rfl ?_)
      exact hgo
  by_cases z : v < 0 ∨ v.toNat ∈ A
  · refine ⟨C, ?_, ?_, kN.rf⟩
    · show Ev tMd_need 0 [some (vR M), some (.inl v), none, none] [] _ _
      refine start (l_mneed hA (by omega) hl hv A.length 0 (by omega) ?_)
      rw [hb, decide_eq_true z]
      iterate 1 (refine ev_st rfl rfl ?_)
      refine ev_zeqF rfl rfl ?_
      exact ev_rt rfl rfl rfl
    · unfold nd_add
      rw [if_pos z]
      exact hA
  · refine ⟨rI (rU C 28 (va_up (C.1 28) A.length v)) (C.2.1, C.2.2.1, C.2.2.2.1, (A.length : Int) + 1), ?_, ?_, ⟨fun i hi => rU_ne hi, rfl, rfl, rfl⟩⟩
    · show Ev tMd_need 0 [some (vR M), some (.inl v), none, none] [] _ _
      refine start (l_mneed hA (by omega) hl hv A.length 0 (by omega) ?_)
      rw [hb, decide_eq_false z]
      iterate 1 (refine ev_st rfl rfl ?_)
      refine ev_zeqT rfl rfl ?_
      iterate 1 (refine ev_st rfl rfl ?_)
      refine ev_getf rfl hM_0 (by rfl) ?_
      iterate 1 (refine ev_st rfl rfl ?_)
      refine ev_getf rfl hM_0 (by rfl) ?_
      rw [hA.1]
      iterate 1 (refine ev_st rfl rfl ?_)
      refine ev_iast A.length rfl hA28 (by simp only [w32]; omega) (by omega) ?_
      rw [hP28]
      iterate 2 (refine ev_st rfl rfl ?_)
      refine ev_getf rfl hM_0 (by rfl) ?_
      iterate 2 (refine ev_st rfl rfl ?_)
      refine evM32 rfl rfl ?_
      rw [show (rU C 28 (va_up (C.1 28) A.length v)).2.2.2.2 = (A.length : Int) from hA.1]
      exact ev_rt rfl rfl rfl
    · unfold nd_add
      rw [if_neg z]
      refine ⟨by rw [List.length_append]; rfl, fun i hi => ?_⟩
      show va_up (C.1 28) A.length v i = _
      rw [List.length_append] at hi
      simp only [va_up]
      by_cases e : i = A.length
      · subst e
        rw [if_pos rfl, List.getD_eq_getElem?_getD, List.getElem?_append_right (Nat.le_refl _), Nat.sub_self]
        show v = ((v.toNat : Nat) : Int)
        omega
      · rw [if_neg e, hA.2 i (by simp at hi; omega), List.getD_eq_getElem?_getD, List.getD_eq_getElem?_getD, List.getElem?_append_left (by simp at hi; omega)]
theorem nd_mem {A : List Nat} {v : Int} (hv : -1 ≤ v) {w : Nat} : w ∈ nd_add A v ↔ w ∈ A ∨ v = w := by
  unfold nd_add
  split
  · rename_i z
    constructor
    · exact Or.inl
    · rintro (y | y)
      · exact y
      · rcases z with z | z
        · omega
        · rw [y, Int.toNat_natCast] at z; exact z
  · rename_i z
    rw [List.mem_append, List.mem_singleton]
    constructor
    · rintro (y | y)
      · exact Or.inl y
      · right; omega
    · rintro (y | y)
      · exact Or.inl y
      · right; omega
theorem nd_len {A : List Nat} {v : Int} : (nd_add A v).length ≤ A.length + 1 := by
  unfold nd_add
  split
  · omega
  · rw [List.length_append]; simp
theorem nd_dup {A : List Nat} {v : Int} (h : A.Nodup) : (nd_add A v).Nodup := by
  unfold nd_add
  split
  · exact h
  · rename_i z
    rw [List.nodup_append]
    refine ⟨h, by simp, fun a ha b hb => ?_⟩
    rw [List.mem_singleton] at hb
    subst hb
    intro e
    exact z (Or.inr (e ▸ ha))
def ndl (σ : SS) (k who whom : Int) : List Nat := if k = 0 then [] else
  let A := nd_add (nd_add (nd_add [] (σ 0)) (σ 13)) (σ (1 + who.toNat))
  if k = 1 then nd_add (nd_add A (σ (1 + whom.toNat))) (σ 14) else A
theorem same_len : ∀ (A T : List Nat), A.Nodup → T.Nodup → (∀ v, v ∈ A ↔ v ∈ T) → A.length = T.length := by
  intro A
  induction A with
  | nil =>
    intro T _ _ h
    cases T with
    | nil => rfl
    | cons t r => exact absurd ((h t).2 List.mem_cons_self) (by simp)
  | cons a A ih =>
    intro T hA hT h
    have haT : a ∈ T := (h a).1 List.mem_cons_self
    rw [List.nodup_cons] at hA
    have := ih (T.erase a) hA.2 (hT.erase a) (fun v => by
      rw [hT.mem_erase_iff]
      constructor
      · intro hv
        exact ⟨fun e => hA.1 (e ▸ hv), (h v).1 (List.mem_cons_of_mem _ hv)⟩
      · rintro ⟨h1, h2⟩
        rcases List.mem_cons.1 ((h v).2 h2) with e | e
        · exact absurd e h1
        · exact e)
    rw [List.length_cons, this, List.length_erase_of_mem haT]
    have := List.length_pos_of_mem haT
    omega
-- the values of a row, in its order
def tvl (τ : SS) : Nat → List Nat
  | 0 => []
  | n + 1 => tvl τ n ++ (if 0 ≤ τ n then [(τ n).toNat] else [])
theorem tvl_len {τ : SS} : ∀ n, (tvl τ n).length = b_cnt n (fun p => decide (0 ≤ τ p)) := by
  intro n
  induction n with
  | zero => rfl
  | succ n ih =>
    simp only [tvl, b_cnt, List.length_append, ih]
    by_cases h : 0 ≤ τ n <;> simp [h]
theorem tvl_mem {τ : SS} {v : Nat} : ∀ n, v ∈ tvl τ n ↔ ∃ p, p < n ∧ τ p = (v : Int) := by
  intro n
  induction n with
  | zero => simp [tvl]
  | succ n ih =>
    simp only [tvl, List.mem_append, ih]
    constructor
    · rintro (⟨p, h1, h2⟩ | h)
      · exact ⟨p, by omega, h2⟩
      · split at h
        · rename_i z
          have := List.mem_singleton.1 h
          exact ⟨n, by omega, by omega⟩
        · cases h
    · rintro ⟨p, h1, h2⟩
      by_cases e : p = n
      · subst e
        right
        rw [if_pos (by omega), List.mem_singleton]
        omega
      · exact Or.inl ⟨p, by omega, h2⟩
theorem tvl_dup {N : Nat} {E : EL} {τ : SS} (hτ : sOK N E τ) : ∀ n, (tvl τ n).Nodup := by
  intro n
  induction n with
  | zero => exact List.nodup_nil
  | succ n ih =>
    simp only [tvl]
    split
    · rename_i z
      rw [List.nodup_append]
      refine ⟨ih, by simp, fun a ha b hb e => ?_⟩
      rw [List.mem_singleton] at hb
      obtain ⟨p, h1, h2⟩ := (tvl_mem n).1 ha
      rcases hτ.at p with y | ⟨m, y1, y2, y3⟩
      · omega
      · rcases hτ.at n with x | ⟨m', x1, x2, x3⟩
        · omega
        · have : m = m' := by omega
          subst this
          omega
    · simpa using ih
theorem ndl_ok {N : Nat} {E : EL} {σ : SS} (hσ : sOK N E σ) {k who whom : Int} (hw : 0 ≤ who ∧ who ≤ 11) (hw2 : k = 1 → 0 ≤ whom ∧ whom ≤ 11) : (ndl σ k who whom).length ≤ 5 ∧ (ndl σ k who whom).length = d_cnt (m_need σ k who whom) ∧ ∀ v, v ∈ ndl σ k who whom ↔ ∃ p, p < 23 ∧ m_need σ k who whom p = (v : Int) := by
  have hr : ∀ p, -1 ≤ σ p := fun p => by
    rcases hσ.at p with z | ⟨m, z1, z2, -⟩ <;> omega
  have hmem : ∀ v, v ∈ ndl σ k who whom ↔ ∃ p, p < 23 ∧ m_need σ k who whom p = (v : Int) := by
    intro v
    unfold ndl m_need
    by_cases k0 : k = 0
    · rw [if_pos k0]
      simp only [if_pos k0]
      constructor
      · intro h; cases h
      · rintro ⟨p, -, h⟩; omega
    · rw [if_neg k0]
      simp only [if_neg k0]
      by_cases k1 : k = 1
      · have hw3 := hw2 k1
        rw [if_pos k1, nd_mem (hr _), nd_mem (hr _), nd_mem (hr _), nd_mem (hr _), nd_mem (hr _)]
        constructor
        · rintro (((((h | h) | h) | h) | h) | h)
          · cases h
          · exact ⟨0, by omega, by rw [if_pos (Or.inl rfl)]; exact h⟩
          · exact ⟨13, by omega, by rw [if_pos (Or.inr (Or.inl rfl))]; exact h⟩
          · exact ⟨1 + who.toNat, by omega, by rw [if_pos (Or.inr (Or.inr (Or.inl (by omega))))]; exact h⟩
          · exact ⟨1 + whom.toNat, by omega, by rw [if_pos (Or.inr (Or.inr (Or.inr ⟨k1, Or.inl (by omega)⟩)))]; exact h⟩
          · exact ⟨14, by omega, by rw [if_pos (Or.inr (Or.inr (Or.inr ⟨k1, Or.inr rfl⟩)))]; exact h⟩
        · rintro ⟨p, hp, h⟩
          split at h
          · rename_i z
            rcases z with rfl | rfl | z | ⟨-, z | rfl⟩
            · exact Or.inl (Or.inl (Or.inl (Or.inl (Or.inr h))))
            · exact Or.inl (Or.inl (Or.inl (Or.inr h)))
            · obtain rfl : p = 1 + who.toNat := by omega
              exact Or.inl (Or.inl (Or.inr h))
            · obtain rfl : p = 1 + whom.toNat := by omega
              exact Or.inl (Or.inr h)
            · exact Or.inr h
          · omega
      · rw [if_neg k1, nd_mem (hr _), nd_mem (hr _), nd_mem (hr _)]
        constructor
        · rintro (((h | h) | h) | h)
          · cases h
          · exact ⟨0, by omega, by rw [if_pos (Or.inl rfl)]; exact h⟩
          · exact ⟨13, by omega, by rw [if_pos (Or.inr (Or.inl rfl))]; exact h⟩
          · exact ⟨1 + who.toNat, by omega, by rw [if_pos (Or.inr (Or.inr (Or.inl (by omega))))]; exact h⟩
        · rintro ⟨p, hp, h⟩
          split at h
          · rename_i z
            rcases z with rfl | rfl | z | ⟨z, -⟩
            · exact Or.inl (Or.inl (Or.inr h))
            · exact Or.inl (Or.inr h)
            · obtain rfl : p = 1 + who.toNat := by omega
              exact Or.inr h
            · exact absurd z k1
          · omega
  have hdup : (ndl σ k who whom).Nodup := by
    unfold ndl
    split
    · exact List.nodup_nil
    · dsimp only
      split
      · exact nd_dup (nd_dup (nd_dup (nd_dup (nd_dup List.nodup_nil))))
      · exact nd_dup (nd_dup (nd_dup List.nodup_nil))
  refine ⟨?_, ?_, hmem⟩
  · unfold ndl
    have l0 : ([] : List Nat).length = 0 := rfl
    split
    · omega
    · dsimp only
      have l1 := nd_len (A := []) (v := σ 0)
      have l2 := nd_len (A := nd_add [] (σ 0)) (v := σ 13)
      have l3 := nd_len (A := nd_add (nd_add [] (σ 0)) (σ 13)) (v := σ (1 + who.toNat))
      have l4 := nd_len (A := nd_add (nd_add (nd_add [] (σ 0)) (σ 13)) (σ (1 + who.toNat))) (v := σ (1 + whom.toNat))
      have l5 := nd_len (A := nd_add (nd_add (nd_add (nd_add [] (σ 0)) (σ 13)) (σ (1 + who.toNat))) (σ (1 + whom.toNat))) (v := σ 14)
      split <;> omega
  · rw [same_len _ _ hdup (tvl_dup (need_ok hσ k who whom) 23) (fun v => (hmem v).trans (tvl_mem 23).symm), tvl_len]
    rfl
