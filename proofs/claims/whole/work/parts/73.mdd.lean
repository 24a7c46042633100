-- the reference: orderTwo
def kr (S : List Nat) (C C' : RM) : Prop := (∀ i, i ∉ S → C'.1 i = C.1 i) ∧ C'.2.1 = C.2.1 ∧ C'.2.2.1 = C.2.2.1
theorem kr.rf {S : List Nat} {C : RM} : kr S C C := ⟨fun _ _ => rfl, rfl, rfl⟩
theorem kr.tr {S : List Nat} {C C1 C2 : RM} (p : kr S C C1) (q : kr S C1 C2) : kr S C C2 := ⟨fun i hi => (q.1 i hi).trans (p.1 i hi), q.2.1.trans p.2.1, q.2.2.trans p.2.2⟩
theorem kr.mono {S S' : List Nat} {C C' : RM} (q : kr S C C') (h : ∀ i ∈ S, i ∈ S') : kr S' C C' := ⟨fun i hi => q.1 i (fun z => hi (h i z)), q.2⟩
theorem kx.kr {S : List Nat} {C C' : RM} (q : kx S C C') : kr S C C' := ⟨q.1, by rw [q.2], by rw [q.2]⟩
theorem kr.kq {S : List Nat} {C C' : RM} (q : kr S C C') (h : ∀ i ∈ S, 18 ≤ i) : kq C C' := ⟨fun i hi => q.1 i (fun z => by have := h i z; omega), q.2.1⟩
theorem rE.kr {S : List Nat} {C C' : RM} {N : Nat} {E : EL} (q : rE C N E) (hP : PW N E) (k : kr S C C') (h : ∀ i ∈ S, 18 ≤ i) : rE C' N E := q.kp hP (k.kq h).kp
theorem l_mmain {h : AH} {M N : Nat} {E : EL} {j2 j3 j4 j5 j6 : Option AV} (hE : EOK N E) : ∀ (n : Nat) (x : Int) (acc : List Nat) (C : RM), (x = -1 ∨ ∃ m : Nat, x = m ∧ m < n ∧ m < N ∧ acc.length + m + 1 ≤ 400) → acc.length ≤ 400 → rE C N E → rM C acc → ∃ (C' : RM) (x' : Int), (kr [25] C C' ∧ rM C' (acc ++ r_main E n x)) ∧ ∀ {o : Option AV × AH}, Ev tMd_orderTwo 46 [some (vR M), some (.inl x'), j2, j3, j4, j5, j6] [] (hM h M C') o → Ev tMd_orderTwo 13 [some (vR M), some (.inl x), j2, j3, j4, j5, j6] [] (hM h M C) o := by
  obtain ⟨hN, hW, hP, hX, hO, hB⟩ := id hE
  intro n
  induction n with
  | zero =>
    intro x acc C hx ha q hm
    obtain rfl : x = -1 := by
      rcases hx with z | ⟨m, -, z, -⟩
      · exact z
      · omega
    refine ⟨C, -1, ⟨kr.rf, by simpa [r_main] using hm⟩, fun {o} hgo => ?_⟩
    iterate 1 (refine ev_st rfl rfl ?_)
    refine ev_ifT rfl (by simp only [ick, w32]; omega) ?_
    exact hgo
  | succ n ih =>
    intro x acc C hx ha q hm
    rcases hx with rfl | ⟨m, rfl, z1, z2, z3⟩
    · have e0 : r_main E (n + 1) (-1) = [] := by simp [r_main]
      refine ⟨C, -1, ⟨kr.rf, by rw [e0, List.append_nil]; exact hm⟩, fun {o} hgo => ?_⟩
      iterate 1 (refine ev_st rfl rfl ?_)
      refine ev_ifT rfl (by simp only [ick, w32]; omega) ?_
      exact hgo
    · have e0 : r_main E (n + 1) (m : Int) = m :: r_main E n (e_ow (E m) 13) := by
        simp only [r_main]
        rw [if_neg (by omega), Int.toNat_natCast]
      obtain ⟨m1, m2, m3, m4⟩ := id hm
      have hm' : rM (rI (rU C 25 (va_up (C.1 25) acc.length (m : Int))) (C.2.1, C.2.2.1, (acc.length : Int) + 1, C.2.2.2.2)) (acc ++ [m]) := by
        refine ⟨by rw [List.length_append]; rfl, by rw [List.length_append]; simp; omega, fun v hv => ?_, fun i hi => ?_⟩
        · rcases List.mem_append.1 hv with w | w
          · exact m3 v w
          · rw [List.mem_singleton.1 w]; omega
        · show va_up (C.1 25) acc.length (m : Int) i = _
          simp only [va_up]
          rw [List.length_append] at hi
          by_cases w : i = acc.length
          · rw [if_pos w, w, List.getD_eq_getElem?_getD, List.getElem?_append_right (Nat.le_refl _), Nat.sub_self]; rfl
          · rw [if_neg w, m4 i (by simp at hi; omega), List.getD_eq_getElem?_getD, List.getD_eq_getElem?_getD, List.getElem?_append_left (by simp at hi; omega)]
      have k0 : kr [25] C (rI (rU C 25 (va_up (C.1 25) acc.length (m : Int))) (C.2.1, C.2.2.1, (acc.length : Int) + 1, C.2.2.2.2)) := ⟨fun i hi => rU_ne (fun w => hi (w ▸ List.mem_singleton.2 rfl)), rfl, rfl⟩
      have q1 := q.kr hP k0 (by decide)
      have cp := c_mpoa (h := h) (M := M) hN q1 hW (hO.ow m z2) (by omega) (q1.2 m z2).2.2.1
      obtain ⟨C', x', ⟨k1, r1⟩, go⟩ := ih (e_ow (E m) 13) (acc ++ [m]) _ (by
        rcases (hO m z2).at 13 with w | ⟨m', w1, w2, -⟩
        · exact Or.inl w
        · exact Or.inr ⟨m', w2, by omega, by omega, by rw [List.length_append]; simp; omega⟩) (by rw [List.length_append]; simp; omega) q1 hm'
      refine ⟨C', x', ⟨k0.tr k1, by rw [e0]; rw [List.append_assoc] at r1; exact r1⟩, fun {o} hgo => ?_⟩
      iterate 1 (refine ev_st rfl rfl ?_)
      refine ev_ifF rfl (by simp only [ick, w32]; omega) ?_
      iterate 1 (refine ev_st rfl rfl ?_)
      refine ev_getf rfl hM_0 (by rfl) ?_
      iterate 1 (refine ev_st rfl rfl ?_)
      refine ev_getf rfl hM_0 (by rfl) ?_
      rw [m1]
      iterate 1 (refine ev_st rfl rfl ?_)
      refine ev_iast acc.length rfl hA25 (by simp only [w32]; omega) (by omega) ?_
      rw [hP25]
      iterate 2 (refine ev_st rfl rfl ?_)
      refine ev_getf rfl hM_0 (by rfl) ?_
      iterate 2 (refine ev_st rfl rfl ?_)
      refine evM28 rfl rfl ?_
      rw [show (rU C 25 (va_up (C.1 25) acc.length (m : Int))).2.2.2.1 = (acc.length : Int) from m1]
      iterate 2 (refine ev_st rfl rfl ?_)
      refine ev_callV rfl rfl hM_0 rfl cp ?_
      iterate 2 (refine ev_st rfl rfl ?_)
      exact go hgo
def sb (E : EL) (ml : List Nat) (e : Nat) : Option Nat → Bool
  | none => true
  | some f => r_sec E ml e f
def pb (E : EL) (ml : List Nat) : Option Nat → Int
  | none => -1
  | some f => (r_mp E ml f : Int)
theorem best2_s {E : EL} {ml : List Nat} {cf : Nat → Bool} {k : Nat} : r_best2 E ml cf (k + 1) = bif cf k && sb E ml k (r_best2 E ml cf k) then some k else r_best2 E ml cf k := by
  simp only [r_best2]
  cases r_best2 E ml cf k <;> rfl
theorem best2_lt {E : EL} {ml : List Nat} {cf : Nat → Bool} : ∀ (k f : Nat), r_best2 E ml cf k = some f → f < k := by
  intro k
  induction k with
  | zero => intro f hf; cases hf
  | succ k ih =>
    intro f hf
    rw [best2_s] at hf
    cases hb : (cf k && sb E ml k (r_best2 E ml cf k)) with
    | true => rw [hb, cond_true] at hf; have := Option.some.inj hf; omega
    | false => rw [hb, cond_false] at hf; have := ih f hf; omega
theorem l_mbest2 {h : AH} {M N : Nat} {C : RM} {E : EL} {ml : List Nat} {cf : Nat → Bool} {j1 : Option AV} (hE : EOK N E) (q : rE C N E) (hm : rM C ml) (hc : ∀ z, z < N → C.1 22 z = b2 (cf z)) : ∀ (k e : Nat) (j5 j6 : Option AV), e + k = N → ∃ (j5' j6' : Option AV), ∀ {o : Option AV × AH}, Ev tMd_orderTwo 187 [some (vR M), j1, some (.inl (ob (r_best2 E ml cf N))), some (.inl (pb E ml (r_best2 E ml cf N))), some (.inl (N : Int)), j5', j6'] [] (hM h M C) o → Ev tMd_orderTwo 59 [some (vR M), j1, some (.inl (ob (r_best2 E ml cf e))), some (.inl (pb E ml (r_best2 E ml cf e))), some (.inl (e : Int)), j5, j6] [] (hM h M C) o := by
  have hN := hE.1
  intro k
  induction k with
  | zero =>
    intro e j5 j6 he
    obtain rfl : e = N := by omega
    refine ⟨j5, j6, fun {o} hgo => ?_⟩
    iterate 2 (refine ev_st rfl rfl ?_)
    refine ev_getf rfl hM_0 (by rfl) ?_
    rw [q.1]
    refine ev_icT rfl (by simp only [ick, w32]; omega) ?_
    exact hgo
  | succ k ih =>
    intro e j5 j6 he
    have e22 := hc e (by omega)
    cases hce : cf e with
    | false =>
      obtain ⟨j5', j6', go⟩ := ih (e + 1) j5 j6 (by omega)
      refine ⟨j5', j6', fun {o} hgo => ?_⟩
      have := go hgo
      simp only [best2_s, hce, Bool.false_and, cond_false] at this
      iterate 2 (refine ev_st rfl rfl ?_)
      refine ev_getf rfl hM_0 (by rfl) ?_
      rw [q.1]
      refine ev_icF rfl (by simp only [ick, w32]; omega) ?_
      iterate 1 (refine ev_st rfl rfl ?_)
      refine ev_getf rfl hM_0 (by rfl) ?_
      iterate 1 (refine ev_st rfl rfl ?_)
      refine ev_iald e rfl hA22 (by simp only [w32]; omega) (by omega) ?_
      rw [e22, hce]
      refine ev_zneF rfl rfl ?_
      iterate 3 (refine ev_st rfl rfl ?_)
      exact this
    | true =>
      have heN : e < N := by omega
      have cm := c_mmp (h := h) (M := M) hE q hm heN
      have rp := c_mplc_r (E := E) hm.2.1 401 (if e_kd (E e) = 2 then (e : Int) else e_ow (E e) 13)
      change r_mp E ml e ≤ 400 at rp
      obtain ⟨j5', j6', go⟩ := ih (e + 1) (some (.inl (r_mp E ml e : Int))) (some (vB (sb E ml e (r_best2 E ml cf e)))) (by omega)
      refine ⟨j5', j6', fun {o} hgo => ?_⟩
      have nx := go hgo
      simp only [best2_s, hce, Bool.true_and] at nx
      have hbN : ∀ f, r_best2 E ml cf e = some f → f < N := fun f hf => by have := best2_lt e f hf; omega
      generalize r_best2 E ml cf e = bb at *
      have fin : Ev tMd_orderTwo 167 [some (vR M), j1, some (.inl (ob bb)), some (.inl (pb E ml bb)), some (.inl (e : Int)), some (.inl (r_mp E ml e : Int)), some (vB (sb E ml e bb))] [] (hM h M C) o := by
        iterate 1 (refine ev_st rfl rfl ?_)
        cases hv : sb E ml e bb with
        | false =>
          rw [hv] at nx
          refine ev_zneF rfl rfl ?_
          iterate 3 (refine ev_st rfl rfl ?_)
          exact nx
        | true =>
          rw [hv] at nx
          refine ev_zneT rfl rfl ?_
          iterate 6 (refine ev_st rfl rfl ?_)
          exact nx
      iterate 2 (refine ev_st rfl rfl ?_)
      refine ev_getf rfl hM_0 (by rfl) ?_
      rw [q.1]
      refine ev_icF rfl (by simp only [ick, w32]; omega) ?_
      iterate 1 (refine ev_st rfl rfl ?_)
      refine ev_getf rfl hM_0 (by rfl) ?_
      iterate 1 (refine ev_st rfl rfl ?_)
      refine ev_iald e rfl hA22 (by simp only [w32]; omega) (by omega) ?_
      rw [e22, hce]
      refine ev_zneT rfl rfl ?_
      iterate 2 (refine ev_st rfl rfl ?_)
      refine ev_callV rfl rfl hM_0 rfl cm ?_
      iterate 3 (refine ev_st rfl rfl ?_)
      cases bb with
      | none =>
        show Ev tMd_orderTwo 92 [some (vR M), j1, some (.inl (ob none)), some (.inl (-1)), some (.inl (e : Int)), some (.inl (r_mp E ml e : Int)), j6] [.inl (-1), .inl (r_mp E ml e : Int)] (hM h M C) o
        refine ev_icF rfl (by simp only [ick, w32]; omega) ?_
        iterate 5 (refine ev_st rfl rfl ?_)
        refine ev_icT rfl (by simp only [ick, w32]; omega) ?_
        exact fin
      | some f =>
        have hf := hbN f rfl
        have rp2 := c_mplc_r (E := E) hm.2.1 401 (if e_kd (E f) = 2 then (f : Int) else e_ow (E f) 13)
        change r_mp E ml f ≤ 400 at rp2
        obtain ⟨⟨-, -, -, -, t1⟩, -⟩ := q.2 e heN
        obtain ⟨⟨-, -, -, -, t2⟩, -⟩ := q.2 f hf
        have w1 := (hE.2.1 e heN).2.2.2.2.2.2.1
        have w2 := (hE.2.1 f hf).2.2.2.2.2.2.1
        unfold InR at w1 w2
        have e6 : sb E ml e (some f) = if r_mp E ml e = r_mp E ml f then r_old E e f else decide (r_mp E ml f < r_mp E ml e) := rfl
        rw [e6] at fin
        change Ev tMd_orderTwo 167 [some (vR M), j1, some (.inl (f : Int)), some (.inl (r_mp E ml f : Int)), some (.inl (e : Int)), some (.inl (r_mp E ml e : Int)), some (vB (if r_mp E ml e = r_mp E ml f then r_old E e f else decide (r_mp E ml f < r_mp E ml e)))] [] (hM h M C) o at fin
        show Ev tMd_orderTwo 92 [some (vR M), j1, some (.inl (f : Int)), some (.inl (r_mp E ml f : Int)), some (.inl (e : Int)), some (.inl (r_mp E ml e : Int)), j6] [.inl (r_mp E ml f : Int), .inl (r_mp E ml e : Int)] (hM h M C) o
        by_cases z : r_mp E ml e = r_mp E ml f
        · rw [if_pos z] at fin
          refine ev_icT rfl (by simp only [ick, w32]; omega) ?_
          iterate 4 (refine ev_st rfl rfl ?_)
          refine ev_icF rfl (by simp only [ick, w32]; omega) ?_
          iterate 1 (refine ev_st rfl rfl ?_)
          refine ev_getf rfl hM_0 (by rfl) ?_
          iterate 1 (refine ev_st rfl rfl ?_)
          refine ev_iald e rfl hA4 (by simp only [w32]; omega) (by omega) ?_
          rw [t1]
          iterate 1 (refine ev_st rfl rfl ?_)
          refine ev_getf rfl hM_0 (by rfl) ?_
          iterate 1 (refine ev_st rfl rfl ?_)
          refine ev_iald f rfl hA4 (by simp only [w32]; omega) (by omega) ?_
          rw [t2]
          unfold r_old at fin
          by_cases tt : e_tm (E e) = e_tm (E f)
          · rw [if_pos tt] at fin
            refine ev_icT rfl (by simp only [ick, w32]; omega) ?_
            iterate 1 (refine ev_st rfl rfl ?_)
            refine ev_cl rfl rfl (c_mid (show e < 400 by omega)) ?_
            iterate 1 (refine ev_st rfl rfl ?_)
            refine ev_cl rfl rfl (c_mid (show f < 400 by omega)) ?_
            have i1 := id_rng e
            have i2 := id_rng f
            by_cases ii : e_id e < e_id f
            · rw [decide_eq_true ii] at fin
              refine ev_icF rfl (by simp only [ick, w32]; omega) ?_
              iterate 3 (refine ev_st rfl rfl ?_)
              exact fin
            · rw [decide_eq_false ii] at fin
              refine ev_icT rfl (by simp only [ick, w32]; omega) ?_
              iterate 2 (refine ev_st rfl rfl ?_)
              exact fin
          · rw [if_neg tt] at fin
            refine ev_icF rfl (by simp only [ick, w32]; omega) ?_
            iterate 1 (refine ev_st rfl rfl ?_)
            refine ev_getf rfl hM_0 (by rfl) ?_
            iterate 1 (refine ev_st rfl rfl ?_)
            refine ev_iald e rfl hA4 (by simp only [w32]; omega) (by omega) ?_
            rw [t1]
            iterate 1 (refine ev_st rfl rfl ?_)
            refine ev_getf rfl hM_0 (by rfl) ?_
            iterate 1 (refine ev_st rfl rfl ?_)
            refine ev_iald f rfl hA4 (by simp only [w32]; omega) (by omega) ?_
            rw [t2]
            by_cases ii : e_tm (E e) < e_tm (E f)
            · rw [decide_eq_true ii] at fin
              refine ev_icF rfl (by simp only [ick, w32]; omega) ?_
              iterate 3 (refine ev_st rfl rfl ?_)
              exact fin
            · rw [decide_eq_false ii] at fin
              refine ev_icT rfl (by simp only [ick, w32]; omega) ?_
              iterate 3 (refine ev_st rfl rfl ?_)
              exact fin
        · rw [if_neg z] at fin
          by_cases zz : r_mp E ml f < r_mp E ml e
          · rw [decide_eq_true zz] at fin
            refine ev_icF rfl (by simp only [ick, w32]; omega) ?_
            iterate 5 (refine ev_st rfl rfl ?_)
            refine ev_icT rfl (by simp only [ick, w32]; omega) ?_
            exact fin
          · rw [decide_eq_false zz] at fin
            refine ev_icT rfl (by simp only [ick, w32]; omega) ?_
            iterate 4 (refine ev_st rfl rfl ?_)
            refine ev_icT rfl (by simp only [ick, w32]; omega) ?_
            exact fin
