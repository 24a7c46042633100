-- the class is made
theorem hX_fst {h : AH} {L : List AE} {n : Nat} : (hX h L n).1 = h.1 + L.length := rfl
theorem evX_aast {t : AT} {pc a b nx n m : Nat} {z ii : Int} {ts : List (Int × Nat)} {lv : AL} {r : List AV} {X : AH} {L : List AE} {o : Option AV × AH} {fs : List AV} {f : Nat → Option Nat} (i j k : Nat) (e : am_at t pc = (48, z, a, b, nx, ts)) (hh : L[i]? = some (.inl (a, m, .inr (.inr f)))) (hx : L[j]? = some (.inr (b, fs))) (hi : w32 ii = k) (hk : k < m) (kk : Ev t nx lv r (hX X (L.set i (.inl (a, m, .inr (.inr (va_up f k (some (X.1 + j))))))) n) o) : Ev t pc lv (vR (X.1 + j) :: .inl ii :: vR (X.1 + i) :: r) (hX X L n) o := by
  refine ev_aast k e (hX_at.trans hh) (hX_at.trans hx) hi hk ?_
  rw [hX_put (List.getElem?_eq_some_iff.1 hh).1]
  exact kk
theorem hX_cg {h : AH} {L L' : List AE} {n n' : Nat} {r : Option AV} (hl : L = L') (hn : n = n') : (r, hX h L n) = (r, hX h L' n') := by rw [hl, hn]
def svL (S : Nat) : List AE := [cSv (S + 1) (S + 3) (S + 5) none, cSet (S + 2), cLng fun _ => 0, cSet (S + 4), cLng fun _ => 0, cSet (S + 6), cLng fun _ => 0]
def rsL (Z : Nat) : List AE := [cRes Z, cSt (Z + 2), cEa 23 fun _ => none, cSt (Z + 4), cEa 23 fun _ => none, cSt (Z + 6), cEa 23 fun _ => none, cSet (Z + 8), cLng fun _ => 0, cSet (Z + 10), cLng fun _ => 0, cSet (Z + 12), cLng fun _ => 0, cSet (Z + 14), cLng fun _ => 0, cEa 400 fun _ => none, cEa 400 fun _ => none, cEa 400 fun _ => none, cIa 400 fun _ => 0]
def saF (B : Nat) : Nat → Option Nat := va_up (va_up (va_up (va_up (fun _ => none) 0 (some (B + 23))) 1 (some (B + 30))) 2 (some (B + 37))) 3 (some (B + 44))
def clL (B : Nat) : List AE := [cRF B, cLog (B + 2) 0, cEa 400 fun _ => none] ++ rsL (B + 3) ++ [cSa (saF B)] ++ svL (B + 23) ++ svL (B + 30) ++ svL (B + 37) ++ svL (B + 44)
set_option maxHeartbeats 8000000 in
theorem c_rfinit {X : AH} {n : Nat} {x0 x1 x2 : AV} (hO : hOK X) : Em mRF_init 1 [vR X.1] (hX X [.inr (0, [x0, x1, x2])] n) none (hX X (clL X.1) (n + 2233)) := by
  show Ev tRF_init 0 [some (vR (X.1 + 0)), none] [] _ _
  iterate 2 (refine ev_st rfl rfl ?_)
  iterate 3 (refine ev_st rfl rfl ?_)
  rw [hX_1 (hX_ok hO)]
  refine ev_callV rfl rfl ((hX_at (i := 0)).trans rfl) rfl c_loginit ?_
  rw [hX_hX]
  refine evX_putf 0 rfl rfl (Nat.le_of_ble_eq_true rfl) rfl ?_
  simp only [List.set, List.cons_append, List.nil_append, List.length_cons, List.length_nil, Nat.reduceAdd, List.map, hX_fst]
  iterate 3 (refine ev_st rfl rfl ?_)
  rw [hX_1 (hX_ok hO)]
  refine ev_callV rfl rfl ((hX_at (i := 0)).trans rfl) rfl c_rsinit ?_
  rw [hX_hX]
  refine evX_putf 0 rfl rfl (Nat.le_of_ble_eq_true rfl) rfl ?_
  simp only [List.set, List.cons_append, List.nil_append, List.length_cons, List.length_nil, Nat.reduceAdd, List.map, hX_fst]
  iterate 2 (refine ev_st rfl rfl ?_)
  refine evX_newa 4 rfl (by decide) (by decide) ?_
  refine evX_putf 0 rfl rfl (Nat.le_of_ble_eq_true rfl) rfl ?_
  simp only [List.set, List.cons_append, List.nil_append, List.length_cons, List.length_nil, Nat.reduceAdd, List.map, hX_fst]
  iterate 4 (refine ev_st rfl rfl ?_)
  refine ev_icF rfl (by simp only [ick, w32]; omega) ?_
  iterate 1 (refine ev_st rfl rfl ?_)
  refine ev_getf rfl ((hX_at (i := 0)).trans rfl) (by rfl) ?_
  iterate 3 (refine ev_st rfl rfl ?_)
  rw [hX_1 (hX_ok hO)]
  refine ev_callV rfl rfl ((hX_at (i := 0)).trans rfl) rfl c_svinit ?_
  rw [hX_hX]
  refine evX_aast 22 23 0 rfl rfl rfl (by decide) (by decide) ?_
  simp only [List.set, List.cons_append, List.nil_append, List.length_cons, List.length_nil, Nat.reduceAdd, List.map, hX_fst]
  iterate 4 (refine ev_st rfl rfl ?_)
  refine ev_icF rfl (by simp only [ick, w32]; omega) ?_
  iterate 1 (refine ev_st rfl rfl ?_)
  refine ev_getf rfl ((hX_at (i := 0)).trans rfl) (by rfl) ?_
  iterate 3 (refine ev_st rfl rfl ?_)
  rw [hX_1 (hX_ok hO)]
  refine ev_callV rfl rfl ((hX_at (i := 0)).trans rfl) rfl c_svinit ?_
  rw [hX_hX]
  refine evX_aast 22 30 1 rfl rfl rfl (by decide) (by decide) ?_
  simp only [List.set, List.cons_append, List.nil_append, List.length_cons, List.length_nil, Nat.reduceAdd, List.map, hX_fst]
  iterate 4 (refine ev_st rfl rfl ?_)
  refine ev_icF rfl (by simp only [ick, w32]; omega) ?_
  iterate 1 (refine ev_st rfl rfl ?_)
  refine ev_getf rfl ((hX_at (i := 0)).trans rfl) (by rfl) ?_
  iterate 3 (refine ev_st rfl rfl ?_)
  rw [hX_1 (hX_ok hO)]
  refine ev_callV rfl rfl ((hX_at (i := 0)).trans rfl) rfl c_svinit ?_
  rw [hX_hX]
  refine evX_aast 22 37 2 rfl rfl rfl (by decide) (by decide) ?_
  simp only [List.set, List.cons_append, List.nil_append, List.length_cons, List.length_nil, Nat.reduceAdd, List.map, hX_fst]
  iterate 4 (refine ev_st rfl rfl ?_)
  refine ev_icF rfl (by simp only [ick, w32]; omega) ?_
  iterate 1 (refine ev_st rfl rfl ?_)
  refine ev_getf rfl ((hX_at (i := 0)).trans rfl) (by rfl) ?_
  iterate 3 (refine ev_st rfl rfl ?_)
  rw [hX_1 (hX_ok hO)]
  refine ev_callV rfl rfl ((hX_at (i := 0)).trans rfl) rfl c_svinit ?_
  rw [hX_hX]
  refine evX_aast 22 44 3 rfl rfl rfl (by decide) (by decide) ?_
  simp only [List.set, List.cons_append, List.nil_append, List.length_cons, List.length_nil, Nat.reduceAdd, List.map, hX_fst]
  iterate 4 (refine ev_st rfl rfl ?_)
  refine ev_icT rfl (by simp only [ick, w32]; omega) ?_
  exact ev_rt rfl rfl (hX_cg rfl (by simp only [List.length_cons, List.length_nil]))
def V_0 : Nat → SV := fun _ => (fun _ => false, fun _ => false, fun _ => false)
theorem ok_0 {E : EL} : EOK 0 E ∧ VOK 0 E V_0 := by
  refine ⟨⟨by omega, fun n hn => by omega, fun n hn => by omega, fun n hn => by omega, fun n hn => by omega, fun n hn => by omega⟩, fun s hs => ⟨fun y hy => (by cases hy), fun y hy => (by cases hy), fun y hy => (by cases hy), fun y hy => (by cases hy), ?_⟩⟩
  rfl
theorem bS_n : bS (fun _ => (0 : BitVec 64)) = fun _ => false := by
  funext y
  simp [bS]
theorem cls_0 {H : AH} {B : Nat} {E : EL} {ad : Nat → Nat} (hO : hOK H) (hB : B + 81 ≤ H.1) (hc : ∀ i, i < 51 → H.2.2 (B + i) = (clL B)[i]?) : cls H B 0 E V_0 ad := by
  refine ⟨(hc 0 (by omega)).trans rfl, ⟨(hc 1 (by omega)).trans rfl, _, (hc 2 (by omega)).trans rfl, fun n hn => by omega⟩, ⟨fun _ => none, fun _ => none, fun _ => 0, fun _ => 0, fun _ => 0, fun _ => 0, fun _ => none, fun _ => none, fun _ => none, fun _ => 0, (hc 3 (by omega)).trans rfl, (hc 6 (by omega)).trans rfl, (hc 7 (by omega)).trans rfl, (hc 8 (by omega)).trans rfl, (hc 9 (by omega)).trans rfl, (hc 10 (by omega)).trans rfl, (hc 11 (by omega)).trans rfl, (hc 12 (by omega)).trans rfl, (hc 13 (by omega)).trans rfl, (hc 14 (by omega)).trans rfl, (hc 15 (by omega)).trans rfl, (hc 16 (by omega)).trans rfl, (hc 17 (by omega)).trans rfl, (hc 18 (by omega)).trans rfl, (hc 19 (by omega)).trans rfl, (hc 20 (by omega)).trans rfl, (hc 21 (by omega)).trans rfl⟩, ⟨B + 5, fun _ => none, ⟨⟨by omega, by omega⟩, by omega, by omega⟩, (hc 4 (by omega)).trans rfl, (hc 5 (by omega)).trans rfl, fun i hi => rfl⟩, ⟨_, (hc 22 (by omega)).trans rfl, fun s hs => ?_⟩, fun s hs => ⟨none, ?_, fun x hx => by cases hx⟩, fun n hn => by omega, hO, hB⟩
  · rcases (show s = 0 ∨ s = 1 ∨ s = 2 ∨ s = 3 by omega) with rfl | rfl | rfl | rfl <;> rfl
  · refine ⟨fun _ => 0, fun _ => 0, fun _ => 0, ?_, bS_n, bS_n, bS_n⟩
    rcases (show s = 0 ∨ s = 1 ∨ s = 2 ∨ s = 3 by omega) with rfl | rfl | rfl | rfl
    · exact ⟨(hc 23 (by omega)).trans rfl, (hc 24 (by omega)).trans rfl, (hc 25 (by omega)).trans rfl, (hc 26 (by omega)).trans rfl, (hc 27 (by omega)).trans rfl, (hc 28 (by omega)).trans rfl, (hc 29 (by omega)).trans rfl⟩
    · exact ⟨(hc 30 (by omega)).trans rfl, (hc 31 (by omega)).trans rfl, (hc 32 (by omega)).trans rfl, (hc 33 (by omega)).trans rfl, (hc 34 (by omega)).trans rfl, (hc 35 (by omega)).trans rfl, (hc 36 (by omega)).trans rfl⟩
    · exact ⟨(hc 37 (by omega)).trans rfl, (hc 38 (by omega)).trans rfl, (hc 39 (by omega)).trans rfl, (hc 40 (by omega)).trans rfl, (hc 41 (by omega)).trans rfl, (hc 42 (by omega)).trans rfl, (hc 43 (by omega)).trans rfl⟩
    · exact ⟨(hc 44 (by omega)).trans rfl, (hc 45 (by omega)).trans rfl, (hc 46 (by omega)).trans rfl, (hc 47 (by omega)).trans rfl, (hc 48 (by omega)).trans rfl, (hc 49 (by omega)).trans rfl, (hc 50 (by omega)).trans rfl⟩
