-- class and reference side by side
set_option maxRecDepth 20000
theorem vset_h {V : Nat → SV} {s : Nat} {W : SV} (hH : HOK V) (hW : b_cnt 448 W.2.1 ≤ 32) : HOK (v_set V s W) := by
  intro t ht
  unfold v_set
  split
  · exact hW
  · exact hH t ht
theorem enter_h {N : Nat} {E : EL} {V : Nat → SV} {x : ED} (hH : HOK V) (hN : N ≤ 400) : HOK (d_enter N E V x).2.2 := vset_h hH (recv_h (by omega) (hH _ (Nat.mod_lt _ (by omega))))
theorem send_h {N : Nat} {E : EL} {V : Nat → SV} (hH : HOK V) (hN : N ≤ 400) {u k a b t : Int} : HOK (d_send N E V u k a b t).1.2.2 := by
  unfold d_send
  split
  · split
    · exact hH
    · split
      · exact enter_h hH hN
      · exact hH
  · exact hH
theorem forge_h {N : Nat} {E : EL} {V : Nat → SV} (hH : HOK V) (hN : N ≤ 400) {u k a b t one two : Int} : HOK (d_forge N E V u k a b t one two).1.2.2 := by
  unfold d_forge
  split
  · split
    · split
      · exact hH
      · exact enter_h hH hN
    · exact hH
  · exact hH
theorem deliver_h {N : Nat} {E : EL} {V : Nat → SV} (hH : HOK V) (hN : N ≤ 400) {s e : Int} : HOK (d_deliver N E V s e).1 := by
  unfold d_deliver
  split
  · rename_i z
    split
    · exact vset_h hH (recv_h (by omega) (hH _ (d_srv_lt z)))
    · exact hH
  · exact hH
theorem sy_h {N : Nat} {E : EL} {f t : Nat} (ht : t < 4) : ∀ (k n : Nat) (V : Nat → SV), n + k ≤ 448 → HOK V → HOK (d_sy N E f t k n V) := by
  intro k
  induction k with
  | zero => intro n V _ h; exact h
  | succ k ih =>
    intro n V hn h
    refine ih (n + 1) _ (by omega) ?_
    unfold d_sy1
    cases (V f).1 n
    · exact h
    · exact vset_h h (recv_h (by omega) (h t ht))
theorem sync_h {N : Nat} {E : EL} {V : Nat → SV} (hH : HOK V) (hN : N ≤ 400) {f t : Int} : HOK (d_sync N E V f t).1 := by
  unfold d_sync
  split
  · rename_i z
    rw [Bool.and_eq_true] at z
    exact sy_h (d_srv_lt z.2) N 0 V (by omega) hH
  · exact hH
theorem cls.md {h : AH} {B N : Nat} {E : EL} {V : Nat → SV} {ad : Nat → Nat} {C : RM} (q : cls h B N E V ad) : cls (hM h (B + 51) C) B N E V ad := by
  have h10 := q.2.2.2.2.2.2.2.2
  have hf : fz (RW B h.1) h (hM h (B + 51) C) := fun a ha => hM_lo (by have := ha.1; omega)
  refine q.upd (Nat.le_refl _) (fun a e ha => ?_) hf (hM_lo (by omega)) (hM_lo (by omega)) (q.2.1.cg (hM_lo (by omega)) (hM_lo (by omega))) (q.2.2.1.cg (fun i hi => hM_lo (by omega))) (fun s hs => ?_) (q.2.2.2.2.2.2.1.fz hf)
  · show a < h.1
    by_cases hb : B + 51 ≤ a ∧ a < B + 51 + 30
    · omega
    · rw [hM_lo hb] at ha
      exact q.2.2.2.2.2.2.2.1 a e ha
  · obtain ⟨nw, a, b⟩ := q.2.2.2.2.2.1 s hs
    exact ⟨nw, a.cg (fun i hi => hM_lo (by omega)), fun x hx => (b x hx).fz hf⟩
-- the cells of the reference stay where the class works
theorem hM_clf {h h1 : AH} {B : Nat} {C : RM} (hm : hM h (B + 51) C = h) (hB : B + 81 ≤ h.1) (f : clf B h h1) : hM h1 (B + 51) C = h1 := by
  refine Prod.ext rfl (Prod.ext rfl ?_)
  funext a
  by_cases hb : B + 51 ≤ a ∧ a < B + 51 + 30
  · have e1 : h1.2.2 a = h.2.2 a := f.2 a (by omega) (by omega)
    rw [e1]
    have e2 : (hM h (B + 51) C).2.2 a = h.2.2 a := by rw [hm]
    rw [← e2]
    by_cases hc : a = B + 51
    · rw [hc]; exact hM_0.trans hM_0.symm
    · obtain ⟨j, rfl⟩ : ∃ j, a = B + 51 + (j + 1) := ⟨a - (B + 51) - 1, by omega⟩
      exact (hM_a j (by omega)).trans (hM_a j (by omega)).symm
  · exact hM_lo hb
def LI (B b L : Nat) (f : Nat → Int) (w : WD) (H : AH) : Prop := ∃ C ad, hM H (B + 51) C = H ∧ cls H B w.1 w.2.1 w.2.2 ad ∧ rE C w.1 w.2.1 ∧ rV C w.1 w.2.1 w.2.2 ∧ WOK w ∧ HOK w.2.2 ∧ H.2.2 b = some (.inl (99, L, .inl f)) ∧ b < B
theorem LI.op {B b L : Nat} {f : Nat → Int} {w w' : WD} {H : AH} {mR mM kR kM : Nat} {args : List AV} {v : Int} (li : LI B b L f w H) (hc : ∀ ad, cls H B w.1 w.2.1 w.2.2 ad → ∃ h' ad', Em mR kR (vR B :: args) H (some (.inl v)) h' ∧ cls h' B w'.1 w'.2.1 w'.2.2 ad' ∧ clf B H h' ∧ few 14 140 H h') (hm : ∀ (h : AH) (C : RM), rE C w.1 w.2.1 → rV C w.1 w.2.1 w.2.2 → ∃ C', Em mM kM (vR (B + 51) :: args) (hM h (B + 51) C) (some (.inl v)) (hM h (B + 51) C') ∧ rE C' w'.1 w'.2.1 ∧ rV C' w'.1 w'.2.1 w'.2.2) (hw : WOK w') (hh : HOK w'.2.2) : ∃ H1 H2, Em mR kR (vR B :: args) H (some (.inl v)) H1 ∧ Em mM kM (vR (B + 51) :: args) H1 (some (.inl v)) H2 ∧ LI B b L f w' H2 ∧ few 14 140 H H2 ∧ H1.2.2 b = some (.inl (99, L, .inl f)) ∧ H.2.2 b = some (.inl (99, L, .inl f)) ∧ H.2.2 B = some (cRF B) ∧ ∃ fs, H1.2.2 (B + 51) = some (.inr (7, fs)) := by
  obtain ⟨C, ad, l1, l2, l3, l4, l5, l6, l7, l8⟩ := li
  obtain ⟨H1, ad', c1, c2, c3, c4⟩ := hc ad l2
  obtain ⟨C', m1, m2, m3⟩ := hm H1 C l3 l4
  have hB := l2.2.2.2.2.2.2.2.2
  have e1 := hM_clf l1 hB c3
  have b1 : H1.2.2 b = some (.inl (99, L, .inl f)) := (c3.2 b (by omega) (by omega)).trans l7
  rw [e1] at m1
  refine ⟨H1, hM H1 (B + 51) C', c1, m1, ⟨C', ad', hM_hM, c2.md, m2, m3, hw, hh, (hM_lo (by omega)).trans b1, l8⟩, ?_, b1, l7, l2.1, ?_⟩
  · exact c4
  · rw [← e1]
    exact ⟨_, hM_0⟩
theorem LI.send {B b L : Nat} {f : Nat → Int} {w : WD} {H : AH} (li : LI B b L f w H) {u k a d t : Int} (hu : InR u) (hk : InR k) (ha : InR a) (hd : InR d) (ht : InR t) : ∃ v w' H1 H2, Em mRF_send 4 [vR B, .inl u, .inl k, .inl a, .inl d, .inl t] H (some (.inl v)) H1 ∧ Em mMd_send 3 [vR (B + 51), .inl u, .inl k, .inl a, .inl d, .inl t] H1 (some (.inl v)) H2 ∧ LI B b L f w' H2 ∧ few 14 140 H H2 ∧ H1.2.2 b = some (.inl (99, L, .inl f)) ∧ H.2.2 b = some (.inl (99, L, .inl f)) ∧ H.2.2 B = some (cRF B) ∧ ∃ fs, H1.2.2 (B + 51) = some (.inr (7, fs)) := by
  obtain ⟨C, ad, l1, l2, l3, l4, ⟨hE, hS⟩, l6, l7, l8⟩ := id li
  exact ⟨_, _, li.op (w' := (d_send w.1 w.2.1 w.2.2 u k a d t).1) (fun ad q => c_send q hE hS hu hk ha hd ht) (fun h C q rv => c_msend hE hS q rv hu hk ha hd ht) (send_ok hE hS ha hd ht) (send_h l6 hE.1)⟩
theorem LI.forge {B b L : Nat} {f : Nat → Int} {w : WD} {H : AH} (li : LI B b L f w H) {u k a d t one two : Int} (hu : InR u) (hk : InR k) (ha : InR a) (hd : InR d) (ht : InR t) (ho : InR one) (hw : InR two) : ∃ v w' H1 H2, Em mRF_forge 3 [vR B, .inl u, .inl k, .inl a, .inl d, .inl t, .inl one, .inl two] H (some (.inl v)) H1 ∧ Em mMd_forge 3 [vR (B + 51), .inl u, .inl k, .inl a, .inl d, .inl t, .inl one, .inl two] H1 (some (.inl v)) H2 ∧ LI B b L f w' H2 ∧ few 14 140 H H2 ∧ H1.2.2 b = some (.inl (99, L, .inl f)) ∧ H.2.2 b = some (.inl (99, L, .inl f)) ∧ H.2.2 B = some (cRF B) ∧ ∃ fs, H1.2.2 (B + 51) = some (.inr (7, fs)) := by
  obtain ⟨C, ad, l1, l2, l3, l4, ⟨hE, hS⟩, l6, l7, l8⟩ := id li
  exact ⟨_, _, li.op (w' := (d_forge w.1 w.2.1 w.2.2 u k a d t one two).1) (fun ad q => c_forge q hE hS hu hk ha hd ht ho hw) (fun h C q rv => c_mforge hE hS q rv hu hk ha hd ht ho hw) (forge_ok hE hS ha hd ht) (forge_h l6 hE.1)⟩
theorem few.up {k n k' n' : Nat} {h h' : AH} (q : few k n h h') (hk : k ≤ k') (hn : n ≤ n') : few k' n' h h' := by
  obtain ⟨a, b⟩ := q
  exact ⟨by omega, by omega⟩
theorem LI.deliver {B b L : Nat} {f : Nat → Int} {w : WD} {H : AH} (li : LI B b L f w H) {s e : Int} (hs : InR s) (he : InR e) : ∃ v w' H1 H2, Em mRF_deliver 2 [vR B, .inl s, .inl e] H (some (.inl v)) H1 ∧ Em mMd_deliver 2 [vR (B + 51), .inl s, .inl e] H1 (some (.inl v)) H2 ∧ LI B b L f w' H2 ∧ few 14 140 H H2 ∧ H1.2.2 b = some (.inl (99, L, .inl f)) ∧ H.2.2 b = some (.inl (99, L, .inl f)) ∧ H.2.2 B = some (cRF B) ∧ ∃ fs, H1.2.2 (B + 51) = some (.inr (7, fs)) := by
  obtain ⟨C, ad, l1, l2, l3, l4, ⟨hE, hS⟩, l6, l7, l8⟩ := id li
  exact ⟨_, _, li.op (w' := (w.1, w.2.1, (d_deliver w.1 w.2.1 w.2.2 s e).1)) (fun ad q => by
    obtain ⟨h', a1, a2, a3, a4⟩ := c_deliver q hE hS hs he
    exact ⟨h', ad, a1, a2, a3, a4.up (by omega) (by omega)⟩) (fun h C q rv => c_mdeliver hE hS l6 q rv hs he) ⟨hE, deliver_ok hE hS⟩ (deliver_h l6 hE.1)⟩
theorem LI.sync {B b L : Nat} {f : Nat → Int} {w : WD} {H : AH} (li : LI B b L f w H) {s e : Int} (hs : InR s) (he : InR e) : ∃ v w' H1 H2, Em mRF_sync 5 [vR B, .inl s, .inl e] H (some (.inl v)) H1 ∧ Em mMd_sync 2 [vR (B + 51), .inl s, .inl e] H1 (some (.inl v)) H2 ∧ LI B b L f w' H2 ∧ few 14 140 H H2 ∧ H1.2.2 b = some (.inl (99, L, .inl f)) ∧ H.2.2 b = some (.inl (99, L, .inl f)) ∧ H.2.2 B = some (cRF B) ∧ ∃ fs, H1.2.2 (B + 51) = some (.inr (7, fs)) := by
  obtain ⟨C, ad, l1, l2, l3, l4, ⟨hE, hS⟩, l6, l7, l8⟩ := id li
  exact ⟨_, _, li.op (w' := (w.1, w.2.1, (d_sync w.1 w.2.1 w.2.2 s e).1)) (fun ad q => by
    obtain ⟨h', a1, a2, a3, a4⟩ := c_sync q hE hS hs he
    exact ⟨h', ad, a1, a2, a3, a4.up (by omega) (by omega)⟩) (fun h C q rv => c_msync hE hS q rv hs he) ⟨hE, sync_ok hE hS⟩ (sync_h l6 hE.1)⟩
theorem LI.state {B b L : Nat} {f : Nat → Int} {w : WD} {H : AH} (li : LI B b L f w H) {s k y : Int} (hs : InR s) (hk : InR k) (hy : InR y) : ∃ v w' H1 H2, Em mRF_state 1 [vR B, .inl s, .inl k, .inl y] H (some (.inl v)) H1 ∧ Em mMd_state 1 [vR (B + 51), .inl s, .inl k, .inl y] H1 (some (.inl v)) H2 ∧ LI B b L f w' H2 ∧ few 14 140 H H2 ∧ H1.2.2 b = some (.inl (99, L, .inl f)) ∧ H.2.2 b = some (.inl (99, L, .inl f)) ∧ H.2.2 B = some (cRF B) ∧ ∃ fs, H1.2.2 (B + 51) = some (.inr (7, fs)) := by
  obtain ⟨C, ad, l1, l2, l3, l4, ⟨hE, hS⟩, l6, l7, l8⟩ := id li
  exact ⟨_, _, li.op (w' := w) (fun ad q => by
    obtain ⟨h', a1, a2, a3, a4⟩ := c_state q hE hS hs hk hy
    exact ⟨h', ad, a1, a2, a3, a4.up (by omega) (by omega)⟩) (fun h C q rv => ⟨C, c_mstate hE rv hs hk hy, q, rv⟩) ⟨hE, hS⟩ l6⟩
theorem LI.before {B b L : Nat} {f : Nat → Int} {w : WD} {H : AH} (li : LI B b L f w H) {s k y : Int} (hs : InR s) (hk : InR k) (hy : InR y) : ∃ v w' H1 H2, Em mRF_before 1 [vR B, .inl s, .inl k, .inl y] H (some (.inl v)) H1 ∧ Em mMd_before 1 [vR (B + 51), .inl s, .inl k, .inl y] H1 (some (.inl v)) H2 ∧ LI B b L f w' H2 ∧ few 14 140 H H2 ∧ H1.2.2 b = some (.inl (99, L, .inl f)) ∧ H.2.2 b = some (.inl (99, L, .inl f)) ∧ H.2.2 B = some (cRF B) ∧ ∃ fs, H1.2.2 (B + 51) = some (.inr (7, fs)) := by
  obtain ⟨C, ad, l1, l2, l3, l4, ⟨hE, hS⟩, l6, l7, l8⟩ := id li
  exact ⟨_, _, li.op (w' := w) (fun ad q => ⟨H, ad, c_before q hE hs hk hy, q, clf.rf, few.rf⟩) (fun h C q rv => ⟨C, c_mbefore hE q hs hk hy, q, rv⟩) ⟨hE, hS⟩ l6⟩
theorem LI.look {B b L : Nat} {f : Nat → Int} {w : WD} {H : AH} (li : LI B b L f w H) {s e : Int} (hs : InR s) (he : InR e) : ∃ v w' H1 H2, Em mRF_look 1 [vR B, .inl s, .inl e] H (some (.inl v)) H1 ∧ Em mMd_look 0 [vR (B + 51), .inl s, .inl e] H1 (some (.inl v)) H2 ∧ LI B b L f w' H2 ∧ few 14 140 H H2 ∧ H1.2.2 b = some (.inl (99, L, .inl f)) ∧ H.2.2 b = some (.inl (99, L, .inl f)) ∧ H.2.2 B = some (cRF B) ∧ ∃ fs, H1.2.2 (B + 51) = some (.inr (7, fs)) := by
  obtain ⟨C, ad, l1, l2, l3, l4, ⟨hE, hS⟩, l6, l7, l8⟩ := id li
  exact ⟨_, _, li.op (w' := w) (fun ad q => ⟨H, ad, c_look q hE hs he, q, clf.rf, few.rf⟩) (fun h C q rv => ⟨C, c_mlook hE q hs he, q, rv⟩) ⟨hE, hS⟩ l6⟩
theorem LI.level {B b L : Nat} {f : Nat → Int} {w : WD} {H : AH} (li : LI B b L f w H) {s e : Int} (hs : InR s) (he : InR e) : ∃ v w' H1 H2, Em mRF_level 1 [vR B, .inl s, .inl e] H (some (.inl v)) H1 ∧ Em mMd_level 0 [vR (B + 51), .inl s, .inl e] H1 (some (.inl v)) H2 ∧ LI B b L f w' H2 ∧ few 14 140 H H2 ∧ H1.2.2 b = some (.inl (99, L, .inl f)) ∧ H.2.2 b = some (.inl (99, L, .inl f)) ∧ H.2.2 B = some (cRF B) ∧ ∃ fs, H1.2.2 (B + 51) = some (.inr (7, fs)) := by
  obtain ⟨C, ad, l1, l2, l3, l4, ⟨hE, hS⟩, l6, l7, l8⟩ := id li
  exact ⟨_, _, li.op (w' := w) (fun ad q => by
    obtain ⟨h', a1, a2, a3, a4⟩ := c_level q hE hS hs he
    exact ⟨h', ad, a1, a2, a3, a4.up (by omega) (by omega)⟩) (fun h C q rv => ⟨C, c_mlev hE q rv hs he, q, rv⟩) ⟨hE, hS⟩ l6⟩
theorem LI.knows {B b L : Nat} {f : Nat → Int} {w : WD} {H : AH} (li : LI B b L f w H) {s e : Int} (hs : InR s) (he : InR e) : ∃ v w' H1 H2, Em mRF_knows 1 [vR B, .inl s, .inl e] H (some (.inl v)) H1 ∧ Em mMd_knows 0 [vR (B + 51), .inl s, .inl e] H1 (some (.inl v)) H2 ∧ LI B b L f w' H2 ∧ few 14 140 H H2 ∧ H1.2.2 b = some (.inl (99, L, .inl f)) ∧ H.2.2 b = some (.inl (99, L, .inl f)) ∧ H.2.2 B = some (cRF B) ∧ ∃ fs, H1.2.2 (B + 51) = some (.inr (7, fs)) := by
  obtain ⟨C, ad, l1, l2, l3, l4, ⟨hE, hS⟩, l6, l7, l8⟩ := id li
  exact ⟨_, _, li.op (w' := w) (fun ad q => ⟨H, ad, c_knows q hs he, q, clf.rf, few.rf⟩) (fun h C q rv => ⟨C, c_mknows hE hS q rv hs he, q, rv⟩) ⟨hE, hS⟩ l6⟩
theorem LI.head {B b L : Nat} {f : Nat → Int} {w : WD} {H : AH} (li : LI B b L f w H) {s e : Int} (hs : InR s) (he : InR e) : ∃ v w' H1 H2, Em mRF_head 1 [vR B, .inl s, .inl e] H (some (.inl v)) H1 ∧ Em mMd_head 2 [vR (B + 51), .inl s, .inl e] H1 (some (.inl v)) H2 ∧ LI B b L f w' H2 ∧ few 14 140 H H2 ∧ H1.2.2 b = some (.inl (99, L, .inl f)) ∧ H.2.2 b = some (.inl (99, L, .inl f)) ∧ H.2.2 B = some (cRF B) ∧ ∃ fs, H1.2.2 (B + 51) = some (.inr (7, fs)) := by
  obtain ⟨C, ad, l1, l2, l3, l4, ⟨hE, hS⟩, l6, l7, l8⟩ := id li
  exact ⟨_, _, li.op (w' := w) (fun ad q => ⟨H, ad, c_head q hE.1 hs he, q, clf.rf, few.rf⟩) (fun h C q rv => ⟨C, c_mhd hE hS q rv hs he, q, rv⟩) ⟨hE, hS⟩ l6⟩
theorem LI.count {B b L : Nat} {f : Nat → Int} {w : WD} {H : AH} (li : LI B b L f w H) {s e : Int} (hs : InR s) (he : InR e) : ∃ v w' H1 H2, Em mRF_count 1 [vR B, .inl s, .inl e] H (some (.inl v)) H1 ∧ Em mMd_count 2 [vR (B + 51), .inl s, .inl e] H1 (some (.inl v)) H2 ∧ LI B b L f w' H2 ∧ few 14 140 H H2 ∧ H1.2.2 b = some (.inl (99, L, .inl f)) ∧ H.2.2 b = some (.inl (99, L, .inl f)) ∧ H.2.2 B = some (cRF B) ∧ ∃ fs, H1.2.2 (B + 51) = some (.inr (7, fs)) := by
  obtain ⟨C, ad, l1, l2, l3, l4, ⟨hE, hS⟩, l6, l7, l8⟩ := id li
  exact ⟨_, _, li.op (w' := w) (fun ad q => by
    obtain ⟨h', a1, a2, a3, a4⟩ := c_count q hE hS hs he
    exact ⟨h', ad, a1, a2, a3, a4.up (by omega) (by omega)⟩) (fun h C q rv => ⟨C, c_mcount hE hS q rv hs he, q, rv⟩) ⟨hE, hS⟩ l6⟩
theorem LI.events {B b L : Nat} {f : Nat → Int} {w : WD} {H : AH} (li : LI B b L f w H) : ∃ v w' H1 H2, Em mRF_events 0 [vR B] H (some (.inl v)) H1 ∧ Em mMd_events 0 [vR (B + 51)] H1 (some (.inl v)) H2 ∧ LI B b L f w' H2 ∧ few 14 140 H H2 ∧ H1.2.2 b = some (.inl (99, L, .inl f)) ∧ H.2.2 b = some (.inl (99, L, .inl f)) ∧ H.2.2 B = some (cRF B) ∧ ∃ fs, H1.2.2 (B + 51) = some (.inr (7, fs)) := by
  obtain ⟨C, ad, l1, l2, l3, l4, ⟨hE, hS⟩, l6, l7, l8⟩ := id li
  exact ⟨_, _, li.op (w' := w) (args := []) (fun ad q => ⟨H, ad, c_events q, q, clf.rf, few.rf⟩) (fun h C q rv => ⟨C, c_mevents q.1, q, rv⟩) ⟨hE, hS⟩ l6⟩
