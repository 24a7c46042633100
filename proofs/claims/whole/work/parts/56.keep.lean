-- what a call leaves is right again
def WOK (w : WD) : Prop := EOK w.1 w.2.1 ∧ VOK w.1 w.2.1 w.2.2
theorem vset_ok {N : Nat} {E : EL} {V : Nat → SV} {s : Nat} {W : SV} (hS : VOK N E V) (hW : SOK N E W) : VOK N E (v_set V s W) := by
  intro t ht
  unfold v_set
  split
  · exact hW
  · exact hS t ht
theorem enter_ok {N : Nat} {E : EL} {V : Nat → SV} {x : ED} (hE : EOK N E) (hS : VOK N E V) (hN : N < 400) (hx : evK N E x) : WOK (d_enter N E V x) := by
  have hE1 := hx.eok hE hN
  have hS1 : VOK (N + 1) (e_up E N x) V := fun s hs => x_SOK e_up_ag hE (hS s hs)
  exact ⟨hE1, vset_ok hS1 (recv_ok hE1.2.2.1 (by omega) (hS1 _ (Nat.mod_lt _ (by omega))))⟩
theorem state_ok {N : Nat} {E : EL} {kn : Nat → Bool} (hE : EOK N E) : sOK N E (m_state N E kn) := res_ok hE heads_lt
theorem send_ok {N : Nat} {E : EL} {V : Nat → SV} (hE : EOK N E) (hS : VOK N E V) {u k a b t : Int} (ha : InR a) (hb : InR b) (ht : InR t) : WOK (d_send N E V u k a b t).1 := by
  unfold d_send
  split
  · rename_i p
    split
    · exact ⟨hE, hS⟩
    · split
      · exact enter_ok hE hS (by have := hE.1; omega) (ev_K hE p ha hb ht tk_ok (state_ok hE) (res_ok hE tk_ok.2))
      · exact ⟨hE, hS⟩
  · exact ⟨hE, hS⟩
theorem forge_ok {N : Nat} {E : EL} {V : Nat → SV} (hE : EOK N E) (hS : VOK N E V) {u k a b t one two : Int} (ha : InR a) (hb : InR b) (ht : InR t) : WOK (d_forge N E V u k a b t one two).1 := by
  unfold d_forge
  split
  · rename_i p
    split
    · rename_i c
      rw [Bool.and_eq_true] at c
      split
      · exact ⟨hE, hS⟩
      · have hs4 : u.toNat % 4 < 4 := Nat.mod_lt _ (by omega)
        have tk := pair_ok (can_rng (hS _ hs4) c.1) (can_rng (hS _ hs4) c.2)
        have so := res_ok hE tk.2
        exact enter_ok hE hS (by have := hE.1; omega) (ev_K hE p ha hb ht ⟨by omega, tk.2⟩ so so)
    · exact ⟨hE, hS⟩
  · exact ⟨hE, hS⟩
theorem deliver_ok {N : Nat} {E : EL} {V : Nat → SV} (hE : EOK N E) (hS : VOK N E V) {s e : Int} : VOK N E (d_deliver N E V s e).1 := by
  unfold d_deliver
  split
  · rename_i z
    split
    · exact vset_ok hS (recv_ok hE.2.2.1 (by omega) (hS _ (d_srv_lt z)))
    · exact hS
  · exact hS
theorem sync_ok {N : Nat} {E : EL} {V : Nat → SV} (hE : EOK N E) (hS : VOK N E V) {f t : Int} : VOK N E (d_sync N E V f t).1 := by
  unfold d_sync
  split
  · rename_i z
    rw [Bool.and_eq_true] at z
    exact sy_ok hE.2.2.1 (d_srv_lt z.2) N 0 V (by omega) hS
  · exact hS
