-- Event's questions, the log
theorem id_rng (n : Nat) : 0 ≤ e_id n ∧ e_id n < 65536 := by
  unfold e_id
  have := Nat.mod_lt (n * 40503) (show 0 < 65536 by decide)
  omega
set_option maxHeartbeats 2000000 in
theorem c_isPow {h : AH} {v n c pa : Nat} {x : ED} {gr lv er bh : Option Nat} {sl gd : Int} (hv : h.2.2 v = some (cEv n x c pa gr sl lv er bh gd)) (wf : wfE x) : Em mEvent_isPowerful 0 [vR v] h (some (vB (e_pow x))) h := by
  have hk := wf.2.1
  have hs := wf.1
  have ha := wf.2.2.2.2.1
  have hb := wf.2.2.2.2.2.1
  unfold InR at ha hb
  show Ev tEvent_isPowerful 0 [some (vR v)] [] h _
  unfold e_pow
  repeat (first | refine ev_st rfl rfl ?_ | refine ev_getf rfl (by first | assumption | exact ah_eq | (refine ah_ne (by omega) ?_; first | assumption | exact ah_eq | (refine ah_ne (by omega) ?_; first | assumption | exact ah_eq | (refine ah_ne (by omega) ?_; first | assumption | exact ah_eq)))) (by rfl) ?_)
  by_cases k2 : e_kd x = 2
  · rw [decide_eq_true k2]
    repeat (first | refine ev_st rfl rfl ?_ | refine ev_getf rfl (by first | assumption | exact ah_eq | (refine ah_ne (by omega) ?_; first | assumption | exact ah_eq | (refine ah_ne (by omega) ?_; first | assumption | exact ah_eq | (refine ah_ne (by omega) ?_; first | assumption | exact ah_eq)))) (by rfl) ?_ | refine ev_ifT rfl (by simp only [ick, w32]; omega) ?_ | refine ev_ifF rfl (by simp only [ick, w32]; omega) ?_ | refine ev_icT rfl (by simp only [ick, w32]; omega) ?_ | refine ev_icF rfl (by simp only [ick, w32]; omega) ?_)
    exact ev_rt rfl rfl rfl
  rw [decide_eq_false k2, Bool.false_or]
  refine ev_icF rfl (by simp only [ick, w32]; omega) ?_
  repeat (first | refine ev_st rfl rfl ?_ | refine ev_getf rfl (by first | assumption | exact ah_eq | (refine ah_ne (by omega) ?_; first | assumption | exact ah_eq | (refine ah_ne (by omega) ?_; first | assumption | exact ah_eq | (refine ah_ne (by omega) ?_; first | assumption | exact ah_eq)))) (by rfl) ?_)
  by_cases k3 : e_kd x = 3
  · rw [decide_eq_true k3]
    repeat (first | refine ev_st rfl rfl ?_ | refine ev_getf rfl (by first | assumption | exact ah_eq | (refine ah_ne (by omega) ?_; first | assumption | exact ah_eq | (refine ah_ne (by omega) ?_; first | assumption | exact ah_eq | (refine ah_ne (by omega) ?_; first | assumption | exact ah_eq)))) (by rfl) ?_ | refine ev_ifT rfl (by simp only [ick, w32]; omega) ?_ | refine ev_ifF rfl (by simp only [ick, w32]; omega) ?_ | refine ev_icT rfl (by simp only [ick, w32]; omega) ?_ | refine ev_icF rfl (by simp only [ick, w32]; omega) ?_)
    exact ev_rt rfl rfl rfl
  rw [decide_eq_false k3, Bool.false_or]
  refine ev_icF rfl (by simp only [ick, w32]; omega) ?_
  repeat (first | refine ev_st rfl rfl ?_ | refine ev_getf rfl (by first | assumption | exact ah_eq | (refine ah_ne (by omega) ?_; first | assumption | exact ah_eq | (refine ah_ne (by omega) ?_; first | assumption | exact ah_eq | (refine ah_ne (by omega) ?_; first | assumption | exact ah_eq)))) (by rfl) ?_)
  by_cases k1 : e_kd x = 1
  · rw [decide_eq_true k1, Bool.true_and]
    refine ev_icF rfl (by simp only [ick, w32]; omega) ?_
    repeat (first | refine ev_st rfl rfl ?_ | refine ev_getf rfl (by first | assumption | exact ah_eq | (refine ah_ne (by omega) ?_; first | assumption | exact ah_eq | (refine ah_ne (by omega) ?_; first | assumption | exact ah_eq | (refine ah_ne (by omega) ?_; first | assumption | exact ah_eq)))) (by rfl) ?_)
    by_cases hq : e_sd x = e_a x
    · rw [decide_eq_true hq]
      simp only [Bool.not_true, Bool.and_false]
      by_cases b0 : e_b x = 0
      · repeat (first | refine ev_st rfl rfl ?_ | refine ev_getf rfl (by first | assumption | exact ah_eq | (refine ah_ne (by omega) ?_; first | assumption | exact ah_eq | (refine ah_ne (by omega) ?_; first | assumption | exact ah_eq | (refine ah_ne (by omega) ?_; first | assumption | exact ah_eq)))) (by rfl) ?_ | refine ev_ifT rfl (by simp only [ick, w32]; omega) ?_ | refine ev_ifF rfl (by simp only [ick, w32]; omega) ?_ | refine ev_icT rfl (by simp only [ick, w32]; omega) ?_ | refine ev_icF rfl (by simp only [ick, w32]; omega) ?_)
        exact ev_rt rfl rfl rfl
      · refine ev_ifF rfl (by simp only [ick, w32]; omega) ?_
        repeat (first | refine ev_st rfl rfl ?_ | refine ev_getf rfl (by first | assumption | exact ah_eq | (refine ah_ne (by omega) ?_; first | assumption | exact ah_eq | (refine ah_ne (by omega) ?_; first | assumption | exact ah_eq | (refine ah_ne (by omega) ?_; first | assumption | exact ah_eq)))) (by rfl) ?_)
        by_cases b3 : e_b x = 3
        · repeat (first | refine ev_st rfl rfl ?_ | refine ev_getf rfl (by first | assumption | exact ah_eq | (refine ah_ne (by omega) ?_; first | assumption | exact ah_eq | (refine ah_ne (by omega) ?_; first | assumption | exact ah_eq | (refine ah_ne (by omega) ?_; first | assumption | exact ah_eq)))) (by rfl) ?_ | refine ev_ifT rfl (by simp only [ick, w32]; omega) ?_ | refine ev_ifF rfl (by simp only [ick, w32]; omega) ?_ | refine ev_icT rfl (by simp only [ick, w32]; omega) ?_ | refine ev_icF rfl (by simp only [ick, w32]; omega) ?_)
          exact ev_rt rfl rfl rfl
        · repeat (first | refine ev_st rfl rfl ?_ | refine ev_getf rfl (by first | assumption | exact ah_eq | (refine ah_ne (by omega) ?_; first | assumption | exact ah_eq | (refine ah_ne (by omega) ?_; first | assumption | exact ah_eq | (refine ah_ne (by omega) ?_; first | assumption | exact ah_eq)))) (by rfl) ?_ | refine ev_ifT rfl (by simp only [ick, w32]; omega) ?_ | refine ev_ifF rfl (by simp only [ick, w32]; omega) ?_ | refine ev_icT rfl (by simp only [ick, w32]; omega) ?_ | refine ev_icF rfl (by simp only [ick, w32]; omega) ?_)
          exact ev_rt rfl rfl rfl
    · rw [decide_eq_false hq]
      simp only [Bool.not_false, Bool.and_true]
      by_cases b0 : e_b x = 0
      · rw [decide_eq_true b0]
        repeat (first | refine ev_st rfl rfl ?_ | refine ev_getf rfl (by first | assumption | exact ah_eq | (refine ah_ne (by omega) ?_; first | assumption | exact ah_eq | (refine ah_ne (by omega) ?_; first | assumption | exact ah_eq | (refine ah_ne (by omega) ?_; first | assumption | exact ah_eq)))) (by rfl) ?_ | refine ev_ifT rfl (by simp only [ick, w32]; omega) ?_ | refine ev_ifF rfl (by simp only [ick, w32]; omega) ?_ | refine ev_icT rfl (by simp only [ick, w32]; omega) ?_ | refine ev_icF rfl (by simp only [ick, w32]; omega) ?_)
        exact ev_rt rfl rfl rfl
      · rw [decide_eq_false b0]
        refine ev_ifF rfl (by simp only [ick, w32]; omega) ?_
        repeat (first | refine ev_st rfl rfl ?_ | refine ev_getf rfl (by first | assumption | exact ah_eq | (refine ah_ne (by omega) ?_; first | assumption | exact ah_eq | (refine ah_ne (by omega) ?_; first | assumption | exact ah_eq | (refine ah_ne (by omega) ?_; first | assumption | exact ah_eq)))) (by rfl) ?_)
        by_cases b3 : e_b x = 3
        · rw [decide_eq_true b3]
          repeat (first | refine ev_st rfl rfl ?_ | refine ev_getf rfl (by first | assumption | exact ah_eq | (refine ah_ne (by omega) ?_; first | assumption | exact ah_eq | (refine ah_ne (by omega) ?_; first | assumption | exact ah_eq | (refine ah_ne (by omega) ?_; first | assumption | exact ah_eq)))) (by rfl) ?_ | refine ev_ifT rfl (by simp only [ick, w32]; omega) ?_ | refine ev_ifF rfl (by simp only [ick, w32]; omega) ?_ | refine ev_icT rfl (by simp only [ick, w32]; omega) ?_ | refine ev_icF rfl (by simp only [ick, w32]; omega) ?_)
          exact ev_rt rfl rfl rfl
        · rw [decide_eq_false b3]
          repeat (first | refine ev_st rfl rfl ?_ | refine ev_getf rfl (by first | assumption | exact ah_eq | (refine ah_ne (by omega) ?_; first | assumption | exact ah_eq | (refine ah_ne (by omega) ?_; first | assumption | exact ah_eq | (refine ah_ne (by omega) ?_; first | assumption | exact ah_eq)))) (by rfl) ?_ | refine ev_ifT rfl (by simp only [ick, w32]; omega) ?_ | refine ev_ifF rfl (by simp only [ick, w32]; omega) ?_ | refine ev_icT rfl (by simp only [ick, w32]; omega) ?_ | refine ev_icF rfl (by simp only [ick, w32]; omega) ?_)
          exact ev_rt rfl rfl rfl
  · rw [decide_eq_false k1, Bool.false_and]
    repeat (first | refine ev_st rfl rfl ?_ | refine ev_getf rfl (by first | assumption | exact ah_eq | (refine ah_ne (by omega) ?_; first | assumption | exact ah_eq | (refine ah_ne (by omega) ?_; first | assumption | exact ah_eq | (refine ah_ne (by omega) ?_; first | assumption | exact ah_eq)))) (by rfl) ?_ | refine ev_ifT rfl (by simp only [ick, w32]; omega) ?_ | refine ev_ifF rfl (by simp only [ick, w32]; omega) ?_ | refine ev_icT rfl (by simp only [ick, w32]; omega) ?_ | refine ev_icF rfl (by simp only [ick, w32]; omega) ?_)
    exact ev_rt rfl rfl rfl
set_option maxHeartbeats 2000000 in
theorem c_isOlder {h : AH} {v n c pa : Nat} {x : ED} {gr lv er bh : Option Nat} {sl gd : Int} (hv : h.2.2 v = some (cEv n x c pa gr sl lv er bh gd)) (hx : InR (e_tm x)) {v' n' c' pa' : Nat} {x' : ED} {gr' lv' er' bh' : Option Nat} {sl' gd' : Int} (hv' : h.2.2 v' = some (cEv n' x' c' pa' gr' sl' lv' er' bh' gd')) (hx' : InR (e_tm x')) : Em mEvent_isOlderThan 0 [vR v, vR v'] h (some (vB (if e_tm x = e_tm x' then decide (e_id n < e_id n') else decide (e_tm x < e_tm x')))) h := by
  unfold InR at hx hx'
  have i1 := id_rng n
  have i2 := id_rng n'
  show Ev tEvent_isOlderThan 0 [some (vR v), some (vR v')] [] h _
  repeat (first | refine ev_st rfl rfl ?_ | refine ev_getf rfl (by first | assumption | exact ah_eq | (refine ah_ne (by omega) ?_; first | assumption | exact ah_eq | (refine ah_ne (by omega) ?_; first | assumption | exact ah_eq | (refine ah_ne (by omega) ?_; first | assumption | exact ah_eq)))) (by rfl) ?_)
  by_cases h1 : e_tm x = e_tm x'
  · rw [if_pos h1]
    refine ev_icT rfl (by simp only [ick, w32]; omega) ?_
    by_cases h2 : e_id n < e_id n'
    · rw [decide_eq_true h2]
      repeat (first | refine ev_st rfl rfl ?_ | refine ev_getf rfl (by first | assumption | exact ah_eq | (refine ah_ne (by omega) ?_; first | assumption | exact ah_eq | (refine ah_ne (by omega) ?_; first | assumption | exact ah_eq | (refine ah_ne (by omega) ?_; first | assumption | exact ah_eq)))) (by rfl) ?_ | refine ev_ifT rfl (by simp only [ick, w32]; omega) ?_ | refine ev_ifF rfl (by simp only [ick, w32]; omega) ?_ | refine ev_icT rfl (by simp only [ick, w32]; omega) ?_ | refine ev_icF rfl (by simp only [ick, w32]; omega) ?_)
      exact ev_rt rfl rfl rfl
    · rw [decide_eq_false h2]
      repeat (first | refine ev_st rfl rfl ?_ | refine ev_getf rfl (by first | assumption | exact ah_eq | (refine ah_ne (by omega) ?_; first | assumption | exact ah_eq | (refine ah_ne (by omega) ?_; first | assumption | exact ah_eq | (refine ah_ne (by omega) ?_; first | assumption | exact ah_eq)))) (by rfl) ?_ | refine ev_ifT rfl (by simp only [ick, w32]; omega) ?_ | refine ev_ifF rfl (by simp only [ick, w32]; omega) ?_ | refine ev_icT rfl (by simp only [ick, w32]; omega) ?_ | refine ev_icF rfl (by simp only [ick, w32]; omega) ?_)
      exact ev_rt rfl rfl rfl
  · rw [if_neg h1]
    refine ev_icF rfl (by simp only [ick, w32]; omega) ?_
    by_cases h2 : e_tm x < e_tm x'
    · rw [decide_eq_true h2]
      repeat (first | refine ev_st rfl rfl ?_ | refine ev_getf rfl (by first | assumption | exact ah_eq | (refine ah_ne (by omega) ?_; first | assumption | exact ah_eq | (refine ah_ne (by omega) ?_; first | assumption | exact ah_eq | (refine ah_ne (by omega) ?_; first | assumption | exact ah_eq)))) (by rfl) ?_ | refine ev_ifT rfl (by simp only [ick, w32]; omega) ?_ | refine ev_ifF rfl (by simp only [ick, w32]; omega) ?_ | refine ev_icT rfl (by simp only [ick, w32]; omega) ?_ | refine ev_icF rfl (by simp only [ick, w32]; omega) ?_)
      exact ev_rt rfl rfl rfl
    · rw [decide_eq_false h2]
      repeat (first | refine ev_st rfl rfl ?_ | refine ev_getf rfl (by first | assumption | exact ah_eq | (refine ah_ne (by omega) ?_; first | assumption | exact ah_eq | (refine ah_ne (by omega) ?_; first | assumption | exact ah_eq | (refine ah_ne (by omega) ?_; first | assumption | exact ah_eq)))) (by rfl) ?_ | refine ev_ifT rfl (by simp only [ick, w32]; omega) ?_ | refine ev_ifF rfl (by simp only [ick, w32]; omega) ?_ | refine ev_icT rfl (by simp only [ick, w32]; omega) ?_ | refine ev_icF rfl (by simp only [ick, w32]; omega) ?_)
      exact ev_rt rfl rfl rfl
set_option maxHeartbeats 2000000 in
theorem c_powBelow {h : AH} {ad : Nat → Nat} {v n c pa gr : Nat} {x : ED} {lv er bh : Option Nat} {sl gd : Int} (hv : h.2.2 v = some (cEv n x c pa (some gr) sl lv er bh gd)) (hg : stR h ad gr (e_ow x)) : Em mEvent_powerBelow 0 [vR v] h (some (.inr (.inr (oa ad (e_ow x 13))))) h := by
  obtain ⟨p, f, hs, hp, hf⟩ := hg
  have e : f 1 = oa ad (e_ow x 13) := hf 1 (by omega)
  rw [← e]
  show Ev tEvent_powerBelow 0 [some (vR v)] [] h _
  repeat (first | refine ev_st rfl rfl ?_ | refine ev_getf rfl (by first | assumption | exact ah_eq | (refine ah_ne (by omega) ?_; first | assumption | exact ah_eq | (refine ah_ne (by omega) ?_; first | assumption | exact ah_eq | (refine ah_ne (by omega) ?_; first | assumption | exact ah_eq)))) (by rfl) ?_)
  refine ev_callV rfl rfl hs rfl (c_at hs hp (i := 1) (by omega)) ?_
  exact ev_rt rfl rfl rfl
abbrev cLog (m N : Nat) : AE := .inr (3, [.inr (.inr (some m)), .inl (N : Int)])
theorem c_lsize {h : AH} {lo m N : Nat} (hl : h.2.2 lo = some (cLog m N)) : Em mLog_size 0 [vR lo] h (some (.inl (N : Int))) h := by
  show Ev tLog_size 0 [some (vR lo)] [] h _
  repeat (first | refine ev_st rfl rfl ?_ | refine ev_getf rfl (by first | assumption | exact ah_eq | (refine ah_ne (by omega) ?_; first | assumption | exact ah_eq | (refine ah_ne (by omega) ?_; first | assumption | exact ah_eq | (refine ah_ne (by omega) ?_; first | assumption | exact ah_eq)))) (by rfl) ?_)
  exact ev_rt rfl rfl rfl
theorem c_lfull {h : AH} {lo m N : Nat} (hl : h.2.2 lo = some (cLog m N)) (hN : N ≤ 400) : Em mLog_isFull 0 [vR lo] h (some (vB (decide (N = 400)))) h := by
  show Ev tLog_isFull 0 [some (vR lo)] [] h _
  by_cases hq : N = 400
  · rw [decide_eq_true hq]
    repeat (first | refine ev_st rfl rfl ?_ | refine ev_getf rfl (by first | assumption | exact ah_eq | (refine ah_ne (by omega) ?_; first | assumption | exact ah_eq | (refine ah_ne (by omega) ?_; first | assumption | exact ah_eq | (refine ah_ne (by omega) ?_; first | assumption | exact ah_eq)))) (by rfl) ?_ | refine ev_ifT rfl (by simp only [ick, w32]; omega) ?_ | refine ev_ifF rfl (by simp only [ick, w32]; omega) ?_ | refine ev_icT rfl (by simp only [ick, w32]; omega) ?_ | refine ev_icF rfl (by simp only [ick, w32]; omega) ?_)
    exact ev_rt rfl rfl rfl
  · rw [decide_eq_false hq]
    repeat (first | refine ev_st rfl rfl ?_ | refine ev_getf rfl (by first | assumption | exact ah_eq | (refine ah_ne (by omega) ?_; first | assumption | exact ah_eq | (refine ah_ne (by omega) ?_; first | assumption | exact ah_eq | (refine ah_ne (by omega) ?_; first | assumption | exact ah_eq)))) (by rfl) ?_ | refine ev_ifT rfl (by simp only [ick, w32]; omega) ?_ | refine ev_ifF rfl (by simp only [ick, w32]; omega) ?_ | refine ev_icT rfl (by simp only [ick, w32]; omega) ?_ | refine ev_icF rfl (by simp only [ick, w32]; omega) ?_)
    exact ev_rt rfl rfl rfl
set_option maxHeartbeats 1000000 in
theorem c_lfind {h : AH} {lo m N : Nat} {mf : Nat → Option Nat} (hl : h.2.2 lo = some (cLog m N)) (hm : h.2.2 m = some (cEa 400 mf)) (hN : N ≤ 400) {n : Int} (hn : InR n) : Em mLog_find 0 [vR lo, .inl n] h (some (.inr (.inr (if 0 ≤ n ∧ n < N then mf n.toNat else none)))) h := by
  unfold InR at hn
  show Ev tLog_find 0 [some (vR lo), some (.inl n)] [] h _
  by_cases hq : 0 ≤ n ∧ n < N
  · rw [if_pos hq]
    obtain ⟨k, rfl⟩ : ∃ k : Nat, n = k := ⟨n.toNat, by omega⟩
    rw [Int.toNat_natCast]
    repeat (first | refine ev_st rfl rfl ?_ | refine ev_getf rfl (by first | assumption | exact ah_eq | (refine ah_ne (by omega) ?_; first | assumption | exact ah_eq | (refine ah_ne (by omega) ?_; first | assumption | exact ah_eq | (refine ah_ne (by omega) ?_; first | assumption | exact ah_eq)))) (by rfl) ?_ | refine ev_laldN rfl (by first | assumption | exact ah_eq | (refine ah_ne (by omega) ?_; first | assumption | exact ah_eq | (refine ah_ne (by omega) ?_; first | assumption | exact ah_eq | (refine ah_ne (by omega) ?_; first | assumption | exact ah_eq)))) (by omega) (by omega) ?_ | refine ev_ialdN rfl (by first | assumption | exact ah_eq | (refine ah_ne (by omega) ?_; first | assumption | exact ah_eq | (refine ah_ne (by omega) ?_; first | assumption | exact ah_eq | (refine ah_ne (by omega) ?_; first | assumption | exact ah_eq)))) (by omega) (by omega) ?_ | refine ev_aaldN rfl (by first | assumption | exact ah_eq | (refine ah_ne (by omega) ?_; first | assumption | exact ah_eq | (refine ah_ne (by omega) ?_; first | assumption | exact ah_eq | (refine ah_ne (by omega) ?_; first | assumption | exact ah_eq)))) (by omega) (by omega) ?_ | refine ev_ifT rfl (by simp only [ick, w32]; omega) ?_ | refine ev_ifF rfl (by simp only [ick, w32]; omega) ?_ | refine ev_icT rfl (by simp only [ick, w32]; omega) ?_ | refine ev_icF rfl (by simp only [ick, w32]; omega) ?_)
    exact ev_rt rfl rfl rfl
  · rw [if_neg hq]
    repeat (refine ev_st rfl rfl ?_)
    refine ev_if rfl (fun c => ?_) (fun c => ?_)
    · repeat (refine ev_st rfl rfl ?_)
      exact ev_rt rfl rfl rfl
    · simp only [ick, w32] at c
      repeat (first | refine ev_st rfl rfl ?_ | refine ev_getf rfl (by first | assumption | exact ah_eq | (refine ah_ne (by omega) ?_; first | assumption | exact ah_eq | (refine ah_ne (by omega) ?_; first | assumption | exact ah_eq | (refine ah_ne (by omega) ?_; first | assumption | exact ah_eq)))) (by rfl) ?_ | refine ev_ifT rfl (by simp only [ick, w32]; omega) ?_ | refine ev_ifF rfl (by simp only [ick, w32]; omega) ?_ | refine ev_icT rfl (by simp only [ick, w32]; omega) ?_ | refine ev_icF rfl (by simp only [ick, w32]; omega) ?_)
      exact ev_rt rfl rfl rfl
theorem c_lfindN {h : AH} {lo m N : Nat} {mf : Nat → Option Nat} (hl : h.2.2 lo = some (cLog m N)) (hm : h.2.2 m = some (cEa 400 mf)) (hN : N ≤ 400) {n : Nat} (hn : n < N) : Em mLog_find 0 [vR lo, .inl (n : Int)] h (some (.inr (.inr (mf n)))) h := by
  have := c_lfind hl hm hN (n := (n : Int)) (by unfold InR; omega)
  rw [if_pos (by omega), Int.toNat_natCast] at this
  exact this
set_option maxHeartbeats 1000000 in
theorem c_lappend {h : AH} {lo m N v : Nat} {mf : Nat → Option Nat} (hl : h.2.2 lo = some (cLog m N)) (hm : h.2.2 m = some (cEa 400 mf)) (hN : N < 400) (hv : isE h v) : Em mLog_append 0 [vR lo, vR v] h none (ah_put (ah_put h m (cEa 400 (va_up mf N (some v)))) lo (cLog m (N + 1))) := by
  obtain ⟨fs, hv⟩ := hv
  have n1 : lo ≠ m := ne_ao hl hm
  show Ev tLog_append 0 [some (vR lo), some (vR v)] [] h _
  repeat (first | refine ev_st rfl rfl ?_ | refine ev_getf rfl (by first | assumption | exact ah_eq | (refine ah_ne (by omega) ?_; first | assumption | exact ah_eq | (refine ah_ne (by omega) ?_; first | assumption | exact ah_eq | (refine ah_ne (by omega) ?_; first | assumption | exact ah_eq)))) (by rfl) ?_ | refine ev_ifT rfl (by simp only [ick, w32]; omega) ?_ | refine ev_ifF rfl (by simp only [ick, w32]; omega) ?_ | refine ev_icT rfl (by simp only [ick, w32]; omega) ?_ | refine ev_icF rfl (by simp only [ick, w32]; omega) ?_)
  refine ev_aastS rfl hm hv hN (by omega) ?_
  repeat (first | refine ev_st rfl rfl ?_ | refine ev_getf rfl (by first | assumption | exact ah_eq | (refine ah_ne (by omega) ?_; first | assumption | exact ah_eq | (refine ah_ne (by omega) ?_; first | assumption | exact ah_eq | (refine ah_ne (by omega) ?_; first | assumption | exact ah_eq)))) (by rfl) ?_)
  rw [nat_1]
  refine ev_putf rfl (ah_ne n1 hl) (Nat.le_of_ble_eq_true rfl) rfl ?_
  exact ev_rt rfl rfl rfl
