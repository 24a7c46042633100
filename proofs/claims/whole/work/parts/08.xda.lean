theorem da {cc : ByteArray} {l : List (Nat × Instr × Nat)} (h : (l.all fun q => decide (decode cc q.1 = .ok (q.2.1, q.2.2))) = true) {k pc n : Nat} {i : Instr} (hk : l[k]? = some (pc, i, n)) : decode cc pc = .ok (i, n) := by
  have h1 := List.all_eq_true.1 h (pc, i, n) (List.mem_of_getElem? hk)
  exact of_decide_eq_true h1
