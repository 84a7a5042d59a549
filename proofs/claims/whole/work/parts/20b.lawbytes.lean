/-! THE LAW: its rows against its bytes -/
theorem wk_law_len : wk_law.length = 800 := by decide +kernel
def wk_dchk (a b : Nat) : Bool := ((wk_law.drop a).take (b - a)).all (fun q => decide (decode code q.1 = .ok (q.2.1, q.2.2.1)) && decide (q.2.2.1 = wc_len q.2.1 q.2.2.1))
theorem wk_d0 : wk_dchk 0 50 = true := by decide +kernel
theorem wk_d50 : wk_dchk 50 100 = true := by decide +kernel
theorem wk_d100 : wk_dchk 100 150 = true := by decide +kernel
theorem wk_d150 : wk_dchk 150 200 = true := by decide +kernel
theorem wk_d200 : wk_dchk 200 250 = true := by decide +kernel
theorem wk_d250 : wk_dchk 250 300 = true := by decide +kernel
theorem wk_d300 : wk_dchk 300 350 = true := by decide +kernel
theorem wk_d350 : wk_dchk 350 400 = true := by decide +kernel
theorem wk_d400 : wk_dchk 400 450 = true := by decide +kernel
theorem wk_d450 : wk_dchk 450 500 = true := by decide +kernel
theorem wk_d500 : wk_dchk 500 550 = true := by decide +kernel
theorem wk_d550 : wk_dchk 550 600 = true := by decide +kernel
theorem wk_d600 : wk_dchk 600 650 = true := by decide +kernel
theorem wk_d650 : wk_dchk 650 700 = true := by decide +kernel
theorem wk_d700 : wk_dchk 700 750 = true := by decide +kernel
theorem wk_d750 : wk_dchk 750 800 = true := by decide +kernel
theorem wk_d_at {a b i : Nat} (h : wk_dchk a b = true) (ha : a ≤ i) (hb : i < b) {pc : Nat} {ins : Instr} {len : Nat} {tg : List Nat} {ct : Int32} {cl : Int64} (hi : wk_law[i]? = some (pc, ins, len, tg, ct, cl)) : decode code pc = .ok (ins, len) ∧ len = wc_len ins len := by
  have h1 := List.all_eq_true.mp h (pc, ins, len, tg, ct, cl) (List.mem_of_getElem? (i := i - a) (by rw [List.getElem?_take, if_pos (by omega), List.getElem?_drop, show a + (i - a) = i by omega]; exact hi))
  simp only [Bool.and_eq_true, decide_eq_true_eq] at h1
  exact h1
theorem wk_law_dec (i pc : Nat) (ins : Instr) (len : Nat) (tg : List Nat) (ct : Int32) (cl : Int64) (hi : wk_law[i]? = some (pc, ins, len, tg, ct, cl)) : decode code pc = .ok (ins, len) ∧ len = wc_len ins len := by
  have hlt : i < 800 := by
    have h1 := (List.getElem?_eq_some_iff.mp hi).1
    rw [wk_law_len] at h1
    exact h1
  rcases Nat.lt_or_ge i 50 with h1 | h1
  · exact wk_d_at wk_d0 (by omega) h1 hi
  rcases Nat.lt_or_ge i 100 with h1 | h1
  · exact wk_d_at wk_d50 (by omega) h1 hi
  rcases Nat.lt_or_ge i 150 with h1 | h1
  · exact wk_d_at wk_d100 (by omega) h1 hi
  rcases Nat.lt_or_ge i 200 with h1 | h1
  · exact wk_d_at wk_d150 (by omega) h1 hi
  rcases Nat.lt_or_ge i 250 with h1 | h1
  · exact wk_d_at wk_d200 (by omega) h1 hi
  rcases Nat.lt_or_ge i 300 with h1 | h1
  · exact wk_d_at wk_d250 (by omega) h1 hi
  rcases Nat.lt_or_ge i 350 with h1 | h1
  · exact wk_d_at wk_d300 (by omega) h1 hi
  rcases Nat.lt_or_ge i 400 with h1 | h1
  · exact wk_d_at wk_d350 (by omega) h1 hi
  rcases Nat.lt_or_ge i 450 with h1 | h1
  · exact wk_d_at wk_d400 (by omega) h1 hi
  rcases Nat.lt_or_ge i 500 with h1 | h1
  · exact wk_d_at wk_d450 (by omega) h1 hi
  rcases Nat.lt_or_ge i 550 with h1 | h1
  · exact wk_d_at wk_d500 (by omega) h1 hi
  rcases Nat.lt_or_ge i 600 with h1 | h1
  · exact wk_d_at wk_d550 (by omega) h1 hi
  rcases Nat.lt_or_ge i 650 with h1 | h1
  · exact wk_d_at wk_d600 (by omega) h1 hi
  rcases Nat.lt_or_ge i 700 with h1 | h1
  · exact wk_d_at wk_d650 (by omega) h1 hi
  rcases Nat.lt_or_ge i 750 with h1 | h1
  · exact wk_d_at wk_d700 (by omega) h1 hi
  exact wk_d_at wk_d750 h1 hlt hi
