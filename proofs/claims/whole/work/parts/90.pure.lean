/-! THE PURE STATEMENT: the law's loop answers 1 over every script -/
theorem pu_law (xs : Nat → Int32) (L : Nat) (hL : L ≤ 384) : ∃ M', f_L_law xs L w0M = some (1, M') := by
  obtain ⟨M', h⟩ := law_loop xs L hL 70 2000 0 w0M Rel_0 (by omega) (by omega) (by omega)
  refine ⟨M', ?_⟩
  unfold f_L_law
  rw [show l_L_law_10 xs L 2000 0 w0M = some (.inr M') from h, Option.bind_some]
  rfl
