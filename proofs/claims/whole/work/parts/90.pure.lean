theorem pu_law (xs : Nat → Int32) (L : Nat) (hL : L ≤ 384) : ∃ M', f_L_law xs L w0M = some (1, M') := by
  sorry
