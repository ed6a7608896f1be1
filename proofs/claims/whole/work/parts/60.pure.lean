/-- what is left: the two sides answer alike -/
theorem ig_pure (xs : Nat → Int32) (Ln : Nat) (hL : Ln ≤ 2560) : wp_L_law_23 xs Ln 1000 ig_a0 0 ig_b0 0 0 0 := by
  sorry
