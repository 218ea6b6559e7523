theorem law_pure (xs : Nat → Int32) (L : Nat) (hL : L ≤ 320) : pL_law xs L := by
  sorry
