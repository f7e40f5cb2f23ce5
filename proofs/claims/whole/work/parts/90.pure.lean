theorem pure_main (B : Nat) (xs : Nat → Int32) (L : Nat) (hL : L ≤ 2048) : ∃ n, fL_start n B xs L = some 1 := by
  sorry
