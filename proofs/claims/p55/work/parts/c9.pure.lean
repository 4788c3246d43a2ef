theorem p55_pure (L : Nat) (xs : Nat → Int32) (hL : L ≤ 260) : f_law L xs = some (nI 1) := by
  sorry
