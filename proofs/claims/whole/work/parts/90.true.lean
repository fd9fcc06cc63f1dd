theorem law_true (L : Nat) (xs : Nat → Int32) (hL : L ≤ 3072) : f_law L xs FU 0 0 M10 M20 0 = some true := by
  sorry
