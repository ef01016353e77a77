/-! ===== the law's own function answers 1 ===== -/
theorem pure28 {L : Nat} (hL : L ≤ 260) (xs : Nat → Int32) : f_L_law z8 z8 (L, xs) = some 1 := by
  sorry
