theorem pure_good : ∃ Rel, Good Rel := by
  sorry
