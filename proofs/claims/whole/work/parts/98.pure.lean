/-- what is left to prove: numbers and heaps alone -/
theorem pure_law (L : Nat) (xs : Nat → Int32) (hL : L ≤ 3072) : ∃ h9, ML_law L xs hp0 = some (1, h9) ∧ nc h9 = 112474 ∧ ns h9 = 8758684 := by
  sorry
