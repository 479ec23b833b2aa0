/-! how many passes there can be -/
theorem hbet : HBet := by
  sorry
theorem op_better (a b : Int32) : Op (fX8_better FF a b) (fX9_better FF a b) := op_better_of hbet a b
