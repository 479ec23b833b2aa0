/-! how many passes there can be -/
theorem hbet : HBet True := by
  sorry
theorem op_better (a b : Int32) : OpW True (fX8_better FF a b) (fX9_better FF a b) := op_better_of (fun _ => hbet) a b
