/-! better comes back on both sides; no answer that is compared hangs on what it finds -/
theorem op_better (a b : Int32) : OpW False (fX8_better FF a b) (fX9_better FF a b) := op_better_of (fun q => q.elim) a b
