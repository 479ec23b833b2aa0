/-! prices -/
theorem i_ma (a b c : Int32) : a * (b + c) = a * b + a * c := Int32.mul_add
theorem i_aa (a b c : Int32) : a + b + c = a + (b + c) := Int32.add_assoc a b c
theorem i_ac (a b : Int32) : a + b = b + a := Int32.add_comm a b
theorem i_m1 (a : Int32) : a * 1 = a := Int32.mul_one a
theorem i_m0 (a : Int32) : a * 0 = 0 := Int32.mul_zero
theorem i_1m (a : Int32) : 1 * a = a := Int32.one_mul a
theorem i_0m (a : Int32) : 0 * a = 0 := Int32.zero_mul
theorem i_0a (a : Int32) : 0 + a = a := Int32.zero_add a
theorem i_a0 (a : Int32) : a + 0 = a := Int32.add_zero a
theorem i_as (a b : Int32) : a + b - a = b := by rw [i_ac, Int32.add_sub_cancel]
