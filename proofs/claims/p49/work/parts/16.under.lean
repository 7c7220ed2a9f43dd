/-! ===== cases: under, steps ===== -/
theorem or_z (x : Int32) : x ||| (0 : Int32) = x := Int32.or_zero
