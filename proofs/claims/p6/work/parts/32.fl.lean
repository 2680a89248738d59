/-! floats: both sides round alike -/
theorem fe_floatOf (v : Int64) (h : -4611686018427387904 ≤ v.toInt ∧ v.toInt ≤ 4611686018427387904) : zf_X10_floatOf v = some (zf_X1_ofWhole v) := by sorry
theorem fe_product (x y : Int32) : zf_X10_product x y = some (zf_X1_product x y) := by sorry
theorem fe_plus (x y : Int32) : zf_X10_plus x y = some (zf_X1_sum x y) := by sorry
theorem fe_quarter (v : Int32) : ∃ r, zf_X10_floatOf v.toInt64 = some r ∧ zf_X10_product r 1048576000 = some (zf_X1_quarterOf v.toInt64) := by sorry
theorem fe_reg (b : Int32) : zf_X10_floatOf b.toInt64 = some (zf_X1_ofRegister 0 b) := by sorry
theorem fe_nan (x : Int32) : zf_X10_isNan x = zf_X1_isNan x := rfl
theorem fe_less (x y : Int32) : zf_X10_isLess x y = zf_X1_isLess x y := rfl
theorem fe_minus (x y : Int32) : zf_X10_minus x y = some (zf_X1_sum x (zf_X1_opposite y)) := by sorry
