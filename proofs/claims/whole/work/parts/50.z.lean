theorem zz_1 (x : Int32) (h : 0 ≤ x) (h2 : x < 12) : 0 ≤ x + 1 ∧ x + 1 ≤ 12 := by grind
theorem zz_2 (x : Int32) (h : 0 ≤ x) (h2 : x < 12) : (12 + 3 * x + 1).toNatClampNeg = 12 + 3 * x.toNatClampNeg + 1 := by grind
theorem zz_3 (x y : Int32) (h : 0 ≤ x) (h2 : x < 12) (hy : 0 ≤ y) (h3 : y ≤ 2) : 12 + 3 * x + y < 48 := by grind
theorem zz_4 (x : Int32) (h : ¬ x < 0) (h2 : ¬ x > 99) : (if 99 < x then 99 else x) = x := by grind
theorem zz_5 (x : Int32) : (if 0 < (if 99 < x then 99 else x) then (if 99 < x then 99 else x) else 0) = (if x < 0 then 0 else if x > 99 then 99 else x) := by grind
theorem zz_6 (x : Int32) (h : 0 ≤ x.toInt) (h2 : x.toInt < 12) : (x + 1).toInt = x.toInt + 1 := by grind
