/-! A SQUARE IN BOUNDS. -/
theorem sq_le {x : Int} (h1 : -1000 ≤ x) (h2 : x ≤ 1000) : x * x ≤ 1000000 := by
  have h : 0 ≤ (1000 - x) * (1000 + x) := Int.mul_nonneg (by omega) (by omega)
  have e : (1000 - x) * (1000 + x) = 1000000 - x * x := by
    rw [Int.sub_mul, Int.mul_add, Int.mul_add, Int.mul_comm x 1000]
    omega
  omega
