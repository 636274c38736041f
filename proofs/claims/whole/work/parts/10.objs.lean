/-! what a boolean field takes -/
theorem nar_z {v : Int} (h : v = 0 ∨ v = 1) : narrow .boolean (.int (iI v)) = .int (iI v) := by rcases h with rfl | rfl <;> decide
theorem fit_z {v : Int} (h : v = 0 ∨ v = 1) : fits .boolean (.int (iI v)) = true := by rcases h with rfl | rfl <;> decide
