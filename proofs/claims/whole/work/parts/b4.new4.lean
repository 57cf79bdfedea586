/-! column -/
theorem nl_50 : ¬ 5 ≤ 0 := by decide
