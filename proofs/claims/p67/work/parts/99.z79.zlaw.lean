/-! The law's own body, checked. -/
theorem yk181 : xyok 181 = true := by decide +kernel
