/-! the numbers that stand out -/
theorem exk_0 : exk 0 17 = true := by decide +kernel
theorem exk_1 : exk 17 17 = true := by decide +kernel
theorem exk_2 : exk 34 17 = true := by decide +kernel
theorem exk_3 : exk 51 17 = true := by decide +kernel
theorem exk_4 : exk 68 17 = true := by decide +kernel
