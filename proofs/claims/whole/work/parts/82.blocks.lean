/-! the blocks -/
theorem blk_0 : alleX excz 15 (32768 * 0) (rowz (32768 * 0) 1 + goA 4716 (rowz (32768 * 0)) plz 1) = true := by decide +kernel
theorem blk_1 : alleX excz 15 (32768 * 1) (rowz (32768 * 1) 1 + goA 4716 (rowz (32768 * 1)) plz 1) = true := by decide +kernel
theorem blk_2 : alleX excz 15 (32768 * 2) (rowz (32768 * 2) 1 + goA 4716 (rowz (32768 * 2)) plz 1) = true := by decide +kernel
theorem blk_3 : alleX excz 15 (32768 * 3) (rowz (32768 * 3) 1 + goA 4716 (rowz (32768 * 3)) plz 1) = true := by decide +kernel
theorem blk_4 : alleX excz 15 (32768 * 4) (rowz (32768 * 4) 1 + goA 4716 (rowz (32768 * 4)) plz 1) = true := by decide +kernel
theorem blk_5 : alleX excz 15 (32768 * 5) (rowz (32768 * 5) 1 + goA 4716 (rowz (32768 * 5)) plz 1) = true := by decide +kernel
theorem blk_6 : alleX excz 15 (32768 * 6) (rowz (32768 * 6) 1 + goA 4716 (rowz (32768 * 6)) plz 1) = true := by decide +kernel
theorem blk_7 : alleX excz 15 (32768 * 7) (rowz (32768 * 7) 1 + goA 4716 (rowz (32768 * 7)) plz 1) = true := by decide +kernel
theorem blk_8 : alleX excz 15 (32768 * 8) (rowz (32768 * 8) 1 + goA 4716 (rowz (32768 * 8)) plz 1) = true := by decide +kernel
theorem blk_9 : alleX excz 15 (32768 * 9) (rowz (32768 * 9) 1 + goA 4716 (rowz (32768 * 9)) plz 1) = true := by decide +kernel
theorem blk_10 : alleX excz 15 (32768 * 10) (rowz (32768 * 10) 1 + goA 4716 (rowz (32768 * 10)) plz 1) = true := by decide +kernel
theorem blk_11 : alleX excz 15 (32768 * 11) (rowz (32768 * 11) 1 + goA 4716 (rowz (32768 * 11)) plz 1) = true := by decide +kernel
theorem blk_12 : alleX excz 15 (32768 * 12) (rowz (32768 * 12) 1 + goA 4716 (rowz (32768 * 12)) plz 1) = true := by decide +kernel
theorem blk_13 : alleX excz 15 (32768 * 13) (rowz (32768 * 13) 1 + goA 4716 (rowz (32768 * 13)) plz 1) = true := by decide +kernel
theorem blk_14 : alleX excz 15 (32768 * 14) (rowz (32768 * 14) 1 + goA 4716 (rowz (32768 * 14)) plz 1) = true := by decide +kernel
theorem blk_15 : alleX excz 15 (32768 * 15) (rowz (32768 * 15) 1 + goA 4716 (rowz (32768 * 15)) plz 1) = true := by decide +kernel
