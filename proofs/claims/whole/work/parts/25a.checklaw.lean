/-! the law's own body, in stretches: the third after -/
theorem mm_vL_8 : ∀ k, k < 9 → mm_vl 213 (mm_blk 213 (72 + k)) = true := by decide +kernel
theorem mm_vL_9 : ∀ k, k < 9 → mm_vl 213 (mm_blk 213 (81 + k)) = true := by decide +kernel
