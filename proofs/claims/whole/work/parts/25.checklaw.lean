/-! the law's own body, in stretches: the second third -/
theorem mm_vL_6 : ∀ k, k < 9 → mm_vl 213 (mm_blk 213 (54 + k)) = true := by decide +kernel
theorem mm_vL_7 : ∀ k, k < 9 → mm_vl 213 (mm_blk 213 (63 + k)) = true := by decide +kernel
