/-! the law's own body, in stretches: places 99 to 101 -/
theorem mm_vL_11a : ∀ k, k < 3 → mm_vl 213 (mm_blk 213 (99 + k)) = true := by decide +kernel
