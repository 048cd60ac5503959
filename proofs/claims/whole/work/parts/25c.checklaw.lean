/-! the law's own body, in stretches: places 95 to 98 -/
theorem mm_vL_10b : ∀ k, k < 4 → mm_vl 213 (mm_blk 213 (95 + k)) = true := by decide +kernel
