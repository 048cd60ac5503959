/-! the law's own body, in stretches: places 90 to 94 -/
theorem mm_vL_10a : ∀ k, k < 5 → mm_vl 213 (mm_blk 213 (90 + k)) = true := by decide +kernel
