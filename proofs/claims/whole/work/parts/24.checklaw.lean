/-! the law's own body, in stretches -/
theorem mm_vL_0 : ∀ k, k < 9 → mm_vl 213 (mm_blk 213 (0 + k)) = true := by decide +kernel
theorem mm_vL_1 : ∀ k, k < 9 → mm_vl 213 (mm_blk 213 (9 + k)) = true := by decide +kernel
theorem mm_vL_2 : ∀ k, k < 9 → mm_vl 213 (mm_blk 213 (18 + k)) = true := by decide +kernel
theorem mm_vL_3 : ∀ k, k < 9 → mm_vl 213 (mm_blk 213 (27 + k)) = true := by decide +kernel
theorem mm_vL_4 : ∀ k, k < 9 → mm_vl 213 (mm_blk 213 (36 + k)) = true := by decide +kernel
theorem mm_vL_5 : ∀ k, k < 9 → mm_vl 213 (mm_blk 213 (45 + k)) = true := by decide +kernel
