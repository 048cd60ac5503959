/-! the second -/
theorem mm_v134b : ∀ k, k < 22 → mm_vl 134 (mm_blk 134 (22 + k)) = true := by decide +kernel
