/-! follows, in two halves: the first -/
theorem mm_v134a : ∀ k, k < 22 → mm_vl 134 (mm_blk 134 k) = true := by decide +kernel
