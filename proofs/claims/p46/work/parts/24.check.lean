/-! the second stretch -/
theorem mm_vl_3 : ∀ k, k < 26 → mm_vlM (80 + k) = true := by decide +kernel
theorem mm_vl_4 : ∀ k, k < 20 → mm_vlM (106 + k) = true := by decide +kernel
theorem mm_vl_5 : ∀ k, k < 6 → mm_vlM (126 + k) = true := by decide +kernel
