/-! the third stretch -/
theorem mm_vl_6 : ∀ k, k < 1 → mm_vlM (132 + k) = true := by decide +kernel
theorem mm_vl_7 : ∀ k, k < 1 → mm_vlM (133 + k) = true := by decide +kernel
