/-! every stretch of code is what it says: by the kernel -/
theorem mm_vl_0 : ∀ k, k < 20 → mm_vlM (0 + k) = true := by decide +kernel
theorem mm_vl_1 : ∀ k, k < 25 → mm_vlM (20 + k) = true := by decide +kernel
theorem mm_vl_2 : ∀ k, k < 35 → mm_vlM (45 + k) = true := by decide +kernel
