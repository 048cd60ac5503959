/-! every stretch of code is what it says: by the kernel -/
theorem mm_vl_0 : ∀ k, k < 20 → mm_vlM (0 + k) = true := by decide +kernel
theorem mm_vl_1 : ∀ k, k < 25 → mm_vlM (20 + k) = true := by decide +kernel
theorem mm_vl_2 : ∀ k, k < 35 → mm_vlM (45 + k) = true := by decide +kernel
theorem mm_vl_3 : ∀ k, k < 26 → mm_vlM (80 + k) = true := by decide +kernel
theorem mm_vl_4 : ∀ k, k < 24 → mm_vlM (106 + k) = true := by decide +kernel
theorem mm_vl_5 : ∀ k, k < 20 → mm_vlM (130 + k) = true := by decide +kernel
theorem mm_vl_6 : ∀ k, k < 40 → mm_vlM (150 + k) = true := by decide +kernel
theorem mm_vl_7 : ∀ k, k < 23 → mm_vlM (190 + k) = true := by decide +kernel
theorem mm_vl_all {m : Nat} (hm : m < 213) : mm_vlM m = true := by
  by_cases h0 : m < 20
  · have h := mm_vl_0 (m - 0) (by omega)
    rwa [show 0 + (m - 0) = m by omega] at h
  by_cases h1 : m < 45
  · have h := mm_vl_1 (m - 20) (by omega)
    rwa [show 20 + (m - 20) = m by omega] at h
  by_cases h2 : m < 80
  · have h := mm_vl_2 (m - 45) (by omega)
    rwa [show 45 + (m - 45) = m by omega] at h
  by_cases h3 : m < 106
  · have h := mm_vl_3 (m - 80) (by omega)
    rwa [show 80 + (m - 80) = m by omega] at h
  by_cases h4 : m < 130
  · have h := mm_vl_4 (m - 106) (by omega)
    rwa [show 106 + (m - 106) = m by omega] at h
  by_cases h5 : m < 150
  · have h := mm_vl_5 (m - 130) (by omega)
    rwa [show 130 + (m - 130) = m by omega] at h
  by_cases h6 : m < 190
  · have h := mm_vl_6 (m - 150) (by omega)
    rwa [show 150 + (m - 150) = m by omega] at h
  by_cases h7 : m < 213
  · have h := mm_vl_7 (m - 190) (by omega)
    rwa [show 190 + (m - 190) = m by omega] at h
  omega
theorem mm_vl_blk {m b : Nat} (hm : m < 213) (hb : b < mm_nbk m) : mm_vl m (mm_blk m b) = true := by
  have h := mm_vl_all hm
  simp only [mm_vlM, List.all_eq_true, List.mem_range] at h
  exact h b hb
