/-! the last stretch, and all -/
theorem mm_vl_8 : ∀ k, k < 1 → mm_vlM (134 + k) = true := by
  intro k hk
  have : k = 0 := by omega
  subst this
  show mm_vlM 134 = true
  simp only [mm_vlM, List.all_eq_true, List.mem_range]
  intro b hb
  have hb : b < 44 := hb
  by_cases h : b < 22
  · exact mm_v134a b h
  · have h2 := mm_v134b (b - 22) (by omega)
    rwa [show 22 + (b - 22) = b by omega] at h2
theorem mm_vl_9 : ∀ k, k < 5 → mm_vlM (135 + k) = true := by decide +kernel
theorem mm_vl_all {m : Nat} (hm : m < 140) : mm_vlM m = true := by
  by_cases h0 : m < 20
  · have h := mm_vl_0 (m - 0) (by omega)
    rwa [show 0 + (m - 0) = m by omega] at h
  by_cases h1 : m < 45
  · have h := mm_vl_1 (m - 20) (by omega)
    rwa [show 20 + (m - 20) = m by omega] at h
  by_cases h2 : m < 80
  · have h := mm_vl_2 (m - 45) (by omega)
    rwa [show 45 + (m - 45) = m by omega] at h
  by_cases h3 : m < 106
  · have h := mm_vl_3 (m - 80) (by omega)
    rwa [show 80 + (m - 80) = m by omega] at h
  by_cases h4 : m < 126
  · have h := mm_vl_4 (m - 106) (by omega)
    rwa [show 106 + (m - 106) = m by omega] at h
  by_cases h5 : m < 132
  · have h := mm_vl_5 (m - 126) (by omega)
    rwa [show 126 + (m - 126) = m by omega] at h
  by_cases h6 : m < 133
  · have h := mm_vl_6 (m - 132) (by omega)
    rwa [show 132 + (m - 132) = m by omega] at h
  by_cases h7 : m < 134
  · have h := mm_vl_7 (m - 133) (by omega)
    rwa [show 133 + (m - 133) = m by omega] at h
  by_cases h8 : m < 135
  · have h := mm_vl_8 (m - 134) (by omega)
    rwa [show 134 + (m - 134) = m by omega] at h
  by_cases h9 : m < 140
  · have h := mm_vl_9 (m - 135) (by omega)
    rwa [show 135 + (m - 135) = m by omega] at h
  omega
theorem mm_vl_blk {m b : Nat} (hm : m < 140) (hb : b < mm_nbk m) : mm_vl m (mm_blk m b) = true := by
  have h := mm_vl_all hm
  simp only [mm_vlM, List.all_eq_true, List.mem_range] at h
  exact h b hb
theorem mm_vL_blk {b : Nat} (hb : b < mm_nbk 140) : mm_vl 140 (mm_blk 140 b) = true := by
  have h : ∀ k, k < 22 → mm_vl 140 (mm_blk 140 k) = true := by decide +kernel
  exact h b hb
theorem mm_vb {m b : Nat} (hm : m < 141) (hb : b < mm_nbk m) : mm_vl m (mm_blk m b) = true := by
  by_cases h : m < 140
  · exact mm_vl_blk h hb
  · have : m = 140 := by omega
    subst this
    exact mm_vL_blk hb
