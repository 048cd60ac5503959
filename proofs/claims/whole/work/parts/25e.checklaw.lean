/-! the law's own body, in stretches: the rest, and all blocks -/
theorem mm_vL_11b : ∀ k, k < 3 → mm_vl 213 (mm_blk 213 (102 + k)) = true := by decide +kernel
theorem mm_vL_10 : ∀ k, k < 9 → mm_vl 213 (mm_blk 213 (90 + k)) = true := by
  intro k hk
  by_cases h : k < 5
  · exact mm_vL_10a k h
  · have h2 := mm_vL_10b (k - 5) (by omega)
    rwa [show 95 + (k - 5) = 90 + k by omega] at h2
theorem mm_vL_11 : ∀ k, k < 6 → mm_vl 213 (mm_blk 213 (99 + k)) = true := by
  intro k hk
  by_cases h : k < 3
  · exact mm_vL_11a k h
  · have h2 := mm_vL_11b (k - 3) (by omega)
    rwa [show 102 + (k - 3) = 99 + k by omega] at h2
theorem mm_vL_blk {b : Nat} (hb : b < mm_nbk 213) : mm_vl 213 (mm_blk 213 b) = true := by
  have hb : b < 105 := hb
  by_cases h0 : b < 9
  · have h := mm_vL_0 (b - 0) (by omega)
    rwa [show 0 + (b - 0) = b by omega] at h
  by_cases h1 : b < 18
  · have h := mm_vL_1 (b - 9) (by omega)
    rwa [show 9 + (b - 9) = b by omega] at h
  by_cases h2 : b < 27
  · have h := mm_vL_2 (b - 18) (by omega)
    rwa [show 18 + (b - 18) = b by omega] at h
  by_cases h3 : b < 36
  · have h := mm_vL_3 (b - 27) (by omega)
    rwa [show 27 + (b - 27) = b by omega] at h
  by_cases h4 : b < 45
  · have h := mm_vL_4 (b - 36) (by omega)
    rwa [show 36 + (b - 36) = b by omega] at h
  by_cases h5 : b < 54
  · have h := mm_vL_5 (b - 45) (by omega)
    rwa [show 45 + (b - 45) = b by omega] at h
  by_cases h6 : b < 63
  · have h := mm_vL_6 (b - 54) (by omega)
    rwa [show 54 + (b - 54) = b by omega] at h
  by_cases h7 : b < 72
  · have h := mm_vL_7 (b - 63) (by omega)
    rwa [show 63 + (b - 63) = b by omega] at h
  by_cases h8 : b < 81
  · have h := mm_vL_8 (b - 72) (by omega)
    rwa [show 72 + (b - 72) = b by omega] at h
  by_cases h9 : b < 90
  · have h := mm_vL_9 (b - 81) (by omega)
    rwa [show 81 + (b - 81) = b by omega] at h
  by_cases h10 : b < 99
  · have h := mm_vL_10 (b - 90) (by omega)
    rwa [show 90 + (b - 90) = b by omega] at h
  by_cases h11 : b < 105
  · have h := mm_vL_11 (b - 99) (by omega)
    rwa [show 99 + (b - 99) = b by omega] at h
  omega
theorem mm_vb {m b : Nat} (hm : m < 214) (hb : b < mm_nbk m) : mm_vl m (mm_blk m b) = true := by
  by_cases h : m < 213
  · exact mm_vl_blk h hb
  · have : m = 213 := by omega
    subst this
    exact mm_vL_blk hb
