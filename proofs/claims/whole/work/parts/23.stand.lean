theorem mm_vb {m b : Nat} (hm : m < 214) (hb : b < mm_nbk m) : mm_vl m (mm_blk m b) = true := by sorry
