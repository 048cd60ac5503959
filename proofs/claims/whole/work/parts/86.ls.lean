/-! the law's loop -/
section XN
variable {sc : Nat × (Nat → Int32)} {I : Nat → Nat → Int32} {o : Int64} {t : Nat} {Q : mm_Q}
variable {n B : Nat} {x5 x6 : Option Value}
theorem law_case {c1 c2 c3 : Nat} (hb97 : mm_blk 97 1 = [(24, 2, 0, [6, 0]), (26, 2, 0, [3, 1]), (27, 37, 0, [2]), (30, 6, 0, [4, 0]), (32, 71, 0, [c1, 1, 264, 776]), (35, 16, 0, []), (36, 71, 0, [c2, 1, 266, 777]), (39, 15, 0, []), (40, 7, 0, [4, 0]), (42, 4, 0, [0, 1]), (43, 6, 0, [4, 0]), (45, 1, 33, [1]), (47, 19, 0, []), (48, 22, 0, []), (49, 66, 0, [98, 2, 5, 268, 778, 0]), (52, 8, 1, [6]), (55, 0, 0, [1])]) (hb187 : mm_blk 187 4 = [(43, 2, 0, [6, 0]), (45, 2, 0, [3, 1]), (46, 37, 0, [5]), (49, 6, 0, [4, 0]), (51, 71, 0, [c1, 1, 198, 1153]), (54, 16, 0, []), (55, 71, 0, [c2, 1, 200, 1154]), (58, 15, 0, []), (59, 7, 0, [4, 0]), (61, 4, 0, [0, 1]), (62, 6, 0, [4, 0]), (64, 1, 33, [1]), (66, 19, 0, []), (67, 22, 0, []), (68, 66, 0, [186, 2, 6, 202, 1155, 0]), (71, 8, 1, [6]), (74, 0, 0, [4])]) (hb94 : mm_blk 213 94 = [(1686, 4, 0, [1, 1]), (1687, 4, 0, [0, 1]), (1688, 2, 0, [4, 0]), (1690, 1, 1, [0]), (1691, 9, 0, []), (1692, 61, 0, []), (1693, 21, 0, []), (1694, 1, 32, [1]), (1696, 20, 0, []), (1697, 4, 0, [0, 1]), (1698, 2, 0, [4, 0]), (1700, 1, 2, [0]), (1701, 9, 0, []), (1702, 61, 0, []), (1703, 21, 0, []), (1704, 71, 0, [c3, 1, 243, 1167]), (1707, 17, 0, []), (1708, 18, 0, []), (1709, 4, 0, [0, 1]), (1710, 2, 0, [4, 0]), (1712, 1, 3, [0]), (1713, 9, 0, []), (1714, 61, 0, []), (1715, 4, 0, [3, 1]), (1716, 65, 0, [210, 4, 99, 245, 769, 0]), (1719, 3, 0, [5, 0]), (1721, 4, 0, [2, 1]), (1722, 4, 0, [0, 1]), (1723, 2, 0, [4, 0]), (1725, 1, 1, [0]), (1726, 9, 0, []), (1727, 61, 0, []), (1728, 21, 0, []), (1729, 1, 32, [1]), (1731, 20, 0, []), (1732, 4, 0, [0, 1]), (1733, 2, 0, [4, 0]), (1735, 1, 2, [0]), (1736, 9, 0, []), (1737, 61, 0, []), (1738, 21, 0, []), (1739, 71, 0, [c3, 1, 243, 1167]), (1742, 17, 0, []), (1743, 18, 0, []), (1744, 4, 0, [0, 1]), (1745, 2, 0, [4, 0]), (1747, 1, 3, [0]), (1748, 9, 0, []), (1749, 61, 0, []), (1750, 66, 0, [187, 3, 6, 248, 1148, 0]), (1753, 3, 0, [6, 0]), (1755, 4, 0, [2, 1]), (1756, 66, 0, [107, 1, 6, 99, 850, 0]), (1759, 2, 0, [5, 0]), (1761, 34, 0, [95]), (1764, 1, 0, [0]), (1765, 42, 0, [])]) (hL : sc.1 ≤ 2048) (hn : n + 3 < sc.1) (h : INV B I) (hB : B < 2 ^ 29) (hK : lk sc Q n (B + 80000) (t + 1)) {c : Nat} (hc : c < 64) : mm_C (213, mm_blk 213 (mm_sw 0 [103, 2, 5, 6, 7, 10, 13, 16, 19, 24, 25, 26, 27, 28, 33, 36, 37, 38, 39, 40, 41, 42, 43, 44, 45, 46, 49, 52, 57, 60, 63, 66, 71, 74, 77, 80, 83, 84, 87, 90, 93, 94, 97, 100] (nI c)), [some (.float 0), some (.ref 0), some (.ref 206), some (.ref 214), some (.int (nI n)), x5, x6], [], (hp sc I o t)) Q := by
  have dflt : mm_C (213, mm_blk 213 103, [some (.float 0), some (.ref 0), some (.ref 206), some (.ref 214), some (.int (nI n)), x5, x6], [], (hp sc I o t)) Q := hK _ _ _ _ _ (INV_B h (by omega)) (by omega)
  match c, hc with
  | 0, _ => exact ls0 hL hn h hB hK
  | 1, _ => exact ls1 hL hn h hB hK
  | 2, _ => exact ls2 hL hn h hB hK
  | 3, _ => exact ls3 hL hn h hB hK
  | 4, _ => exact ls4 hL hn h hB hK
  | 5, _ => exact ls5 hL hn h hB hK
  | 6, _ => exact ls6 hL hn h hB hK
  | 7, _ => exact ls7 hL hn h hB hK
  | 8, _ => exact ls8 hL hn h hB hK
  | 9, _ => exact ls9 hL hn h hB hK
  | 10, _ => exact ls10 hL hn h hB hK
  | 11, _ => exact ls11 hL hn h hB hK
  | 12, _ => exact ls12 hL hn h hB hK
  | 13, _ => exact ls13 hL hn h hB hK
  | 14, _ => exact ls14 hL hn h hB hK
  | 15, _ => exact ls15 hL hn h hB hK
  | 16, _ => exact ls16 hL hn h hB hK
  | 17, _ => exact ls17 hL hn h hB hK
  | 18, _ => exact ls18 hL hn h hB hK
  | 19, _ => exact ls19 hL hn h hB hK
  | 20, _ => exact ls20 hL hn h hB hK
  | 21, _ => exact ls21 hL hn h hB hK
  | 22, _ => exact ls22 hL hn h hB hK
  | 23, _ => exact ls23 hL hn h hB hK
  | 24, _ => exact ls24 hL hn h hB hK
  | 25, _ => exact ls25 hL hn h hB hK
  | 26, _ => exact ls26 hL hn h hB hK
  | 27, _ => exact ls27 hL hn h hB hK
  | 28, _ => exact ls28 hL hn h hB hK
  | 29, _ => exact ls29 hL hn h hB hK
  | 30, _ => exact ls30 hL hn h hB hK
  | 31, _ => exact ls31 hL hn h hB hK
  | 32, _ => exact ls32 hL hn h hB hK
  | 33, _ => exact ls33 hL hn h hB hK
  | 34, _ => exact ls34 hL hn h hB hK
  | 35, _ => exact ls35 hL hn h hB hK
  | 36, _ => exact ls36 hL hn h hB hK
  | 37, _ => exact ls37 hL hn h hB hK
  | 38, _ => exact ls38 hL hn h hB hK
  | 39, _ => exact ls39 hL hn h hB hK
  | 40, _ => exact ls40 hb97 hb187 hb94 hL hn h hB hK
  | 41, _ => exact ls41 hL hn h hB hK
  | 42, _ => exact ls42 hL hn h hB hK
  | 43, _ => exact dflt
  | 44, _ => exact dflt
  | 45, _ => exact dflt
  | 46, _ => exact dflt
  | 47, _ => exact dflt
  | 48, _ => exact dflt
  | 49, _ => exact dflt
  | 50, _ => exact dflt
  | 51, _ => exact dflt
  | 52, _ => exact dflt
  | 53, _ => exact dflt
  | 54, _ => exact dflt
  | 55, _ => exact dflt
  | 56, _ => exact dflt
  | 57, _ => exact dflt
  | 58, _ => exact dflt
  | 59, _ => exact dflt
  | 60, _ => exact dflt
  | 61, _ => exact dflt
  | 62, _ => exact dflt
  | 63, _ => exact dflt
  | c + 64, h9 => exact absurd h9 (by omega)
theorem and63 (x : Int32) : ∃ c, c < 64 ∧ x &&& 63 = nI c := by
  refine ⟨(x &&& 63).toBitVec.toNat, ?_, ?_⟩
  · have e : (x &&& 63).toBitVec = x.toBitVec &&& 63#32 := rfl
    rw [e, BitVec.toNat_and]
    have : x.toBitVec.toNat &&& (63#32).toNat ≤ (63#32).toNat := Nat.and_le_right
    have e2 : (63#32).toNat = 63 := by decide
    omega
  · apply Int32.toBitVec_inj.mp
    show (x &&& 63).toBitVec = BitVec.ofNat 32 (x &&& 63).toBitVec.toNat
    rw [BitVec.ofNat_toNat, BitVec.setWidth_eq]
theorem mm_nwB : mm_NW0.1 = 215 ∧ mm_NW0.2 ≤ 100000 := by decide +kernel
theorem law_loop {c1 c2 c3 : Nat} (hb97 : mm_blk 97 1 = [(24, 2, 0, [6, 0]), (26, 2, 0, [3, 1]), (27, 37, 0, [2]), (30, 6, 0, [4, 0]), (32, 71, 0, [c1, 1, 264, 776]), (35, 16, 0, []), (36, 71, 0, [c2, 1, 266, 777]), (39, 15, 0, []), (40, 7, 0, [4, 0]), (42, 4, 0, [0, 1]), (43, 6, 0, [4, 0]), (45, 1, 33, [1]), (47, 19, 0, []), (48, 22, 0, []), (49, 66, 0, [98, 2, 5, 268, 778, 0]), (52, 8, 1, [6]), (55, 0, 0, [1])]) (hb187 : mm_blk 187 4 = [(43, 2, 0, [6, 0]), (45, 2, 0, [3, 1]), (46, 37, 0, [5]), (49, 6, 0, [4, 0]), (51, 71, 0, [c1, 1, 198, 1153]), (54, 16, 0, []), (55, 71, 0, [c2, 1, 200, 1154]), (58, 15, 0, []), (59, 7, 0, [4, 0]), (61, 4, 0, [0, 1]), (62, 6, 0, [4, 0]), (64, 1, 33, [1]), (66, 19, 0, []), (67, 22, 0, []), (68, 66, 0, [186, 2, 6, 202, 1155, 0]), (71, 8, 1, [6]), (74, 0, 0, [4])]) (hb94 : mm_blk 213 94 = [(1686, 4, 0, [1, 1]), (1687, 4, 0, [0, 1]), (1688, 2, 0, [4, 0]), (1690, 1, 1, [0]), (1691, 9, 0, []), (1692, 61, 0, []), (1693, 21, 0, []), (1694, 1, 32, [1]), (1696, 20, 0, []), (1697, 4, 0, [0, 1]), (1698, 2, 0, [4, 0]), (1700, 1, 2, [0]), (1701, 9, 0, []), (1702, 61, 0, []), (1703, 21, 0, []), (1704, 71, 0, [c3, 1, 243, 1167]), (1707, 17, 0, []), (1708, 18, 0, []), (1709, 4, 0, [0, 1]), (1710, 2, 0, [4, 0]), (1712, 1, 3, [0]), (1713, 9, 0, []), (1714, 61, 0, []), (1715, 4, 0, [3, 1]), (1716, 65, 0, [210, 4, 99, 245, 769, 0]), (1719, 3, 0, [5, 0]), (1721, 4, 0, [2, 1]), (1722, 4, 0, [0, 1]), (1723, 2, 0, [4, 0]), (1725, 1, 1, [0]), (1726, 9, 0, []), (1727, 61, 0, []), (1728, 21, 0, []), (1729, 1, 32, [1]), (1731, 20, 0, []), (1732, 4, 0, [0, 1]), (1733, 2, 0, [4, 0]), (1735, 1, 2, [0]), (1736, 9, 0, []), (1737, 61, 0, []), (1738, 21, 0, []), (1739, 71, 0, [c3, 1, 243, 1167]), (1742, 17, 0, []), (1743, 18, 0, []), (1744, 4, 0, [0, 1]), (1745, 2, 0, [4, 0]), (1747, 1, 3, [0]), (1748, 9, 0, []), (1749, 61, 0, []), (1750, 66, 0, [187, 3, 6, 248, 1148, 0]), (1753, 3, 0, [6, 0]), (1755, 4, 0, [2, 1]), (1756, 66, 0, [107, 1, 6, 99, 850, 0]), (1759, 2, 0, [5, 0]), (1761, 34, 0, [95]), (1764, 1, 0, [0]), (1765, 42, 0, [])]) (hL : sc.1 ≤ 2048) (k : Nat) : ∀ {m : Nat} {I : Nat → Nat → Int32} {o : Int64} {t : Nat} {x5 x6 : Option Value}, INV (80000 * m) I → t ≤ m → m ≤ 512 → sc.1 < 4 * m + 4 + 4 * k → mm_C (213, mm_blk 213 1, [some (.float 0), some (.ref 0), some (.ref 206), some (.ref 214), some (.int (nI (4 * m))), x5, x6], [], (hp sc I o t)) mm_Ql := by
  have e4 : (4 : Int32) = nI 4 := rfl
  have cmp : ∀ m, m ≤ 512 → ((nI sc.1 - 4 < nI (4 * m)) = (sc.1 < 4 * m + 4)) := fun m hm => by
    rw [e4, Int32.lt_iff_toInt_lt, i32_sub (by rw [nI_toInt (by omega)]; omega) (by rw [nI_toInt (by omega)]; omega) (by rw [nI_toInt (by omega)]; omega) (by rw [nI_toInt (by omega)]; omega), nI_toInt (by omega), nI_toInt (by omega), nI_toInt (by omega)]
    exact propext (by omega)
  have fin : ∀ {m : Nat} {I : Nat → Nat → Int32} {o : Int64} {t : Nat} {x5 x6 : Option Value}, t ≤ m → m ≤ 512 → sc.1 < 4 * m + 4 → mm_C (213, mm_blk 213 1, [some (.float 0), some (.ref 0), some (.ref 206), some (.ref 214), some (.int (nI (4 * m))), x5, x6], [], (hp sc I o t)) mm_Ql := by
    intro m I o t x5 x6 ht hm hx
    have hx2 : nI sc.1 - 4 < nI (4 * m) := by rw [cmp m hm]; exact hx
    rw [mM_213.2.2.1]
    simp +decide only [cR, cH, hx2, mM_213.2.2.2.2.2.2.2.2.2.2.2.2.2.2.2.2.2.2.2.2.2.2.2.2.2.2.2.2.2.2.2.2.2.2.2.2.2.2.2.2.2.2.2.2.2.2.2.2.2.2.2.2.2.2.2.2.2.2.2.2.2.2.2.2.2.2.2.2.2.2.2.2.2.2.2.2.2.2.2.2.2.2.2.2.2.2.2.2.2.2.2.2.2.2.2.2.2.2.2.2.2.2.2.2.2, ↓reduceIte]
    obtain ⟨w1, w2⟩ := mm_nwB
    refine ⟨rfl, ?_, ?_⟩
    · show mm_NW0.1 + t ≤ 601024
      omega
    · show mm_NW0.2 + 6 * t ≤ 7293033
      omega
  induction k with
  | zero =>
    intro m I o t x5 x6 hI ht hm hx
    exact fin ht hm (by omega)
  | succ k ih =>
    intro m I o t x5 x6 hI ht hm hx
    by_cases hx1 : sc.1 < 4 * m + 4
    · exact fin ht hm hx1
    have hx2 : ¬ nI sc.1 - 4 < nI (4 * m) := by rw [cmp m hm]; exact hx1
    have hn : 4 * m + 3 < sc.1 := by omega
    obtain ⟨c, hc, ec⟩ := and63 (sc.2 (4 * m))
    have e5 : nI (4 * m) + 4 = nI (4 * (m + 1)) := by rw [e4, nI_add]; congr 1
    have hK : lk sc mm_Ql (4 * m) (80000 * m + 80000) (t + 1) := fun I' o' t' x5 x6 hI' ht' => by
      rw [mM_213.2.2.2.2.2.2.2.2.2.2.2.2.2.2.2.2.2.2.2.2.2.2.2.2.2.2.2.2.2.2.2.2.2.2.2.2.2.2.2.2.2.2.2.2.2.2.2.2.2.2.2.2.2.2.2.2.2.2.2.2.2.2.2.2.2.2.2.2.2.2.2.2.2.2.2.2.2.2.2.2.2.2.2.2.2.2.2.2.2.2.2.2.2.2.2.2.2.2.2.2.2.2.2.2.1]
      simp +decide only [cR, e5]
      exact ih (m := m + 1) (by rw [Nat.mul_succ]; exact hI') (by omega) (by omega) (by omega)
    have k1 := law_case (o := o) (t := t) (x5 := x5) (x6 := x6) hb97 hb187 hb94 hL hn hI (by omega) hK hc
    rw [mM_213.2.2.1]
    simp +decide only [cR, cH, hx2, cS hn hL, ec, ↓reduceIte]
    exact k1
end XN
