/-! each call of the law -/
section XL
variable {sc : Nat × (Nat → Int32)} {I : Nat → Nat → Int32} {o : Int64} {t : Nat} {Q : mm_Q}
variable {n B : Nat} {x5 x6 : Option Value}
def lk (sc : Nat × (Nat → Int32)) (Q : mm_Q) (n B t : Nat) : Prop := ∀ (I' : Nat → Nat → Int32) (o' : Int64) (t' : Nat) (x5 x6 : Option Value), INV B I' → t' ≤ t → mm_C (213, mm_blk 213 103, [some (.float 0), some (.ref 0), some (.ref 206), some (.ref 214), some (.int (nI n)), x5, x6], [], (hp sc I' o' t')) Q
theorem INV_hf (h : INV B I) : mo_free (I 207) = -1 → mo_pok (I 207) := fun e => mo_inv_pok (SX_inv h.1) e
theorem INV_hd (h : INV B I) : ¬ I 207 156 = 0 := by
  obtain ⟨-, -, -, -, -, -, -, -, ⟨e, n, n1, n2, e2⟩⟩ := h.1.2.2
  rw [← e, e2]
  intro g
  have := (nI_eq (a := n) (b := 0) (by omega) (by omega)).mp g
  omega
theorem ls8 (hL : sc.1 ≤ 2048) (hn : n + 3 < sc.1) (h : INV B I) (hB : B < 2 ^ 29) (hK : lk sc Q n (B + 80000) (t + 1)) : mm_C (213, mm_blk 213 24, [some (.float 0), some (.ref 0), some (.ref 206), some (.ref 214), some (.int (nI n)), x5, x6], [], (hp sc I o t)) Q := by
  exact lwa8 (A := sy_cnt I 3) (fun Q => c65) (fun Q hq => (c150).mpr (by rw [← R_cnt h.1]; exact hq)) (hK _ _ _ _ _ (INV_rf h (by omega) 0) (by omega))
theorem ls9 (hL : sc.1 ≤ 2048) (hn : n + 3 < sc.1) (h : INV B I) (hB : B < 2 ^ 29) (hK : lk sc Q n (B + 80000) (t + 1)) : mm_C (213, mm_blk 213 25, [some (.float 0), some (.ref 0), some (.ref 206), some (.ref 214), some (.int (nI n)), x5, x6], [], (hp sc I o t)) Q := by
  exact lwa9 (A := sy_o1 I 3) (fun Q => c66) (fun Q hq => (c151).mpr (by rw [← R_o1 h.1]; exact hq)) (hK _ _ _ _ _ (INV_rf h (by omega) 0) (by omega))
theorem ls10 (hL : sc.1 ≤ 2048) (hn : n + 3 < sc.1) (h : INV B I) (hB : B < 2 ^ 29) (hK : lk sc Q n (B + 80000) (t + 1)) : mm_C (213, mm_blk 213 26, [some (.float 0), some (.ref 0), some (.ref 206), some (.ref 214), some (.int (nI n)), x5, x6], [], (hp sc I o t)) Q := by
  exact lwa10 (A := sy_loud I 3) (fun Q => c67) (fun Q hq => (c152).mpr (by rw [← R_loud h.1]; exact hq)) (hK _ _ _ _ _ (INV_rf h (by omega) 0) (by omega))
theorem ls11 (hL : sc.1 ≤ 2048) (hn : n + 3 < sc.1) (h : INV B I) (hB : B < 2 ^ 29) (hK : lk sc Q n (B + 80000) (t + 1)) : mm_C (213, mm_blk 213 27, [some (.float 0), some (.ref 0), some (.ref 206), some (.ref 214), some (.int (nI n)), x5, x6], [], (hp sc I o t)) Q := by
  exact lwa11 (A := 0 + sy_lp I 1 + sy_lp I 2 + sy_lp I 3 + sy_lp I 4) (fun Q => c68) (fun Q hq => (c153).mpr (by rw [← R_phases h.1]; exact hq)) (hK _ _ _ _ _ (INV_rf h (by omega) 0) (by omega))
theorem ls14 (hL : sc.1 ≤ 2048) (hn : n + 3 < sc.1) (h : INV B I) (hB : B < 2 ^ 29) (hK : lk sc Q n (B + 80000) (t + 1)) : mm_C (213, mm_blk 213 36, [some (.float 0), some (.ref 0), some (.ref 206), some (.ref 214), some (.int (nI n)), x5, x6], [], (hp sc I o t)) Q := by
  exact lwa14 (A := sy_keys (fun k c => if 0 < I (3 + 3) k then c + 1 else c) 60 0) (fun Q => c71) (fun Q hq => (c157).mpr (by rw [← R_down h.1]; exact hq)) (hK _ _ _ _ _ (INV_rf h (by omega) 0) (by omega))
theorem ls15 (hL : sc.1 ≤ 2048) (hn : n + 3 < sc.1) (h : INV B I) (hB : B < 2 ^ 29) (hK : lk sc Q n (B + 80000) (t + 1)) : mm_C (213, mm_blk 213 37, [some (.float 0), some (.ref 0), some (.ref 206), some (.ref 214), some (.int (nI n)), x5, x6], [], (hp sc I o t)) Q := by
  exact lwa15 (A := sy_keys (fun k c => if 0 < I (3 + 3) k ∧ sy_own I 3 (nI k) = -1 then c + 1 else c) 60 0) (fun Q => c72) (fun Q hq => (c158).mpr (by rw [← R_wait h.1]; exact hq)) (hK _ _ _ _ _ (INV_rf h (by omega) 0) (by omega))
theorem ls16 (hL : sc.1 ≤ 2048) (hn : n + 3 < sc.1) (h : INV B I) (hB : B < 2 ^ 29) (hK : lk sc Q n (B + 80000) (t + 1)) : mm_C (213, mm_blk 213 38, [some (.float 0), some (.ref 0), some (.ref 206), some (.ref 214), some (.int (nI n)), x5, x6], [], (hp sc I o t)) Q := by
  exact lwa16 (A := sy_lt I 3) (fun Q => c73) (fun Q hq => (c159).mpr (by rw [show mo_late (I 207) 60 (-1) = sy_lt I 3 from (R_lt h.1).symm]; exact hq)) (hK _ _ _ _ _ (INV_rf h (by omega) 0) (by omega))
theorem ls18 (hL : sc.1 ≤ 2048) (hn : n + 3 < sc.1) (h : INV B I) (hB : B < 2 ^ 29) (hK : lk sc Q n (B + 80000) (t + 1)) : mm_C (213, mm_blk 213 40, [some (.float 0), some (.ref 0), some (.ref 206), some (.ref 214), some (.int (nI n)), x5, x6], [], (hp sc I o t)) Q := by
  exact lwa18 (A := I 3 9) (fun Q => c75) (fun Q hq => (c162).mpr (by rw [← h.1.2.2.2.2.2.2.1.2.1]; exact hq)) (hK _ _ _ _ _ (INV_rf h (by omega) 0) (by omega))
theorem ls19 (hL : sc.1 ≤ 2048) (hn : n + 3 < sc.1) (h : INV B I) (hB : B < 2 ^ 29) (hK : lk sc Q n (B + 80000) (t + 1)) : mm_C (213, mm_blk 213 41, [some (.float 0), some (.ref 0), some (.ref 206), some (.ref 214), some (.int (nI n)), x5, x6], [], (hp sc I o t)) Q := by
  exact lwa19 (A := I 3 10 + I 3 11 + sy_cnt I 3) (fun Q => c76) (fun Q hq => (c163).mpr (by rw [← h.1.2.2.2.2.2.2.1.2.2.1, ← h.1.2.2.2.2.2.2.1.2.2.2.1, ← R_cnt h.1]; exact hq)) (hK _ _ _ _ _ (INV_rf h (by omega) 0) (by omega))
theorem ls20 (hL : sc.1 ≤ 2048) (hn : n + 3 < sc.1) (h : INV B I) (hB : B < 2 ^ 29) (hK : lk sc Q n (B + 80000) (t + 1)) : mm_C (213, mm_blk 213 42, [some (.float 0), some (.ref 0), some (.ref 206), some (.ref 214), some (.int (nI n)), x5, x6], [], (hp sc I o t)) Q := by
  exact lwa20 (A := I 3 11) (fun Q => c77) (fun Q hq => (c164).mpr (by rw [← h.1.2.2.2.2.2.2.1.2.2.2.1]; exact hq)) (hK _ _ _ _ _ (INV_rf h (by omega) 0) (by omega))
theorem ls21 (hL : sc.1 ≤ 2048) (hn : n + 3 < sc.1) (h : INV B I) (hB : B < 2 ^ 29) (hK : lk sc Q n (B + 80000) (t + 1)) : mm_C (213, mm_blk 213 43, [some (.float 0), some (.ref 0), some (.ref 206), some (.ref 214), some (.int (nI n)), x5, x6], [], (hp sc I o t)) Q := by
  exact lwa21 (A := I 3 12) (fun Q => c78) (fun Q hq => (c165).mpr (by rw [← h.1.2.2.2.2.2.2.1.2.2.2.2]; exact hq)) (hK _ _ _ _ _ (INV_rf h (by omega) 0) (by omega))
theorem ls22 (hL : sc.1 ≤ 2048) (hn : n + 3 < sc.1) (h : INV B I) (hB : B < 2 ^ 29) (hK : lk sc Q n (B + 80000) (t + 1)) : mm_C (213, mm_blk 213 44, [some (.float 0), some (.ref 0), some (.ref 206), some (.ref 214), some (.int (nI n)), x5, x6], [], (hp sc I o t)) Q := by
  exact lwa22 (A := I 3 8) (fun Q => c79) (fun Q hq => (c166).mpr (by rw [show I 207 162 = I 3 8 by rw [h.1.2.2.2.2.2.2.1.1, Int32.add_zero]]; exact hq)) (hK _ _ _ _ _ (INV_rf h (by omega) 0) (by omega))
theorem ls23 (hL : sc.1 ≤ 2048) (hn : n + 3 < sc.1) (h : INV B I) (hB : B < 2 ^ 29) (hK : lk sc Q n (B + 80000) (t + 1)) : mm_C (213, mm_blk 213 45, [some (.float 0), some (.ref 0), some (.ref 206), some (.ref 214), some (.int (nI n)), x5, x6], [], (hp sc I o t)) Q := by
  exact lwa23 (A := I 3 7) (fun Q => c80) (fun Q hq => (c167).mpr (by rw [← h.1.2.2.2.2.2.1.1]; exact hq)) (hK _ _ _ _ _ (INV_rf h (by omega) 0) (by omega))
theorem ls35 (hL : sc.1 ≤ 2048) (hn : n + 3 < sc.1) (h : INV B I) (hB : B < 2 ^ 29) (hK : lk sc Q n (B + 80000) (t + 1)) : mm_C (213, mm_blk 213 83, [some (.float 0), some (.ref 0), some (.ref 206), some (.ref 214), some (.int (nI n)), x5, x6], [], (hp sc I o t)) Q := by
  have e9 : (if mo_free (I 207) = -1 then mo_prey (I 207) else -1) = (if sy_fr I 3 = -1 then sy_steal I 3 else -1) := by
    rw [R_fr h.1]
    by_cases e : mo_free (I 207) = -1
    · rw [if_pos e, if_pos e, R_steal h.1 e]
    · rw [if_neg e, if_neg e]
  exact lwa35 (A := if sy_fr I 3 = -1 then sy_steal I 3 else -1) (fun Q => c92) (fun Q hq => (c180 (INV_hf h)).mpr (by rw [e9]; exact hq)) (hK _ _ _ _ _ (INV_rf h (by omega) 0) (by omega))
theorem ls39 (hL : sc.1 ≤ 2048) (hn : n + 3 < sc.1) (h : INV B I) (hB : B < 2 ^ 29) (hK : lk sc Q n (B + 80000) (t + 1)) : mm_C (213, mm_blk 213 93, [some (.float 0), some (.ref 0), some (.ref 206), some (.ref 214), some (.int (nI n)), x5, x6], [], (hp sc I o t)) Q := by
  have e9 : sy_fold (fun v c => sv_max c (mo_dies (I 207) v)) 6 0 = sy_fold (fun v c => sv_max c (sy_die I (3 + (5 + v)))) 6 0 := sy_fold_congr 6 (by omega) (fun v hv c => by rw [(R_dies h.1 hv).1]) 0
  exact lwa39 (A := sy_fold (fun v c => sv_max c (sy_die I (3 + (5 + v)))) 6 0) (fun Q => c96) (fun Q hq => (c185 (INV_hd h)).mpr (by rw [e9]; exact hq)) (hK _ _ _ _ _ (INV_rf h (by omega) 0) (by omega))
theorem ls17 (hL : sc.1 ≤ 2048) (hn : n + 3 < sc.1) (h : INV B I) (hB : B < 2 ^ 29) (hK : lk sc Q n (B + 80000) (t + 1)) : mm_C (213, mm_blk 213 39, [some (.float 0), some (.ref 0), some (.ref 206), some (.ref 214), some (.int (nI n)), x5, x6], [], (hp sc I o t)) Q := by
  have e5 := h.1.2.2.2.1
  rw [Int32.add_zero] at e5
  refine lwa17 (A := I 3 5) (fun Q => c74 (INV_b01 h).1) (fun Q hq => c160.mpr ?_) (hK _ _ _ _ _ (INV_rf h (by omega) 0) (by omega))
  rw [← e5.1]
  rcases e5.2 with e | e <;> rw [e] at hq ⊢
  · rw [if_neg (by decide)]; exact hq
  · rw [if_pos rfl]; exact hq
theorem ls4 (hL : sc.1 ≤ 2048) (hn : n + 3 < sc.1) (h : INV B I) (hB : B < 2 ^ 29) (hK : lk sc Q n (B + 80000) (t + 1)) : mm_C (213, mm_blk 213 10, [some (.float 0), some (.ref 0), some (.ref 206), some (.ref 214), some (.int (nI n)), x5, x6], [], (hp sc I o t)) Q := by
  by_cases hv : ¬ sc.2 (n + 1) < 0 ∧ sc.2 (n + 1) < 6
  · obtain ⟨j, hj, ej⟩ := cJ (n := 6) (by omega) hv.1 hv.2
    have e9 : I 207 (5 * (sc.2 (n + 1)).toNatClampNeg) = I (3 + (5 + (sc.2 (n + 1)).toNatClampNeg)) 1 := by rw [ej, (cV hj).2.1]; exact (h.1.1 j hj).1
    exact lwo4 hL hn (A := I (3 + (5 + (sc.2 (n + 1)).toNatClampNeg)) 1) (fun Q => w192_ok (fun Q => by rw [c61, if_pos hv])) (fun Q hq => by rw [c146, if_pos hv, e9]; exact hq) (rf_60 _ _) (hK _ _ _ _ _ (INV_rf h (by omega) 0) (by omega))
  · exact lwt4 hL hn (k := 1) (by decide) (fun Q => w192_t0 (fun Q => by rw [c61, if_neg hv])) (fun Q hq => by rw [c146, if_neg hv]; exact hq) (rf_60 _ _) (hK _ _ _ _ _ (INV_rf h (by omega) 1) (by omega))
theorem ls5 (hL : sc.1 ≤ 2048) (hn : n + 3 < sc.1) (h : INV B I) (hB : B < 2 ^ 29) (hK : lk sc Q n (B + 80000) (t + 1)) : mm_C (213, mm_blk 213 13, [some (.float 0), some (.ref 0), some (.ref 206), some (.ref 214), some (.int (nI n)), x5, x6], [], (hp sc I o t)) Q := by
  by_cases hv : ¬ sc.2 (n + 1) < 0 ∧ sc.2 (n + 1) < 6
  · obtain ⟨j, hj, ej⟩ := cJ (n := 6) (by omega) hv.1 hv.2
    have e9 : I 207 (5 * (sc.2 (n + 1)).toNatClampNeg + 1) = I (3 + (5 + (sc.2 (n + 1)).toNatClampNeg)) 0 := by rw [ej, (cV hj).2.1]; exact (h.1.1 j hj).2.1
    exact lwo5 hL hn (A := I (3 + (5 + (sc.2 (n + 1)).toNatClampNeg)) 0) (fun Q => w193_ok (fun Q => by rw [c62, if_pos hv])) (fun Q hq => by rw [c147, if_pos hv, e9]; exact hq) (rf_60 _ _) (hK _ _ _ _ _ (INV_rf h (by omega) 0) (by omega))
  · exact lwt5 hL hn (k := 1) (by decide) (fun Q => w193_t0 (fun Q => by rw [c62, if_neg hv])) (fun Q hq => by rw [c147, if_neg hv]; exact hq) (rf_60 _ _) (hK _ _ _ _ _ (INV_rf h (by omega) 1) (by omega))
theorem ls6 (hL : sc.1 ≤ 2048) (hn : n + 3 < sc.1) (h : INV B I) (hB : B < 2 ^ 29) (hK : lk sc Q n (B + 80000) (t + 1)) : mm_C (213, mm_blk 213 16, [some (.float 0), some (.ref 0), some (.ref 206), some (.ref 214), some (.int (nI n)), x5, x6], [], (hp sc I o t)) Q := by
  by_cases hv : ¬ sc.2 (n + 1) < 0 ∧ sc.2 (n + 1) < 6
  · obtain ⟨j, hj, ej⟩ := cJ (n := 6) (by omega) hv.1 hv.2
    have e9 : I 207 (5 * (sc.2 (n + 1)).toNatClampNeg + 3) = I (3 + (5 + (sc.2 (n + 1)).toNatClampNeg)) 3 := by rw [ej, (cV hj).2.1]; exact (h.1.1 j hj).2.2.1
    exact lwo6 hL hn (A := I (3 + (5 + (sc.2 (n + 1)).toNatClampNeg)) 3) (fun Q => w194_ok (fun Q => by rw [c63, if_pos hv])) (fun Q hq => by rw [c148, if_pos hv, e9]; exact hq) (rf_60 _ _) (hK _ _ _ _ _ (INV_rf h (by omega) 0) (by omega))
  · exact lwt6 hL hn (k := 1) (by decide) (fun Q => w194_t0 (fun Q => by rw [c63, if_neg hv])) (fun Q hq => by rw [c148, if_neg hv]; exact hq) (rf_60 _ _) (hK _ _ _ _ _ (INV_rf h (by omega) 1) (by omega))
theorem ls13 (hL : sc.1 ≤ 2048) (hn : n + 3 < sc.1) (h : INV B I) (hB : B < 2 ^ 29) (hK : lk sc Q n (B + 80000) (t + 1)) : mm_C (213, mm_blk 213 33, [some (.float 0), some (.ref 0), some (.ref 206), some (.ref 214), some (.int (nI n)), x5, x6], [], (hp sc I o t)) Q := by
  by_cases hv : ¬ sc.2 (n + 1) < 0 ∧ sc.2 (n + 1) < 60
  · obtain ⟨j, hj, ej⟩ := cJ (n := 60) (by omega) hv.1 hv.2
    have e9 : mo_voice (I 207) (sc.2 (n + 1)) = sy_own I 3 (sc.2 (n + 1)) := by rw [R_own h.1 (by rw [ej]; exact neN (by omega))]
    exact lwo13 hL hn (A := sy_own I 3 (sc.2 (n + 1))) (fun Q => w197_ok (fun Q => by rw [c70, if_pos hv])) (fun Q hq => by rw [c156, if_pos hv, e9]; exact hq) (rf_60 _ _) (hK _ _ _ _ _ (INV_rf h (by omega) 0) (by omega))
  · exact lwt13 hL hn (k := 1) (by decide) (fun Q => w197_t0 (fun Q => by rw [c70, if_neg hv])) (fun Q hq => by rw [c156, if_neg hv]; exact hq) (rf_60 _ _) (hK _ _ _ _ _ (INV_rf h (by omega) 1) (by omega))
theorem ls37 (hL : sc.1 ≤ 2048) (hn : n + 3 < sc.1) (h : INV B I) (hB : B < 2 ^ 29) (hK : lk sc Q n (B + 80000) (t + 1)) : mm_C (213, mm_blk 213 87, [some (.float 0), some (.ref 0), some (.ref 206), some (.ref 214), some (.int (nI n)), x5, x6], [], (hp sc I o t)) Q := by
  by_cases hv : ¬ sc.2 (n + 1) < 0 ∧ sc.2 (n + 1) < 6
  · obtain ⟨j, hj, ej⟩ := cJ (n := 6) (by omega) hv.1 hv.2
    have e9 : mo_dies (I 207) (sc.2 (n + 1)).toNatClampNeg = sy_die I (3 + (5 + (sc.2 (n + 1)).toNatClampNeg)) := by rw [ej, (cV hj).2.1, (R_dies h.1 hj).1]
    exact lwo37 hL hn (A := sy_die I (3 + (5 + (sc.2 (n + 1)).toNatClampNeg))) (fun Q => w208_ok (fun Q => by rw [c94, if_pos hv])) (fun Q hq => by rw [c183 (INV_hd h), if_pos hv, e9]; exact hq) (rf_60 _ _) (hK _ _ _ _ _ (INV_rf h (by omega) 0) (by omega))
  · exact lwt37 hL hn (k := 1) (by decide) (fun Q => w208_t0 (fun Q => by rw [c94, if_neg hv])) (fun Q hq => by rw [c183 (INV_hd h), if_neg hv]; exact hq) (rf_60 _ _) (hK _ _ _ _ _ (INV_rf h (by omega) 1) (by omega))
theorem ls34 (hL : sc.1 ≤ 2048) (hn : n + 3 < sc.1) (h : INV B I) (hB : B < 2 ^ 29) (hK : lk sc Q n (B + 80000) (t + 1)) : mm_C (213, mm_blk 213 80, [some (.float 0), some (.ref 0), some (.ref 206), some (.ref 214), some (.int (nI n)), x5, x6], [], (hp sc I o t)) Q := by
  by_cases hv : ¬ sc.2 (n + 1) < 0 ∧ sc.2 (n + 1) < 60
  · obtain ⟨j, hj, ej⟩ := cJ (n := 60) (by omega) hv.1 hv.2
    have e9 : (if 0 < I 207 (30 + 2 * (sc.2 (n + 1)).toNatClampNeg) then (4 : Int32) else if mo_voice (I 207) (sc.2 (n + 1)) = -1 then (if mo_free (I 207) = -1 then (if mo_prey (I 207) = -1 then 3 else 2) else 1) else 0) = (if sy_dn (I (3 + 3)) (sc.2 (n + 1)) = true then 4 else if sy_own I 3 (sc.2 (n + 1)) = -1 then (if sy_fr I 3 = -1 then (if sy_steal I 3 = -1 then 3 else 2) else 1) else 0) := by
      rw [ej, (cK hj).2.1, R_own h.1 (neN (by omega)), R_fr h.1]
      simp only [R_dn h.1 hj]
      by_cases e : mo_free (I 207) = -1
      · simp only [if_pos e, R_steal h.1 e]
      · simp only [if_neg e]
    exact lwo34 hL hn (A := if sy_dn (I (3 + 3)) (sc.2 (n + 1)) = true then 4 else if sy_own I 3 (sc.2 (n + 1)) = -1 then (if sy_fr I 3 = -1 then (if sy_steal I 3 = -1 then 3 else 2) else 1) else 0) (fun Q => w206_ok (fun Q => by rw [c91, if_pos hv])) (fun Q hq => by rw [c179 (INV_hf h), if_pos hv, e9]; exact hq) (rf_60 _ _) (hK _ _ _ _ _ (INV_rf h (by omega) 0) (by omega))
  · exact lwt34 hL hn (k := 1) (by decide) (fun Q => w206_t0 (fun Q => by rw [c91, if_neg hv])) (fun Q hq => by rw [c179 (INV_hf h), if_neg hv]; exact hq) (rf_60 _ _) (hK _ _ _ _ _ (INV_rf h (by omega) 1) (by omega))
theorem ls7 (hL : sc.1 ≤ 2048) (hn : n + 3 < sc.1) (h : INV B I) (hB : B < 2 ^ 29) (hK : lk sc Q n (B + 80000) (t + 1)) : mm_C (213, mm_blk 213 19, [some (.float 0), some (.ref 0), some (.ref 206), some (.ref 214), some (.int (nI n)), x5, x6], [], (hp sc I o t)) Q := by
  by_cases hv : ¬ sc.2 (n + 1) < 0 ∧ sc.2 (n + 1) < 6
  · obtain ⟨j, hj, ej⟩ := cJ (n := 6) (by omega) hv.1 hv.2
    have e9 : (¬ I (3 + (5 + (sc.2 (n + 1)).toNatClampNeg)) 1 = 0 ∧ ¬ I (3 + (5 + (sc.2 (n + 1)).toNatClampNeg)) 1 = 4 ∧ ¬ sy_dn (I (3 + 3)) (I (3 + (5 + (sc.2 (n + 1)).toNatClampNeg)) 0) = true) = (mo_held (I 207) (sc.2 (n + 1)).toNatClampNeg = true) := by rw [ej, (cV hj).2.1]; exact R_kept h.1 hj
    by_cases hd : ¬ I (3 + (5 + (sc.2 (n + 1)).toNatClampNeg)) 1 = 0 ∧ ¬ I (3 + (5 + (sc.2 (n + 1)).toNatClampNeg)) 1 = 4 ∧ ¬ sy_dn (I (3 + 3)) (I (3 + (5 + (sc.2 (n + 1)).toNatClampNeg)) 0) = true
    · have hd2 := hd
      rw [e9] at hd2
      exact lwo7_1 hL hn (fun Q => w195_ok1 (fun Q => by rw [c64, if_pos hv, if_pos hd])) (fun Q hq => by rw [c149 (mo_inv_kok (SX_inv h.1)), if_pos hv, if_pos hd2]; exact hq) (rf_60 _ _) (hK _ _ _ _ _ (INV_rf h (by omega) 0) (by omega))
    · have hd2 := hd
      rw [e9] at hd2
      exact lwo7_0 hL hn (fun Q => w195_ok0 (fun Q => by rw [c64, if_pos hv, if_neg hd])) (fun Q hq => by rw [c149 (mo_inv_kok (SX_inv h.1)), if_pos hv, if_neg hd2]; exact hq) (rf_60 _ _) (hK _ _ _ _ _ (INV_rf h (by omega) 0) (by omega))
  · exact lwt7 hL hn (k := 1) (by decide) (fun Q => w195_t0 (fun Q => by rw [c64, if_neg hv])) (fun Q hq => by rw [c149 (mo_inv_kok (SX_inv h.1)), if_neg hv]; exact hq) (rf_60 _ _) (hK _ _ _ _ _ (INV_rf h (by omega) 1) (by omega))
theorem ls12 (hL : sc.1 ≤ 2048) (hn : n + 3 < sc.1) (h : INV B I) (hB : B < 2 ^ 29) (hK : lk sc Q n (B + 80000) (t + 1)) : mm_C (213, mm_blk 213 28, [some (.float 0), some (.ref 0), some (.ref 206), some (.ref 214), some (.int (nI n)), x5, x6], [], (hp sc I o t)) Q := by
  by_cases hv : ¬ sc.2 (n + 1) < 0 ∧ sc.2 (n + 1) < 60
  · obtain ⟨j, hj, ej⟩ := cJ (n := 60) (by omega) hv.1 hv.2
    have e9 : (sy_dn (I (3 + 3)) (sc.2 (n + 1)) = true) = (0 < I 207 (30 + 2 * (sc.2 (n + 1)).toNatClampNeg)) := by rw [ej, (cK hj).2.1]; exact R_dn h.1 hj
    by_cases hd : sy_dn (I (3 + 3)) (sc.2 (n + 1)) = true
    · have hd2 := hd
      rw [e9] at hd2
      exact lwo12_1 hL hn (fun Q => w196_ok1 (fun Q => by rw [c69, if_pos hv, if_pos hd])) (fun Q hq => by rw [c155, if_pos hv, if_pos hd2]; exact hq) (rf_60 _ _) (hK _ _ _ _ _ (INV_rf h (by omega) 0) (by omega))
    · have hd2 := hd
      rw [e9] at hd2
      exact lwo12_0 hL hn (fun Q => w196_ok0 (fun Q => by rw [c69, if_pos hv, if_neg hd])) (fun Q hq => by rw [c155, if_pos hv, if_neg hd2]; exact hq) (rf_60 _ _) (hK _ _ _ _ _ (INV_rf h (by omega) 0) (by omega))
  · exact lwt12 hL hn (k := 1) (by decide) (fun Q => w196_t0 (fun Q => by rw [c69, if_neg hv])) (fun Q hq => by rw [c155, if_neg hv]; exact hq) (rf_60 _ _) (hK _ _ _ _ _ (INV_rf h (by omega) 1) (by omega))
theorem ls33 (hL : sc.1 ≤ 2048) (hn : n + 3 < sc.1) (h : INV B I) (hB : B < 2 ^ 29) (hK : lk sc Q n (B + 80000) (t + 1)) : mm_C (213, mm_blk 213 77, [some (.float 0), some (.ref 0), some (.ref 206), some (.ref 214), some (.int (nI n)), x5, x6], [], (hp sc I o t)) Q := by
  by_cases hv : ¬ sc.2 (n + 1) < 0 ∧ sc.2 (n + 1) < 60
  · obtain ⟨j, hj, ej⟩ := cJ (n := 60) (by omega) hv.1 hv.2
    have e9 : (sy_dn (I 6) (sc.2 (n + 1)) = true) = (0 < I 207 (30 + 2 * (sc.2 (n + 1)).toNatClampNeg)) := by rw [ej, (cK hj).2.1]; exact R_dn h.1 hj
    by_cases hd : sy_dn (I 6) (sc.2 (n + 1)) = true
    · have hd2 := hd
      rw [e9] at hd2
      exact lwt33 hL hn (k := 2) (by decide) (fun Q => w205_t2 (fun Q => by rw [c90, if_pos hv, if_neg (fun g => g hd)])) (fun Q hq => by rw [c178 (INV_hf h), if_pos hv, if_pos hd2]; exact hq) (rf_60 _ _) (hK _ _ _ _ _ (INV_rf h (by omega) 2) (by omega))
    · have hd2 := hd
      rw [e9] at hd2
      have ea : (if mo_voice (I 207) (sc.2 (n + 1)) = -1 then mo_next (I 207) else mo_voice (I 207) (sc.2 (n + 1))) = (if sy_own I 3 (sc.2 (n + 1)) = -1 then (if sy_fr I 3 = -1 then sy_steal I 3 else sy_fr I 3) else sy_own I 3 (sc.2 (n + 1))) := by
        rw [R_next h.1, R_own h.1 (by rw [ej]; exact neN (by omega))]
      exact lwo33 hL hn (fun Q => w205_ok (fun Q => by rw [c90, if_pos hv, if_pos hd])) (fun Q hq => by rw [c178 (INV_hf h), if_pos hv, if_neg hd2, ea]; exact hq) (rf_60 _ _) (hK _ _ _ _ _ (INV_rf h (by omega) 0) (by omega))
  · exact lwt33 hL hn (k := 1) (by decide) (fun Q => w205_t0 (fun Q => by rw [c90, if_neg hv])) (fun Q hq => by rw [c178 (INV_hf h), if_neg hv]; exact hq) (rf_60 _ _) (hK _ _ _ _ _ (INV_rf h (by omega) 1) (by omega))
theorem sy_fb_o (n : Nat) : ∀ (J : Nat → Nat → Int32) (c : Int32) {x : Nat}, ¬ x = 183 → (sy_fb n J c).2 x = J x := by
  induction n with
  | zero => intro J c x _; rfl
  | succ n ih =>
    intro J c x hx
    unfold sy_fb
    split
    · rfl
    · rw [ih _ _ hx, mm_up_n _ _ hx]
theorem INV_183 {J : Nat → Nat → Int32} (h : INV B I) (hJ : ∀ x, ¬ (172 ≤ x ∧ x < 184) → J x = I x) : INV B J := INV_q h (Nat.le_refl _) (fun x h1 _ _ _ _ => hJ x h1) (by rw [hJ 206 (by omega)]) (by rw [hJ 206 (by omega)])
theorem ls36 (hL : sc.1 ≤ 2048) (hn : n + 3 < sc.1) (h : INV B I) (hB : B < 2 ^ 29) (hK : lk sc Q n (B + 80000) (t + 1)) : mm_C (213, mm_blk 213 84, [some (.float 0), some (.ref 0), some (.ref 206), some (.ref 214), some (.int (nI n)), x5, x6], [], (hp sc I o t)) Q := by
  by_cases hv : ¬ sc.2 (n + 1) < 0 ∧ sc.2 (n + 1) < 6
  · obtain ⟨j, hj, ej⟩ := cJ (n := 6) (by omega) hv.1 hv.2
    obtain ⟨-, e9⟩ := R_dies h.1 hj
    by_cases hz : I (3 + (5 + (sc.2 (n + 1)).toNatClampNeg)) 1 = 0
    · have ea : mo_dies (I 207) (sc.2 (n + 1)).toNatClampNeg = 0 := by
        rw [ej, (cV hj).2.1] at hz ⊢
        rcases e9 with e | e
        · exact e.2
        · exact absurd hz e.1
      exact lwo36 hL hn (A := 0) (fun Q => w207_ok (fun Q => by rw [c93, if_pos hv, if_pos hz])) (fun Q hq => by rw [c182 (INV_hd h), if_pos hv, ea]; exact hq) (rf_60 _ _) (hK _ _ _ _ _ (INV_rf h (by omega) 0) (by omega))
    · have ej2 : (sc.2 (n + 1)).toNatClampNeg = j := by rw [ej, (cV hj).2.1]
      rw [ej2] at hz
      have hJ : ∀ x, ¬ (172 ≤ x ∧ x < 184) → (sy_fb 1000 (sy_fb0 I j) 0).2 x = I x := fun x hx => by
        rw [sy_fb_o _ _ _ (by omega)]
        unfold sy_fb0
        rw [mm_up_n _ _ (by omega)]
      have hI := INV_183 h hJ
      have e7 : (sy_fb 1000 (sy_fb0 I j) 0).2 207 = I 207 := hJ 207 (by omega)
      rcases e9 with e | ⟨-, l, d, l1, d1, d2, el, ed, em⟩
      · exact absurd e.1 hz
      have ea : (sy_fb 1000 (sy_fb0 I j) 0).1 = nI (die_n l d) := by
        rw [fb_run d1 d2 1000 (sy_fb0 I j) 0 l l1 (by omega) (by omega) ?_ ?_ ?_, Int32.zero_add]
        · unfold sy_fb0; rw [mm_up_s, mm_up_s]
        · unfold sy_fb0; rw [mm_up_s, mm_up_n _ _ (by decide)]; exact el
        · unfold sy_fb0; rw [mm_up_n _ _ (by decide)]; exact ed
      exact lwo36 hL hn (fun Q => w207_ok (fun Q => by rw [c93, if_pos hv, ej2, if_neg hz])) (fun Q hq => by rw [c182 (INV_hd hI), if_pos hv, ej2, e7, em, ← ea]; exact hq) (rf_60 _ _) (hK _ _ _ _ _ (INV_rf hI (by omega) 0) (by omega))
  · exact lwt36 hL hn (k := 1) (by decide) (fun Q => w207_t0 (fun Q => by rw [c93, if_neg hv])) (fun Q hq => by rw [c182 (INV_hd h), if_neg hv]; exact hq) (rf_60 _ _) (hK _ _ _ _ _ (INV_rf h (by omega) 1) (by omega))
theorem sy_look_o (n : Nat) : ∀ (J : Nat → Nat → Int32) (c : Int32) {x : Nat}, ¬ (172 ≤ x ∧ x < 172 + 11) → (sy_look n J c).2 x = J x := by
  induction n with
  | zero => intro J c x _; rfl
  | succ n ih =>
    intro J c x hx
    unfold sy_look
    rw [ih _ _ hx, fr_tick _ hx]
theorem INV_trial (h : INV B I) : SX 0 0 B (sy_copy I 172 3) 172 (I 207) := R_copy (fun i k h1 h2 => by omega) h.1 (fun _ _ => rfl)
theorem INV_208 {q : Nat → Int32} (h : INV B I) : INV B (mm_up (rf I 0) 208 q) := INV_q h (Nat.le_refl _) (fun x _ h6 h8 _ _ => by rw [mm_up_n _ _ h8, rf_n _ _ h6]) (by rw [mm_up_n _ _ (by decide), rf_6, mm_up_n _ _ (by decide)]) (by rw [mm_up_n _ _ (by decide), rf_6, mm_up_n _ _ (by decide)])
theorem ls38 (hL : sc.1 ≤ 2048) (hn : n + 3 < sc.1) (h : INV B I) (hB : B < 2 ^ 29) (hK : lk sc Q n (B + 80000) (t + 1)) : mm_C (213, mm_blk 213 90, [some (.float 0), some (.ref 0), some (.ref 206), some (.ref 214), some (.int (nI n)), x5, x6], [], (hp sc I o t)) Q := by
  by_cases hv : ¬ sc.2 (n + 1) < 1 ∧ ¬ 200 < sc.2 (n + 1)
  · have hJ : ∀ x, ¬ (172 ≤ x ∧ x < 184) → (sy_look (sc.2 (n + 1)).toNatClampNeg (sy_copy I 172 3) 0).2 x = I x := fun x hx => by rw [sy_look_o _ _ _ (by omega), sy_copy_o _ (by omega)]
    have hI := INV_183 h hJ
    have e7 : (sy_look (sc.2 (n + 1)).toNatClampNeg (sy_copy I 172 3) 0).2 207 = I 207 := hJ 207 (by omega)
    have ea := fun g => R_look (r := mo_cp (I 207) 163 g) (sc.2 (n + 1)).toNatClampNeg 0 (SX_row (q := mo_cp (I 207) 163 g) (INV_trial h) (fun k hk => mo_cp_163 (I 207) g hk))
    exact lwo38 hL hn (fun Q => w209_ok (fun Q => by rw [c95 (INV_b01 h).1 (INV_b01 h).2, if_pos hv])) (fun Q hq => by rw [c184, if_pos hv, e7, ← ea]; exact hq) (by rw [mm_up_n _ _ (by decide)]; exact rf_60 _ _) (hK _ _ _ _ _ (INV_B (INV_208 hI) (by omega)) (by omega))
  · exact lwt38 hL hn (k := 1) (by decide) (fun Q => w209_t1 (fun Q => by rw [c95 (INV_b01 h).1 (INV_b01 h).2, if_neg hv])) (fun Q hq => by rw [c184, if_neg hv]; exact hq) (rf_60 _ _) (hK _ _ _ _ _ (INV_rf h (by omega) 1) (by omega))
end XL
