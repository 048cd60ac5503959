/-! the class itself: fixed cells, what calls need, queries -/
section VS
variable {sc : Nat × (Nat → Int32)} {I : Nat → Nat → Int32} {o : Int64} {t : Nat} {Q : mm_Q}
theorem mm_fixA : mm_is 0 5 ∧ mm_is 1 1 ∧ mm_is 2 12 ∧ mm_is 14 0 ∧ mm_is 15 14 ∧ mm_isq 15 ∧ mm_is 170 14 ∧ mm_isq 170 ∧ mm_is 171 11 ∧ mm_is 183 4 := by
  simp only [mm_is, mm_isq]; decide +kernel
theorem mm_fixB : (mm_nn 0 0 ∧ mm_nn 0 1 ∧ mm_nn 0 2 ∧ mm_nn 0 3 ∧ mm_nn 0 4 ∧ mm_nn 0 5 ∧ mm_nn 0 6) ∧ (mm_rg 0 0 = 1 ∧ mm_rg 0 1 = 3 ∧ mm_rg 0 2 = 14 ∧ mm_rg 0 3 = 170 ∧ mm_rg 0 4 = 171 ∧ mm_rg 0 5 = 172 ∧ mm_rg 0 6 = 183) ∧ (mm_nn 1 0 ∧ mm_rg 1 0 = 2 ∧ mm_len 2 = 120) ∧ (mm_nn 14 0 ∧ mm_rg 14 0 = 15 ∧ mm_len 15 = 14) ∧ (mm_len 170 = 2 ∧ mm_nn 170 0 ∧ mm_nn 170 1 ∧ mm_rg 170 0 = 184 ∧ mm_rg 170 1 = 195 ∧ mm_len 171 = 2) := by
  simp only [mm_nn, mm_rg, mm_len]; decide +kernel
theorem s3 : mm_isS 3 := by unfold mm_isS; decide +kernel
theorem s172 : mm_isS 172 := by unfold mm_isS; decide +kernel
theorem s184 : mm_isS 184 := by unfold mm_isS; decide +kernel
theorem s195 : mm_isS 195 := by unfold mm_isS; decide +kernel
theorem mm_fixR : ∀ j, j < 14 → mm_isS (16 + 11 * j) ∧ mm_nn 15 j ∧ mm_rg 15 j = 16 + 11 * j ∧ mm_in (nI j) 14 = true ∧ (nI j).toNatClampNeg = j ∧ ¬ 16 + 11 * j = 3 := by
  simp only [mm_nn, mm_rg, mm_isS]; decide +kernel
theorem cJ {v : Int32} {n : Nat} (hn : n ≤ 100) (h1 : ¬ v < 0) (h2 : v < nI n) : ∃ j, j < n ∧ v = nI j := by
  have h3 : (0 : Int32) ≤ v := Int32.not_lt.mp h1
  have h4 := Int32.le_iff_toInt_le.mp h3
  have h5 := Int32.lt_iff_toInt_lt.mp h2
  have e0 : (0 : Int32).toInt = 0 := by decide
  have e1 := nI_toInt (n := n) (by omega)
  refine ⟨v.toInt.toNat, by omega, Int32.toInt_inj.mp ?_⟩
  rw [nI_toInt (by omega)]
  omega
theorem mm_is3 : mm_is 3 3 := (mm_syn s3).1.1
theorem c101 {v : Int32} : mm_C (mm_entry 101 [.int v] (hp sc I o t)) Q ↔ if ¬ v < 0 ∧ v < 6 then Q (.inl none) (hp sc I o t) else Q (.inr 0) (hp sc I o (t + 1)) := by
  by_cases h1 : v < 0
  · simp +decide only [mM_101, cR, cH, h1, and_true, true_and, and_false, false_and, or_true, true_or, or_false, false_or, not_true_eq_false, not_false_eq_true, decide_eq_true_eq, decide_true, decide_false, Bool.not_true, Bool.not_false, Bool.and_true, Bool.true_and, Bool.and_false, Bool.false_and, Bool.false_eq_true, eq_self, ↓reduceIte]
  · by_cases h2 : v < 6 <;> simp +decide only [mM_101, cR, cH, h1, h2, and_true, true_and, and_false, false_and, or_true, true_or, or_false, false_or, not_true_eq_false, not_false_eq_true, decide_eq_true_eq, decide_true, decide_false, Bool.not_true, Bool.not_false, Bool.and_true, Bool.true_and, Bool.and_false, Bool.false_and, Bool.false_eq_true, eq_self, ↓reduceIte]
theorem c102 {v : Int32} : mm_C (mm_entry 102 [.int v] (hp sc I o t)) Q ↔ if ¬ v < 0 ∧ v < 60 then Q (.inl none) (hp sc I o t) else Q (.inr 0) (hp sc I o (t + 1)) := by
  by_cases h1 : v < 0
  · simp +decide only [mM_102, cR, cH, h1, and_true, true_and, and_false, false_and, or_true, true_or, or_false, false_or, not_true_eq_false, not_false_eq_true, decide_eq_true_eq, decide_true, decide_false, Bool.not_true, Bool.not_false, Bool.and_true, Bool.true_and, Bool.and_false, Bool.false_and, Bool.false_eq_true, eq_self, ↓reduceIte]
  · by_cases h2 : v < 60 <;> simp +decide only [mM_102, cR, cH, h1, h2, and_true, true_and, and_false, false_and, or_true, true_or, or_false, false_or, not_true_eq_false, not_false_eq_true, decide_eq_true_eq, decide_true, decide_false, Bool.not_true, Bool.not_false, Bool.and_true, Bool.true_and, Bool.and_false, Bool.false_and, Bool.false_eq_true, eq_self, ↓reduceIte]
theorem c103 {v : Int32} : mm_C (mm_entry 103 [.int v] (hp sc I o t)) Q ↔ if ¬ v < 0 ∧ v < 2 then Q (.inl none) (hp sc I o t) else Q (.inr 0) (hp sc I o (t + 1)) := by
  by_cases h1 : v < 0
  · simp +decide only [mM_103, cR, cH, h1, and_true, true_and, and_false, false_and, or_true, true_or, or_false, false_or, not_true_eq_false, not_false_eq_true, decide_eq_true_eq, decide_true, decide_false, Bool.not_true, Bool.not_false, Bool.and_true, Bool.true_and, Bool.and_false, Bool.false_and, Bool.false_eq_true, eq_self, ↓reduceIte]
  · by_cases h2 : v < 2 <;> simp +decide only [mM_103, cR, cH, h1, h2, and_true, true_and, and_false, false_and, or_true, true_or, or_false, false_or, not_true_eq_false, not_false_eq_true, decide_eq_true_eq, decide_true, decide_false, Bool.not_true, Bool.not_false, Bool.and_true, Bool.true_and, Bool.and_false, Bool.false_and, Bool.false_eq_true, eq_self, ↓reduceIte]
theorem c104 {v l h : Int32} : mm_C (mm_entry 104 [.int v, .int l, .int h] (hp sc I o t)) Q ↔ if ¬ v < l ∧ ¬ h < v then Q (.inl none) (hp sc I o t) else Q (.inr 1) (hp sc I o (t + 1)) := by
  by_cases h1 : v < l
  · simp +decide only [mM_104, cR, cH, h1, and_true, true_and, and_false, false_and, or_true, true_or, or_false, false_or, not_true_eq_false, not_false_eq_true, decide_eq_true_eq, decide_true, decide_false, Bool.not_true, Bool.not_false, Bool.and_true, Bool.true_and, Bool.and_false, Bool.false_and, Bool.false_eq_true, eq_self, ↓reduceIte]
  · by_cases h2 : h < v <;> simp +decide only [mM_104, cR, cH, h1, h2, and_true, true_and, and_false, false_and, or_true, true_or, or_false, false_or, not_true_eq_false, not_false_eq_true, decide_eq_true_eq, decide_true, decide_false, Bool.not_true, Bool.not_false, Bool.and_true, Bool.true_and, Bool.and_false, Bool.false_and, Bool.false_eq_true, eq_self, ↓reduceIte]
theorem c105 {v : Int32} : mm_C (mm_entry 105 [.ref 0, .int v] (hp sc I o t)) Q ↔ if ¬ sy_dn (I 6) v = true then Q (.inl none) (hp sc I o t) else Q (.inr 2) (hp sc I o (t + 1)) := by
  by_cases h1 : sy_dn (I (3 + 3)) v = true <;> have h2 := h1 <;> simp only [Nat.reduceAdd] at h2 <;> simp +decide only [mM_105, cR, cH, mm_fixA, mm_fixB, mm_syn s3, c30 s3, h1, h2, cB0, cB1, and_true, true_and, and_false, false_and, or_true, true_or, or_false, false_or, not_true_eq_false, not_false_eq_true, decide_eq_true_eq, decide_true, decide_false, Bool.not_true, Bool.not_false, Bool.and_true, Bool.true_and, Bool.and_false, Bool.false_and, Bool.false_eq_true, eq_self, ↓reduceIte]
theorem c61 {v : Int32} : mm_C (mm_entry 61 [.ref 0, .int v] (hp sc I o t)) Q ↔ if ¬ v < 0 ∧ v < 6 then Q (.inl (some (.int (I (3 + (5 + v.toNatClampNeg)) 1)))) (hp sc I o t) else Q (.inr 0) (hp sc I o (t + 1)) := by
  by_cases h : ¬ v < 0 ∧ v < 6
  · obtain ⟨j, hj, rfl⟩ := cJ (n := 6) (by omega) h.1 h.2
    rw [if_pos h]
    simp +decide only [mM_61, cR, cH, mm_fixA, mm_fixB, mm_syn s3, mm_synV s3 hj, cV hj, c101, if_pos h, ↓reduceIte]
  · rw [if_neg h]
    simp +decide only [mM_61, cR, cH, mm_fixA, mm_fixB, c101, if_neg h, ↓reduceIte]
theorem c62 {v : Int32} : mm_C (mm_entry 62 [.ref 0, .int v] (hp sc I o t)) Q ↔ if ¬ v < 0 ∧ v < 6 then Q (.inl (some (.int (I (3 + (5 + v.toNatClampNeg)) 0)))) (hp sc I o t) else Q (.inr 0) (hp sc I o (t + 1)) := by
  by_cases h : ¬ v < 0 ∧ v < 6
  · obtain ⟨j, hj, rfl⟩ := cJ (n := 6) (by omega) h.1 h.2
    rw [if_pos h]
    simp +decide only [mM_62, cR, cH, mm_fixA, mm_fixB, mm_syn s3, mm_synV s3 hj, cV hj, c101, if_pos h, ↓reduceIte]
  · rw [if_neg h]
    simp +decide only [mM_62, cR, cH, mm_fixA, mm_fixB, c101, if_neg h, ↓reduceIte]
theorem c63 {v : Int32} : mm_C (mm_entry 63 [.ref 0, .int v] (hp sc I o t)) Q ↔ if ¬ v < 0 ∧ v < 6 then Q (.inl (some (.int (I (3 + (5 + v.toNatClampNeg)) 3)))) (hp sc I o t) else Q (.inr 0) (hp sc I o (t + 1)) := by
  by_cases h : ¬ v < 0 ∧ v < 6
  · obtain ⟨j, hj, rfl⟩ := cJ (n := 6) (by omega) h.1 h.2
    rw [if_pos h]
    simp +decide only [mM_63, cR, cH, mm_fixA, mm_fixB, mm_syn s3, mm_synV s3 hj, cV hj, c101, if_pos h, ↓reduceIte]
  · rw [if_neg h]
    simp +decide only [mM_63, cR, cH, mm_fixA, mm_fixB, c101, if_neg h, ↓reduceIte]
theorem c65 : mm_C (mm_entry 65 [.ref 0] (hp sc I o t)) Q ↔ Q (.inl (some (.int (sy_fold (fun v c => if I (3 + (5 + v)) 1 = 0 then c else c + 1) 6 0)))) (hp sc I o t) := by
  simp +decide only [mM_65, cR, cH, mm_fixA, mm_fixB, mm_is3, c20 s3]
theorem c66 : mm_C (mm_entry 66 [.ref 0] (hp sc I o t)) Q ↔ Q (.inl (some (.int (sy_o1 I 3)))) (hp sc I o t) := by
  simp +decide only [mM_66, cR, cH, mm_fixA, mm_fixB, mm_is3, c25a' s3]
theorem c67 : mm_C (mm_entry 67 [.ref 0] (hp sc I o t)) Q ↔ Q (.inl (some (.int (sy_fold (fun v c => c + I (3 + (5 + v)) 3) 6 0)))) (hp sc I o t) := by
  simp +decide only [mM_67, cR, cH, mm_fixA, mm_fixB, mm_is3, c21 s3]
theorem c71 : mm_C (mm_entry 71 [.ref 0] (hp sc I o t)) Q ↔ Q (.inl (some (.int (sy_keys (fun k c => if 0 < I (3 + 3) k then c + 1 else c) 60 0)))) (hp sc I o t) := by
  simp +decide only [mM_71, cR, cH, mm_fixA, mm_fixB, mm_is3, c31 s3]
theorem c72 : mm_C (mm_entry 72 [.ref 0] (hp sc I o t)) Q ↔ Q (.inl (some (.int (sy_keys (fun k c => if 0 < I (3 + 3) k ∧ sy_own I 3 (nI k) = -1 then c + 1 else c) 60 0)))) (hp sc I o t) := by
  simp +decide only [mM_72, cR, cH, mm_fixA, mm_fixB, mm_is3, c32 s3]
theorem c73 : mm_C (mm_entry 73 [.ref 0] (hp sc I o t)) Q ↔ Q (.inl (some (.int (sy_lt I 3)))) (hp sc I o t) := by
  simp +decide only [mM_73, cR, cH, mm_fixA, mm_fixB, mm_is3, c33' s3]
theorem c75 : mm_C (mm_entry 75 [.ref 0] (hp sc I o t)) Q ↔ Q (.inl (some (.int (I 3 9)))) (hp sc I o t) := by
  simp +decide only [mM_75, cR, cH, mm_fixA, mm_fixB, mm_is3]
theorem c77 : mm_C (mm_entry 77 [.ref 0] (hp sc I o t)) Q ↔ Q (.inl (some (.int (I 3 11)))) (hp sc I o t) := by
  simp +decide only [mM_77, cR, cH, mm_fixA, mm_fixB, mm_is3]
theorem c78 : mm_C (mm_entry 78 [.ref 0] (hp sc I o t)) Q ↔ Q (.inl (some (.int (I 3 12)))) (hp sc I o t) := by
  simp +decide only [mM_78, cR, cH, mm_fixA, mm_fixB, mm_is3]
theorem c79 : mm_C (mm_entry 79 [.ref 0] (hp sc I o t)) Q ↔ Q (.inl (some (.int (I 3 8)))) (hp sc I o t) := by
  simp +decide only [mM_79, cR, cH, mm_fixA, mm_fixB, mm_is3]
theorem c80 : mm_C (mm_entry 80 [.ref 0] (hp sc I o t)) Q ↔ Q (.inl (some (.int (I 3 7)))) (hp sc I o t) := by
  simp +decide only [mM_80, cR, cH, mm_fixA, mm_fixB, mm_is3]
theorem c74 (h5 : mm_b01 (I 3 5)) : mm_C (mm_entry 74 [.ref 0] (hp sc I o t)) Q ↔ Q (.inl (some (.int (I 3 5)))) (hp sc I o t) := by
  rcases h5 with h | h <;> simp +decide only [mM_74, cR, cH, mm_fixA, mm_fixB, mm_is3, h]
theorem c76 : mm_C (mm_entry 76 [.ref 0] (hp sc I o t)) Q ↔ Q (.inl (some (.int (I 3 10 + I 3 11 + sy_fold (fun v c => if I (3 + (5 + v)) 1 = 0 then c else c + 1) 6 0)))) (hp sc I o t) := by
  simp +decide only [mM_76, cR, cH, mm_fixA, mm_fixB, mm_is3, c20 s3]
theorem c64 {v : Int32} : mm_C (mm_entry 64 [.ref 0, .int v] (hp sc I o t)) Q ↔ if ¬ v < 0 ∧ v < 6 then Q (.inl (some (.int (if ¬ I (3 + (5 + v.toNatClampNeg)) 1 = 0 ∧ ¬ I (3 + (5 + v.toNatClampNeg)) 1 = 4 ∧ ¬ sy_dn (I (3 + 3)) (I (3 + (5 + v.toNatClampNeg)) 0) = true then 1 else 0)))) (hp sc I o t) else Q (.inr 0) (hp sc I o (t + 1)) := by
  by_cases h : ¬ v < 0 ∧ v < 6
  · obtain ⟨j, hj, rfl⟩ := cJ (n := 6) (by omega) h.1 h.2
    rw [if_pos h]
    by_cases h2 : ¬ I (3 + (5 + j)) 1 = 0 ∧ ¬ I (3 + (5 + j)) 1 = 4 ∧ ¬ sy_dn (I (3 + 3)) (I (3 + (5 + j)) 0) = true 
    · simp +decide only [mM_64, cR, cH, mm_fixA, mm_fixB, mm_syn s3, mm_synV s3 hj, cV hj, c101, c28 s3 (mm_synV s3 hj).1, if_pos h, if_pos h2, ↓reduceIte]
    · simp +decide only [mM_64, cR, cH, mm_fixA, mm_fixB, mm_syn s3, mm_synV s3 hj, cV hj, c101, c28 s3 (mm_synV s3 hj).1, if_pos h, if_neg h2, ↓reduceIte]
  · rw [if_neg h]
    simp +decide only [mM_64, cR, cH, mm_fixA, mm_fixB, c101, if_neg h, ↓reduceIte]
theorem c69 {v : Int32} : mm_C (mm_entry 69 [.ref 0, .int v] (hp sc I o t)) Q ↔ if ¬ v < 0 ∧ v < 60 then Q (.inl (some (.int (if sy_dn (I (3 + 3)) v = true then 1 else 0)))) (hp sc I o t) else Q (.inr 0) (hp sc I o (t + 1)) := by
  by_cases h : ¬ v < 0 ∧ v < 60
  · rw [if_pos h]
    by_cases h2 : sy_dn (I (3 + 3)) v = true 
    · simp +decide only [mM_69, cR, cH, mm_fixA, mm_fixB, mm_is3, c102, c30 s3, if_pos h, if_pos h2, ↓reduceIte]
    · simp +decide only [mM_69, cR, cH, mm_fixA, mm_fixB, mm_is3, c102, c30 s3, if_pos h, if_neg h2, ↓reduceIte]
  · rw [if_neg h]
    simp +decide only [mM_69, cR, cH, mm_fixA, mm_fixB, c102, if_neg h, ↓reduceIte]
theorem c70 {v : Int32} : mm_C (mm_entry 70 [.ref 0, .int v] (hp sc I o t)) Q ↔ if ¬ v < 0 ∧ v < 60 then Q (.inl (some (.int (sy_own I 3 v)))) (hp sc I o t) else Q (.inr 0) (hp sc I o (t + 1)) := by
  by_cases h : ¬ v < 0 ∧ v < 60
  · rw [if_pos h]
    simp +decide only [mM_70, cR, cH, mm_fixA, mm_fixB, mm_is3, c102, c23' s3, if_pos h, ↓reduceIte]
  · rw [if_neg h]
    simp +decide only [mM_70, cR, cH, mm_fixA, mm_fixB, c102, if_neg h, ↓reduceIte]
theorem c92 : mm_C (mm_entry 92 [.ref 0] (hp sc I o t)) Q ↔ Q (.inl (some (.int (if sy_fr I 3 = -1 then sy_steal I 3 else -1)))) (hp sc I o t) := by
  by_cases h : sy_fr I 3 = -1 <;> simp +decide only [mM_92, cR, cH, mm_fixA, mm_fixB, mm_is3, c24' s3, c27 s3, h, ↓reduceIte]
end VS
