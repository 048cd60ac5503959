/-! the class: the simulation, the text -/
section VW
variable {sc : Nat × (Nat → Int32)} {I : Nat → Nat → Int32} {o : Int64} {t : Nat} {Q : mm_Q}
def sy_next (x : Int64) : Int64 := x * Int64.ofNat 6364136223846793005 + Int64.ofNat 1442695040888963407
def sy_r (x : Int64) : Int32 := (x.toUInt64 >>> ((33 : Int32).toInt64.toUInt64 &&& Int64.toUInt64 63)).toInt64.toInt32
def sy_sim : Nat → (Nat → Nat → Int32) → Int64 → (Nat → Nat → Int32)
  | 0, I, _ => I
  | n + 1, I, x => sy_sim n (sy_turn I (sy_r (sy_next x))) (sy_next x)
theorem c5 : mm_C (mm_entry 5 [.ref 1] (hp sc I o t)) Q ↔ Q (.inl (some (.int (if I 1 1 < 120 then 0 else 1)))) (hp sc I o t) := by
  by_cases h : I 1 1 < 120 <;> simp +decide only [mM_5, cR, cH, mm_fixA, mm_fixB, h, ↓reduceIte]
theorem c7 : mm_C (mm_entry 7 [.ref 1] (hp sc I o t)) Q ↔ Q (.inl (some (.int (I 1 1)))) (hp sc (mm_up I 1 (mm_up (I 1) 1 0)) o t) := by
  simp +decide only [mM_7, cR, cH, mm_fixA, mm_fixB]
theorem c57 : mm_C (mm_entry 57 [.ref 0] (hp sc I o t)) Q ↔ Q (.inl (some (.int (I 1 1)))) (hp sc (mm_up I 1 (mm_up (I 1) 1 0)) o t) := by
  simp +decide only [mM_57, cR, cH, mm_fixA, mm_fixB, c7]
theorem mm_in120 {k : Int32} (h1 : ¬ k < 0) (h2 : k < 120) : mm_in k 120 = true := by
  have h3 : (0 : Int32) ≤ k := Int32.not_lt.mp h1
  have h4 := Int32.le_iff_toInt_le.mp h3
  have h5 := Int32.lt_iff_toInt_lt.mp h2
  have e0 : (0 : Int32).toInt = 0 := by decide
  have e1 : (120 : Int32).toInt = 120 := by decide
  have e2 : k.toNatClampNeg = k.toInt.toNat := rfl
  simp only [mm_in, Bool.and_eq_true, decide_eq_true_eq]
  exact ⟨h3, by omega⟩
def pc_add (I : Nat → Nat → Int32) (c : Int32) : Nat → Nat → Int32 := if I 1 1 < 120 then mm_up (mm_up I 2 (mm_up (I 2) (I 1 1).toNatClampNeg c)) 1 (mm_up (I 1) 1 (I 1 1 + 1)) else I
theorem c6 (h0 : ¬ I 1 1 < 0) {c : Int32} (hc : (c.toUInt32 % 65536).toInt32 = c) : mm_C (mm_entry 6 [.ref 1, .int c] (hp sc I o t)) Q ↔ Q (.inl (some (.int (pc_add I c 1 1)))) (hp sc (pc_add I c) o t) := by
  by_cases h : I 1 1 < 120
  · have h2 := mm_in120 h0 h
    simp +decide only [mM_6, cR, cH, mm_fixA, mm_fixB, h, h2, hc, pc_add, mm_up_s, mm_up_up, mm_up_n, ↓reduceIte]
  · simp +decide only [mM_6, cR, cH, mm_fixA, mm_fixB, h, pc_add, ↓reduceIte]
def pc_at (I : Nat → Nat → Int32) (k : Int32) : Int32 := if ¬ k < 0 ∧ k < I 1 1 ∧ k < 120 then I 2 k.toNatClampNeg else 0
theorem ch0 : ((0 : Int32).toUInt32 % 65536).toInt32 = 0 := by decide
theorem c8 (hch : ∀ j, j < 120 → ((I 2 j).toUInt32 % 65536).toInt32 = I 2 j) {k : Int32} : mm_C (mm_entry 8 [.ref 1, .int k] (hp sc I o t)) Q ↔ Q (.inl (some (.int (pc_at I k)))) (hp sc I o t) := by
  unfold pc_at
  by_cases h1 : k < 0
  · simp +decide only [mM_8, cR, cR43, ch0, cH, mm_fixA, mm_fixB, h1, and_true, true_and, and_false, false_and, or_true, true_or, or_false, false_or, not_true_eq_false, not_false_eq_true, decide_eq_true_eq, decide_true, decide_false, Bool.not_true, Bool.not_false, Bool.and_true, Bool.true_and, Bool.and_false, Bool.false_and, Bool.false_eq_true, eq_self, ↓reduceIte]
  by_cases h2 : k < I 1 1
  · by_cases h3 : k < 120
    · have h4 := mm_in120 h1 h3
      have h5 : k.toNatClampNeg < 120 := by
        simp only [mm_in, Bool.and_eq_true, decide_eq_true_eq] at h4
        exact h4.2
      simp +decide only [mM_8, cR, cR43, ch0, cH, mm_fixA, mm_fixB, h1, h2, h3, h4, hch _ h5, and_true, true_and, and_false, false_and, or_true, true_or, or_false, false_or, not_true_eq_false, not_false_eq_true, decide_eq_true_eq, decide_true, decide_false, Bool.not_true, Bool.not_false, Bool.and_true, Bool.true_and, Bool.and_false, Bool.false_and, Bool.false_eq_true, eq_self, ↓reduceIte]
    · simp +decide only [mM_8, cR, cR43, ch0, cH, mm_fixA, mm_fixB, h1, h2, h3, and_true, true_and, and_false, false_and, or_true, true_or, or_false, false_or, not_true_eq_false, not_false_eq_true, decide_eq_true_eq, decide_true, decide_false, Bool.not_true, Bool.not_false, Bool.and_true, Bool.true_and, Bool.and_false, Bool.false_and, Bool.false_eq_true, eq_self, ↓reduceIte]
  · simp +decide only [mM_8, cR, cR43, ch0, cH, mm_fixA, mm_fixB, h1, h2, and_true, true_and, and_false, false_and, or_true, true_or, or_false, false_or, not_true_eq_false, not_false_eq_true, decide_eq_true_eq, decide_true, decide_false, Bool.not_true, Bool.not_false, Bool.and_true, Bool.true_and, Bool.and_false, Bool.false_and, Bool.false_eq_true, eq_self, ↓reduceIte]
theorem c10_sw : mm_sw 112 [4, 1, 4, 2, 3, 2] 112 = 1 ∧ mm_sw 112 [4, 1, 4, 2, 3, 2] 113 = 4 ∧ mm_sw 112 [4, 1, 4, 2, 3, 2] 114 = 2 ∧ mm_sw 112 [4, 1, 4, 2, 3, 2] 115 = 3 ∧ mm_sw 112 [4, 1, 4, 2, 3, 2] 116 = 2 := by decide
theorem c10_df {v : Int32} (h1 : ¬ v = 112) (h2 : ¬ v = 114) (h3 : ¬ v = 115) (h4 : ¬ v = 116) : mm_sw 112 [4, 1, 4, 2, 3, 2] v = 4 := by
  by_cases h5 : v = 113
  · subst h5; exact c10_sw.2.1
  refine mm_sw_def fun j hj => ?_
  have hj : j < 5 := by simp at hj; omega
  match j, hj with
  | 0, _ => exact mm_ni h1
  | 1, _ => exact mm_ni h5
  | 2, _ => exact mm_ni h2
  | 3, _ => exact mm_ni h3
  | 4, _ => exact mm_ni h4
def pc_len (c : Int32) : Int32 := if c = 112 then 6 else if c = 114 then 3 else if c = 116 then 3 else if c = 115 then 2 else 1
theorem c10 (hch : ∀ j, j < 120 → ((I 2 j).toUInt32 % 65536).toInt32 = I 2 j) {k : Int32} : mm_C (mm_entry 10 [.ref 1, .int k] (hp sc I o t)) Q ↔ Q (.inl (some (.int (pc_len (pc_at I k))))) (hp sc I o t) := by
  by_cases h1 : pc_at I k = 112
  · simp +decide only [mM_10, cR, cH, mm_fixA, c8 hch, h1, c10_sw, pc_len, ↓reduceIte]
  by_cases h2 : pc_at I k = 114
  · simp +decide only [mM_10, cR, cH, mm_fixA, c8 hch, h2, c10_sw, pc_len, ↓reduceIte]
  by_cases h3 : pc_at I k = 115
  · simp +decide only [mM_10, cR, cH, mm_fixA, c8 hch, h3, c10_sw, pc_len, ↓reduceIte]
  by_cases h4 : pc_at I k = 116
  · simp +decide only [mM_10, cR, cH, mm_fixA, c8 hch, h4, c10_sw, pc_len, ↓reduceIte]
  · simp +decide only [mM_10, cR, cH, mm_fixA, c8 hch, c10_df h1 h2 h3 h4, h1, h2, h3, h4, pc_len, ↓reduceIte]
theorem c56 (h0 : ¬ I 1 1 < 0) {c : Int32} (hc : ¬ c < 0 ∧ ¬ 255 < c → (c.toUInt32 % 65536).toInt32 = c) : mm_C (mm_entry 56 [.ref 0, .int c] (hp sc I o t)) Q ↔ if ¬ c < 0 ∧ ¬ 255 < c then (if I 1 1 < 120 then Q (.inl (some (.int (pc_add I c 1 1)))) (hp sc (pc_add I c) o t) else Q (.inr 2) (hp sc I o (t + 1))) else Q (.inr 1) (hp sc I o (t + 1)) := by
  by_cases h : ¬ c < 0 ∧ ¬ 255 < c
  · rw [if_pos h]
    have hc2 := hc h
    by_cases h2 : I 1 1 < 120
    · rw [if_pos h2]
      simp +decide only [mM_56, cR, cH, mm_fixA, mm_fixB, c104, if_pos h, c5, hc2, c6 h0 hc2, h2, ↓reduceIte]
    · rw [if_neg h2]
      simp +decide only [mM_56, cR, cH, mm_fixA, mm_fixB, c104, if_pos h, c5, h2, ↓reduceIte]
  · rw [if_neg h]
    simp +decide only [mM_56, cR, cH, mm_fixA, mm_fixB, c104, if_neg h, ↓reduceIte]
end VW
