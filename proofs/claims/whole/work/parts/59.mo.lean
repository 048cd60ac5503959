/-! the reference: its refusals, its questions -/
section WJ
variable {sc : Nat × (Nat → Int32)} {I : Nat → Nat → Int32} {o : Int64} {t : Nat} {Q : mm_Q}
theorem cLt (x : Int32) {n : Nat} (hn : n < 2 ^ 31) : (x.toInt64 < Int64.ofNat n) = (x < nI n) := by
  have h : (Int64.ofNat n).toInt = (n : Int) := lN_toInt (n := n) hn
  rw [Int64.lt_iff_toInt_lt, Int32.toInt_toInt64, h, Int32.lt_iff_toInt_lt, nI_toInt hn]
theorem cLg (x : Int32) {n : Nat} (hn : n < 2 ^ 31) : (Int64.ofNat n < x.toInt64) = (nI n < x) := by
  have h : (Int64.ofNat n).toInt = (n : Int) := lN_toInt (n := n) hn
  rw [Int64.lt_iff_toInt_lt, Int32.toInt_toInt64, h, Int32.lt_iff_toInt_lt, nI_toInt hn]
theorem cL : (∀ x : Int32, (x.toInt64 < Int64.ofNat 0) = (x < 0)) ∧ (∀ x : Int32, (x.toInt64 < Int64.ofNat 1) = (x < 1)) ∧ (∀ x : Int32, (Int64.ofNat 5 < x.toInt64) = (5 < x)) ∧ (∀ x : Int32, (Int64.ofNat 59 < x.toInt64) = (59 < x)) ∧ (∀ x : Int32, (Int64.ofNat 100 < x.toInt64) = (100 < x)) ∧ (∀ x : Int32, (Int64.ofNat 1000 < x.toInt64) = (1000 < x)) ∧ (∀ x : Int32, (Int64.ofNat 3 < x.toInt64) = (3 < x)) ∧ (∀ x : Int32, (Int64.ofNat 99 < x.toInt64) = (99 < x)) ∧ (∀ x : Int32, (Int64.ofNat 200 < x.toInt64) = (200 < x)) ∧ (∀ x : Int32, (Int64.ofNat 60 < x.toInt64) = (60 < x)) ∧ (∀ x : Int32, (Int64.ofNat 1 < x.toInt64) = (1 < x)) ∧ (∀ x : Int32, (Int64.ofNat 255 < x.toInt64) = (255 < x)) :=
  ⟨fun x => cLt x (n := 0) (by decide), fun x => cLt x (n := 1) (by decide), fun x => cLg x (n := 5) (by decide), fun x => cLg x (n := 59) (by decide), fun x => cLg x (n := 100) (by decide), fun x => cLg x (n := 1000) (by decide), fun x => cLg x (n := 3) (by decide), fun x => cLg x (n := 99) (by decide), fun x => cLg x (n := 200) (by decide), fun x => cLg x (n := 60) (by decide), fun x => cLg x (n := 1) (by decide), fun x => cLg x (n := 255) (by decide)⟩
theorem cLe (x : Int32) : (5 < x) = ¬ x < 6 ∧ (59 < x) = ¬ x < 60 ∧ (1 < x) = ¬ x < 2 := by
  have e1 : (5 : Int32).toInt = 5 := by decide
  have e2 : (6 : Int32).toInt = 6 := by decide
  have e3 : (59 : Int32).toInt = 59 := by decide
  have e4 : (60 : Int32).toInt = 60 := by decide
  have e5 : (1 : Int32).toInt = 1 := by decide
  have e6 : (2 : Int32).toInt = 2 := by decide
  simp only [Int32.lt_iff_toInt_lt, e1, e2, e3, e4, e5, e6]
  exact ⟨propext (by omega), propext (by omega), propext (by omega)⟩
theorem c112 {v : Int32} : mm_C (mm_entry 112 [.int v] (hp sc I o t)) Q ↔ Q (.inl (some (.int (if ¬ v < 0 ∧ v < 6 then 1 else 0)))) (hp sc I o t) := by
  by_cases h1 : v < 0 <;> by_cases h2 : v < 6 <;> simp +decide only [mM_112.1, mM_112.2, cR, cH, c109, cL, (cLe v).1, h1, h2, and_true, true_and, and_false, false_and, or_true, true_or, or_false, false_or, not_true_eq_false, not_false_eq_true, decide_eq_true_eq, decide_true, decide_false, Bool.not_true, Bool.not_false, Bool.and_true, Bool.true_and, Bool.and_false, Bool.false_and, Bool.false_eq_true, eq_self, ↓reduceIte]
theorem c113 {v : Int32} : mm_C (mm_entry 113 [.int v] (hp sc I o t)) Q ↔ Q (.inl (some (.int (if ¬ v < 0 ∧ v < 60 then 1 else 0)))) (hp sc I o t) := by
  by_cases h1 : v < 0 <;> by_cases h2 : v < 60 <;> simp +decide only [mM_113.1, mM_113.2, cR, cH, c109, cL, (cLe v).2.1, h1, h2, and_true, true_and, and_false, false_and, or_true, true_or, or_false, false_or, not_true_eq_false, not_false_eq_true, decide_eq_true_eq, decide_true, decide_false, Bool.not_true, Bool.not_false, Bool.and_true, Bool.true_and, Bool.and_false, Bool.false_and, Bool.false_eq_true, eq_self, ↓reduceIte]
def rf (I : Nat → Nat → Int32) (w : Int32) : Nat → Nat → Int32 := mm_up I 206 (mm_up (I 206) 0 w)
theorem rf_n (I : Nat → Nat → Int32) (w : Int32) {j : Nat} (h : ¬ j = 206) : rf I w j = I j := mm_up_n _ _ h
theorem rf_6 (I : Nat → Nat → Int32) (w : Int32) : rf I w 206 = mm_up (I 206) 0 w := mm_up_s _ _ _
theorem c108' {w : Int32} : mm_C (mm_entry 108 [.ref 206, .int w] (hp sc I o t)) Q ↔ Q (.inl (some (.int (if w = 0 then 0 else 1)))) (hp sc (rf I w) o t) := c108
theorem rf_def (I : Nat → Nat → Int32) (w : Int32) : mm_up I 206 (mm_up (I 206) 0 w) = rf I w := rfl
theorem c145 {v : Int32} : mm_C (mm_entry 145 [.ref 206, .int v] (hp sc I o t)) Q ↔ if ¬ v < 0 ∧ v < 6 then Q (.inl (some (.int 0))) (hp sc (rf I 0) o t) else Q (.inl (some (.int 1))) (hp sc (rf I 1) o t) := by
  by_cases h1 : ¬ v < 0 ∧ v < 6
  · rw [if_pos h1]
    simp +decide only [mM_145.1, mM_145.2.1, mM_145.2.2.1, mM_145.2.2.2, cR, cH, mm_fixM, c112, if_pos h1, c108', ↓reduceIte]
  · rw [if_neg h1]
    simp +decide only [mM_145.1, mM_145.2.1, mM_145.2.2.1, mM_145.2.2.2, cR, cH, mm_fixM, c112, if_neg h1, c108', ↓reduceIte]
theorem c154 {v : Int32} : mm_C (mm_entry 154 [.ref 206, .int v] (hp sc I o t)) Q ↔ if ¬ v < 0 ∧ v < 60 then Q (.inl (some (.int 0))) (hp sc (rf I 0) o t) else Q (.inl (some (.int 1))) (hp sc (rf I 1) o t) := by
  by_cases h1 : ¬ v < 0 ∧ v < 60
  · rw [if_pos h1]
    simp +decide only [mM_154.1, mM_154.2.1, mM_154.2.2.1, mM_154.2.2.2, cR, cH, mm_fixM, c113, if_pos h1, c108', ↓reduceIte]
  · rw [if_neg h1]
    simp +decide only [mM_154.1, mM_154.2.1, mM_154.2.2.1, mM_154.2.2.2, cR, cH, mm_fixM, c113, if_neg h1, c108', ↓reduceIte]
theorem c146 {v : Int32} : mm_C (mm_entry 146 [.ref 206, .int v] (hp sc I o t)) Q ↔ if ¬ v < 0 ∧ v < 6 then Q (.inl (some (.int (I 207 (5 * v.toNatClampNeg))))) (hp sc (rf I 0) o t) else Q (.inl (some (.int 0))) (hp sc (rf I 1) o t) := by
  by_cases h1 : ¬ v < 0 ∧ v < 6
  · rw [if_pos h1]
    obtain ⟨j, hj, rfl⟩ := cJ (n := 6) (by omega) h1.1 h1.2
    simp +decide only [mM_146.1, mM_146.2.1, mM_146.2.2.1, mM_146.2.2.2, cR, cH, mm_fixM, mm_fixN, c145, if_pos h1, rf_n, w207.1, w207.2, cX hj, cV hj, ↓reduceIte]
  · rw [if_neg h1]
    simp +decide only [mM_146.1, mM_146.2.1, mM_146.2.2.1, mM_146.2.2.2, cR, cH, mm_fixM, mm_fixN, c145, if_neg h1, ↓reduceIte]
theorem c147 {v : Int32} : mm_C (mm_entry 147 [.ref 206, .int v] (hp sc I o t)) Q ↔ if ¬ v < 0 ∧ v < 6 then Q (.inl (some (.int (I 207 (5 * v.toNatClampNeg + 1))))) (hp sc (rf I 0) o t) else Q (.inl (some (.int 0))) (hp sc (rf I 1) o t) := by
  by_cases h1 : ¬ v < 0 ∧ v < 6
  · rw [if_pos h1]
    obtain ⟨j, hj, rfl⟩ := cJ (n := 6) (by omega) h1.1 h1.2
    simp +decide only [mM_147.1, mM_147.2.1, mM_147.2.2.1, mM_147.2.2.2, cR, cH, mm_fixM, mm_fixN, c145, if_pos h1, rf_n, w207.1, w207.2, cX hj, cV hj, ↓reduceIte]
  · rw [if_neg h1]
    simp +decide only [mM_147.1, mM_147.2.1, mM_147.2.2.1, mM_147.2.2.2, cR, cH, mm_fixM, mm_fixN, c145, if_neg h1, ↓reduceIte]
theorem c148 {v : Int32} : mm_C (mm_entry 148 [.ref 206, .int v] (hp sc I o t)) Q ↔ if ¬ v < 0 ∧ v < 6 then Q (.inl (some (.int (I 207 (5 * v.toNatClampNeg + 3))))) (hp sc (rf I 0) o t) else Q (.inl (some (.int 0))) (hp sc (rf I 1) o t) := by
  by_cases h1 : ¬ v < 0 ∧ v < 6
  · rw [if_pos h1]
    obtain ⟨j, hj, rfl⟩ := cJ (n := 6) (by omega) h1.1 h1.2
    simp +decide only [mM_148.1, mM_148.2.1, mM_148.2.2.1, mM_148.2.2.2, cR, cH, mm_fixM, mm_fixN, c145, if_pos h1, rf_n, w207.1, w207.2, cX hj, cV hj, ↓reduceIte]
  · rw [if_neg h1]
    simp +decide only [mM_148.1, mM_148.2.1, mM_148.2.2.1, mM_148.2.2.2, cR, cH, mm_fixM, mm_fixN, c145, if_neg h1, ↓reduceIte]
theorem c149 (hk : mo_kok (I 207)) {v : Int32} : mm_C (mm_entry 149 [.ref 206, .int v] (hp sc I o t)) Q ↔ if ¬ v < 0 ∧ v < 6 then Q (.inl (some (.int (if mo_held (I 207) v.toNatClampNeg = true then 1 else 0)))) (hp sc (rf I 0) o t) else Q (.inl (some (.int 0))) (hp sc (rf I 1) o t) := by
  by_cases h1 : ¬ v < 0 ∧ v < 6
  · rw [if_pos h1]
    obtain ⟨j, hj, rfl⟩ := cJ (n := 6) (by omega) h1.1 h1.2
    have hc := fun (Q : mm_Q) => c119 (sc := sc) (o := o) (t := t) (Q := Q) (I := rf I 0) w207 hj (by rw [rf_n _ _ (by decide)]; exact hk _ hj)
    rw [rf_n _ _ (by decide)] at hc
    by_cases h2 : mo_held (I 207) j = true <;> simp +decide only [mM_149.1, mM_149.2.1, mM_149.2.2.1, mM_149.2.2.2, cR, cH, mm_fixM, mm_fixN, c145, if_pos h1, rf_n, w207.1, w207.2, cV hj, hc, h2, ↓reduceIte]
  · rw [if_neg h1]
    simp +decide only [mM_149.1, mM_149.2.1, mM_149.2.2.1, mM_149.2.2.2, cR, cH, mm_fixM, mm_fixN, c145, if_neg h1, ↓reduceIte]
theorem c155 {k : Int32} : mm_C (mm_entry 155 [.ref 206, .int k] (hp sc I o t)) Q ↔ if ¬ k < 0 ∧ k < 60 then Q (.inl (some (.int (if 0 < I 207 (30 + 2 * k.toNatClampNeg) then 1 else 0)))) (hp sc (rf I 0) o t) else Q (.inl (some (.int 0))) (hp sc (rf I 1) o t) := by
  by_cases h1 : ¬ k < 0 ∧ k < 60
  · rw [if_pos h1]
    obtain ⟨j, hj, rfl⟩ := cJ (n := 60) (by omega) h1.1 h1.2
    by_cases h2 : 0 < I 207 (30 + 2 * j) <;> simp +decide only [mM_155.1, mM_155.2.1, mM_155.2.2.1, mM_155.2.2.2, cR, cH, mm_fixM, mm_fixN, c154, if_pos h1, rf_n, w207.1, w207.2, cK hj, c114 w207 hj, h2, ↓reduceIte]
  · rw [if_neg h1]
    simp +decide only [mM_155.1, mM_155.2.1, mM_155.2.2.1, mM_155.2.2.2, cR, cH, mm_fixM, mm_fixN, c154, if_neg h1, ↓reduceIte]
theorem c156 {k : Int32} : mm_C (mm_entry 156 [.ref 206, .int k] (hp sc I o t)) Q ↔ if ¬ k < 0 ∧ k < 60 then Q (.inl (some (.int (mo_voice (I 207) k)))) (hp sc (rf I 0) o t) else Q (.inl (some (.int 0))) (hp sc (rf I 1) o t) := by
  by_cases h1 : ¬ k < 0 ∧ k < 60
  · rw [if_pos h1]
    simp +decide only [mM_156.1, mM_156.2.1, mM_156.2.2.1, mM_156.2.2.2, cR, cH, mm_fixM, mm_fixN, c154, if_pos h1, rf_n, w207.1, w207.2, c115 w207, ↓reduceIte]
  · rw [if_neg h1]
    simp +decide only [mM_156.1, mM_156.2.1, mM_156.2.2.1, mM_156.2.2.2, cR, cH, mm_fixM, mm_fixN, c154, if_neg h1, ↓reduceIte]
theorem c150 : mm_C (mm_entry 150 [.ref 206] (hp sc I o t)) Q ↔ Q (.inl (some (.int (mo_use (I 207))))) (hp sc (rf I 0) o t) := by
  simp +decide only [mM_150.1, mM_150.2, cR, cH, mm_fixM, mm_fixN, rf_def, rf_n, w207.1, w207.2, c130 w207, ↓reduceIte]
theorem c151 : mm_C (mm_entry 151 [.ref 206] (hp sc I o t)) Q ↔ Q (.inl (some (.int (mo_old (I 207) 1 6 (-1))))) (hp sc (rf I 0) o t) := by
  simp +decide only [mM_151.1, mM_151.2, cR, cH, mm_fixM, mm_fixN, rf_def, rf_n, w207.1, w207.2, c117 w207, ↓reduceIte]
theorem c152 : mm_C (mm_entry 152 [.ref 206] (hp sc I o t)) Q ↔ Q (.inl (some (.int (mo_loud (I 207))))) (hp sc (rf I 0) o t) := by
  simp +decide only [mM_152.1, mM_152.2, cR, cH, mm_fixM, mm_fixN, rf_def, rf_n, w207.1, w207.2, c129 w207, ↓reduceIte]
theorem c153 : mm_C (mm_entry 153 [.ref 206] (hp sc I o t)) Q ↔ Q (.inl (some (.int (mo_loud (I 207))))) (hp sc (rf I 0) o t) := by
  simp +decide only [mM_153.1, mM_153.2, cR, cH, mm_fixM, mm_fixN, rf_def, rf_n, w207.1, w207.2, c129 w207, ↓reduceIte]
theorem c157_n (n : Nat) : ∀ (hn : n ≤ 60) {c : Int32}, mm_C (157, mm_blk 157 1, [some (.ref 206), some (.int c), some (.int (nI (60 - n)))], [], (hp sc I o t)) Q ↔ Q (.inl (some (.int (sy_keys (fun k c => c + (if 0 < I 207 (30 + 2 * k) then 1 else 0)) n c)))) (hp sc I o t) := by
  induction n with
  | zero =>
    intro hn c
    rw [mM_157.2.2.1]
    simp +decide only [mM_157.1, mM_157.2.1, mM_157.2.2.2.1, mM_157.2.2.2.2.1, mM_157.2.2.2.2.2, cR, cH, Nat.sub_zero, cK60, sy_keys, ↓reduceIte]
  | succ n ih =>
    intro hn c
    have hk : 59 - n < 60 := by omega
    have e1 : 60 - (n + 1) = 59 - n := by omega
    have e2 : 59 - n + 1 = 60 - n := by omega
    rw [mM_157.2.2.1, e1]
    by_cases h : 0 < I 207 (30 + 2 * (59 - n)) <;> simp +decide only [mM_157.1, mM_157.2.1, mM_157.2.2.2.1, mM_157.2.2.2.2.1, mM_157.2.2.2.2.2, cR, cH, mm_fixM, mm_fixN, cK hk, e2, c114 w207 hk, ih (by omega), sy_keys, h, and_true, true_and, and_false, false_and, or_true, true_or, or_false, false_or, not_true_eq_false, not_false_eq_true, decide_eq_true_eq, decide_true, decide_false, Bool.not_true, Bool.not_false, Bool.and_true, Bool.true_and, Bool.and_false, Bool.false_and, Bool.false_eq_true, eq_self, ↓reduceIte]
theorem c157 : mm_C (mm_entry 157 [.ref 206] (hp sc I o t)) Q ↔ Q (.inl (some (.int (sy_keys (fun k c => c + (if 0 < I 207 (30 + 2 * k) then 1 else 0)) 60 0)))) (hp sc (rf I 0) o t) := by
  have e1 := c157_n (sc := sc) (o := o) (t := t) (Q := Q) (I := rf I 0) 60 (by omega) (c := 0)
  have e2 : nI (60 - 60) = 0 := rfl
  rw [e2, rf_n _ _ (by decide)] at e1
  simp +decide only [mM_157.1, mM_157.2.1, mM_157.2.2.2.1, mM_157.2.2.2.2.1, mM_157.2.2.2.2.2, cR, cH, mm_fixM, mm_fixN, rf_def, e1]
theorem c158 : mm_C (mm_entry 158 [.ref 206] (hp sc I o t)) Q ↔ Q (.inl (some (.int (sy_keys (fun k c => c + (if 0 < I 207 (30 + 2 * k) ∧ mo_voice (I 207) (nI k) = -1 then 1 else 0)) 60 0)))) (hp sc (rf I 0) o t) := by
  simp +decide only [mM_158.1, mM_158.2, cR, cH, mm_fixM, mm_fixN, rf_def, rf_n, w207.1, w207.2, c124 w207, ↓reduceIte]
theorem c159 : mm_C (mm_entry 159 [.ref 206] (hp sc I o t)) Q ↔ Q (.inl (some (.int (mo_late (I 207) 60 (-1))))) (hp sc (rf I 0) o t) := by
  simp +decide only [mM_159.1, mM_159.2, cR, cH, mm_fixM, mm_fixN, rf_def, rf_n, w207.1, w207.2, c125 w207, ↓reduceIte]
theorem c160 : mm_C (mm_entry 160 [.ref 206] (hp sc I o t)) Q ↔ Q (.inl (some (.int (if I 207 150 = 1 then 1 else 0)))) (hp sc (rf I 0) o t) := by
  by_cases h : I 207 150 = 1 <;> simp +decide only [mM_160.1, mM_160.2.1, mM_160.2.2.1, mM_160.2.2.2, cR, cH, mm_fixM, mm_fixN, rf_def, rf_n, w207.1, w207.2, cQ, h, ↓reduceIte]
theorem c161 {w : Int32} (hw : mm_in w 163 = true) : mm_C (mm_entry 161 [.ref 206, .int w] (hp sc I o t)) Q ↔ Q (.inl (some (.int (I 207 w.toNatClampNeg)))) (hp sc (rf I 0) o t) := by
  simp +decide only [mM_161.1, mM_161.2, cR, cH, mm_fixM, mm_fixN, rf_def, rf_n, w207.1, w207.2, hw]
theorem c162 : mm_C (mm_entry 162 [.ref 206] (hp sc I o t)) Q ↔ Q (.inl (some (.int (I 207 158)))) (hp sc (rf I 0) o t) := by
  have hc := fun (Q : mm_Q) => c161 (sc := sc) (o := o) (t := t) (Q := Q) (I := I) (w := 158) (by decide)
  simp +decide only [mM_162.1, mM_162.2, cR, cH, mm_fixM, mm_fixN, hc, cQ, ↓reduceIte]
theorem c164 : mm_C (mm_entry 164 [.ref 206] (hp sc I o t)) Q ↔ Q (.inl (some (.int (I 207 160)))) (hp sc (rf I 0) o t) := by
  have hc := fun (Q : mm_Q) => c161 (sc := sc) (o := o) (t := t) (Q := Q) (I := I) (w := 160) (by decide)
  simp +decide only [mM_164.1, mM_164.2, cR, cH, mm_fixM, mm_fixN, hc, cQ, ↓reduceIte]
theorem c165 : mm_C (mm_entry 165 [.ref 206] (hp sc I o t)) Q ↔ Q (.inl (some (.int (I 207 161)))) (hp sc (rf I 0) o t) := by
  have hc := fun (Q : mm_Q) => c161 (sc := sc) (o := o) (t := t) (Q := Q) (I := I) (w := 161) (by decide)
  simp +decide only [mM_165.1, mM_165.2, cR, cH, mm_fixM, mm_fixN, hc, cQ, ↓reduceIte]
theorem c166 : mm_C (mm_entry 166 [.ref 206] (hp sc I o t)) Q ↔ Q (.inl (some (.int (I 207 162)))) (hp sc (rf I 0) o t) := by
  have hc := fun (Q : mm_Q) => c161 (sc := sc) (o := o) (t := t) (Q := Q) (I := I) (w := 162) (by decide)
  simp +decide only [mM_166.1, mM_166.2, cR, cH, mm_fixM, mm_fixN, hc, cQ, ↓reduceIte]
theorem c167 : mm_C (mm_entry 167 [.ref 206] (hp sc I o t)) Q ↔ Q (.inl (some (.int (I 207 152)))) (hp sc (rf I 0) o t) := by
  have hc := fun (Q : mm_Q) => c161 (sc := sc) (o := o) (t := t) (Q := Q) (I := I) (w := 152) (by decide)
  simp +decide only [mM_167.1, mM_167.2, cR, cH, mm_fixM, mm_fixN, hc, cQ, ↓reduceIte]
theorem c163 : mm_C (mm_entry 163 [.ref 206] (hp sc I o t)) Q ↔ Q (.inl (some (.int (I 207 159 + I 207 160 + mo_use (I 207))))) (hp sc (rf I 0) o t) := by
  simp +decide only [mM_163.1, mM_163.2, cR, cH, mm_fixM, mm_fixN, rf_def, rf_n, w207.1, w207.2, cQ, c130 w207, ↓reduceIte]
theorem c134 : mm_C (mm_entry 134 [.ref 206] (hp sc I o t)) Q ↔ Q (.inl (some (.int (I 206 9)))) (hp sc (mm_up I 206 (mm_up (mm_up (I 206) 0 0) 9 0)) o t) := by
  simp +decide only [mM_134.1, mM_134.2, cR, cH, mm_fixM, mm_fixN, mm_up_s, mm_up_up, mm_up_n]
def tx_add (I : Nat → Nat → Int32) (l : Nat) (c : Int32) : Nat → Nat → Int32 := mm_up (mm_up (rf I 0) 213 (mm_up (I 213) l c)) 206 (mm_up (rf I 0 206) 9 (nI (l + 1)))
theorem cT {l : Nat} (h : l < 120) : mm_in (nI l) 120 = true ∧ (nI l).toNatClampNeg = l ∧ (nI l = 120) = False ∧ nI l + 1 = nI (l + 1) := by
  have h2 : ∀ l, l < 120 → ¬ nI l = 120 := by decide
  exact ⟨nJ_in h (by decide), nI_clamp (by omega), eq_false (h2 l h), nI_1 l⟩
theorem c133 {l : Nat} (hl : l ≤ 120) (h9 : I 206 9 = nI l) {c : Int32} : mm_C (mm_entry 133 [.ref 206, .int c] (hp sc I o t)) Q ↔ if ¬ c < 0 ∧ ¬ 255 < c then (if l < 120 then Q (.inl (some (.int (nI (l + 1))))) (hp sc (tx_add I l c) o t) else Q (.inl (some (.int 0))) (hp sc (rf I 2) o t)) else Q (.inl (some (.int 0))) (hp sc (rf I 1) o t) := by
  by_cases h1 : ¬ c < 0 ∧ ¬ 255 < c
  · rw [if_pos h1]
    by_cases h2 : l < 120
    · rw [if_pos h2]
      simp +decide only [mM_133.1, mM_133.2.1, mM_133.2.2.1, mM_133.2.2.2.1, mM_133.2.2.2.2.1, mM_133.2.2.2.2.2, cR, cH, mm_fixM, mm_fixN, c109, cL, if_pos h1, h9, cT h2, c108', rf_n, rf_6, mm_up_s, mm_up_n, mm_up_up, tx_add, ↓reduceIte]
    · rw [if_neg h2]
      have e : l = 120 := by omega
      subst e
      have e2 : nI 120 = 120 := rfl
      simp +decide only [mM_133.1, mM_133.2.1, mM_133.2.2.1, mM_133.2.2.2.1, mM_133.2.2.2.2.1, mM_133.2.2.2.2.2, cR, cH, mm_fixM, mm_fixN, c109, cL, if_pos h1, h9, e2, c108', ↓reduceIte]
  · rw [if_neg h1]
    simp +decide only [mM_133.1, mM_133.2.1, mM_133.2.2.1, mM_133.2.2.2.1, mM_133.2.2.2.2.1, mM_133.2.2.2.2.2, cR, cH, mm_fixM, mm_fixN, c109, cL, if_neg h1, c108', ↓reduceIte]
end WJ
