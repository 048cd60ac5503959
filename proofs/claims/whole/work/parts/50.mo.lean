/-! the reference: questions of a row -/
section WA
variable {sc : Nat × (Nat → Int32)} {I : Nat → Nat → Int32} {o : Int64} {t : Nat} {Q : mm_Q}
theorem mm_fixM : mm_is 206 6 ∧ mm_is 211 10 ∧ mm_is 210 10 ∧ mm_is 212 11 ∧ mm_is 213 10 ∧ mm_is 207 10 ∧ mm_is 208 10 ∧ mm_is 209 10 := by
  simp only [mm_is]; decide +kernel
theorem mm_fixN : (mm_nn 206 1 ∧ mm_nn 206 2 ∧ mm_nn 206 3 ∧ mm_nn 206 4 ∧ mm_nn 206 6 ∧ mm_nn 206 7 ∧ mm_nn 206 8) ∧ (mm_rg 206 1 = 207 ∧ mm_rg 206 2 = 208 ∧ mm_rg 206 3 = 209 ∧ mm_rg 206 4 = 210 ∧ mm_rg 206 6 = 211 ∧ mm_rg 206 7 = 212 ∧ mm_rg 206 8 = 213) ∧ (mm_len 207 = 163 ∧ mm_len 208 = 163 ∧ mm_len 209 = 163 ∧ mm_len 210 = 2282 ∧ mm_len 211 = 326 ∧ mm_len 212 = 2 ∧ mm_len 213 = 120) := by
  simp only [mm_nn, mm_rg, mm_len]; decide +kernel
def mm_isW (b : Nat) : Prop := mm_is b 10 ∧ mm_len b = 163
theorem w207 : mm_isW 207 := ⟨mm_fixM.2.2.2.2.2.1, mm_fixN.2.2.1⟩
theorem w208 : mm_isW 208 := ⟨mm_fixM.2.2.2.2.2.2.1, mm_fixN.2.2.2.1⟩
theorem w209 : mm_isW 209 := ⟨mm_fixM.2.2.2.2.2.2.2, mm_fixN.2.2.2.2.1⟩
theorem cX {v : Nat} (h : v < 6) : (mm_in (5 * nI v) 163 = true ∧ mm_in (5 * nI v + 1) 163 = true ∧ mm_in (5 * nI v + 2) 163 = true ∧ mm_in (5 * nI v + 3) 163 = true ∧ mm_in (5 * nI v + 4) 163 = true) ∧ ((5 * nI v).toNatClampNeg = 5 * v ∧ (5 * nI v + 1).toNatClampNeg = 5 * v + 1 ∧ (5 * nI v + 2).toNatClampNeg = 5 * v + 2 ∧ (5 * nI v + 3).toNatClampNeg = 5 * v + 3 ∧ (5 * nI v + 4).toNatClampNeg = 5 * v + 4) := by
  have h2 : ∀ v, v < 6 → (mm_in (5 * nI v) 163 = true ∧ mm_in (5 * nI v + 1) 163 = true ∧ mm_in (5 * nI v + 2) 163 = true ∧ mm_in (5 * nI v + 3) 163 = true ∧ mm_in (5 * nI v + 4) 163 = true) ∧ ((5 * nI v).toNatClampNeg = 5 * v ∧ (5 * nI v + 1).toNatClampNeg = 5 * v + 1 ∧ (5 * nI v + 2).toNatClampNeg = 5 * v + 2 ∧ (5 * nI v + 3).toNatClampNeg = 5 * v + 3 ∧ (5 * nI v + 4).toNatClampNeg = 5 * v + 4) := by decide +kernel
  exact h2 v h
theorem cD {k : Nat} (h : k < 60) : (mm_in (30 + 2 * nI k) 163 = true ∧ mm_in (30 + 2 * nI k + 1) 163 = true) ∧ ((30 + 2 * nI k).toNatClampNeg = 30 + 2 * k ∧ (30 + 2 * nI k + 1).toNatClampNeg = 30 + 2 * k + 1) := by
  have h2 : ∀ k, k < 60 → (mm_in (30 + 2 * nI k) 163 = true ∧ mm_in (30 + 2 * nI k + 1) 163 = true) ∧ ((30 + 2 * nI k).toNatClampNeg = 30 + 2 * k ∧ (30 + 2 * nI k + 1).toNatClampNeg = 30 + 2 * k + 1) := by decide +kernel
  exact h2 k h
theorem c107 : mm_C (mm_entry 107 [.ref 206] (hp sc I o t)) Q ↔ Q (.inl (some (.int (I 206 0)))) (hp sc I o t) := by
  simp +decide only [mM_107, cR, cH, mm_fixM]
theorem c108 {w : Int32} : mm_C (mm_entry 108 [.ref 206, .int w] (hp sc I o t)) Q ↔ Q (.inl (some (.int (if w = 0 then 0 else 1)))) (hp sc (mm_up I 206 (mm_up (I 206) 0 w)) o t) := by
  by_cases h : w = 0 <;> simp +decide only [mM_108, cR, cH, mm_fixM, h, ↓reduceIte]
theorem c109 {a l m : Int64} : mm_C (mm_entry 109 [.long a, .long l, .long m] (hp sc I o t)) Q ↔ Q (.inl (some (.int (if ¬ a < l ∧ ¬ m < a then 1 else 0)))) (hp sc I o t) := by
  have e1 : ∀ x y : Int64, ((if y < x then (1 : Int32) else if x = y then 0 else -1) < 0) = (x < y) := fun x y => by
    by_cases h1 : y < x
    · rw [if_pos h1]
      have h2 : ¬ x < y := fun h => by
        have := Int64.lt_iff_toInt_lt.mp h
        have := Int64.lt_iff_toInt_lt.mp h1
        omega
      exact propext ⟨fun h => absurd h (by decide), fun h => absurd h h2⟩
    · rw [if_neg h1]
      by_cases h3 : x = y
      · rw [if_pos h3]
        have h2 : ¬ x < y := fun h => by
          have := Int64.lt_iff_toInt_lt.mp h
          rw [h3] at this
          omega
        exact propext ⟨fun h => absurd h (by decide), fun h => absurd h h2⟩
      · rw [if_neg h3]
        have h4 : x < y := Int64.lt_iff_toInt_lt.mpr (by
          have h5 : ¬ y.toInt < x.toInt := fun h => h1 (Int64.lt_iff_toInt_lt.mpr h)
          have h6 : ¬ x.toInt = y.toInt := fun h => h3 (Int64.toInt_inj.mp h)
          omega)
        exact propext ⟨fun _ => h4, fun _ => by decide⟩
  have e2 : ∀ x y : Int64, (0 < (if y < x then (1 : Int32) else if x = y then 0 else -1)) = (y < x) := fun x y => by
    by_cases h1 : y < x
    · rw [if_pos h1]
      exact propext ⟨fun _ => h1, fun _ => by decide⟩
    · rw [if_neg h1]
      by_cases h3 : x = y
      · rw [if_pos h3]
        exact propext ⟨fun h => absurd h (by decide), fun h => absurd h h1⟩
      · rw [if_neg h3]
        exact propext ⟨fun h => absurd h (by decide), fun h => absurd h h1⟩
  have e3 : ¬ ((0 : Int32) < if a = m then 0 else -1) := by split <;> decide
  by_cases h1 : a < l
  · simp +decide only [mM_109, cR, cH, e1, e2, h1, and_true, true_and, and_false, false_and, or_true, true_or, or_false, false_or, not_true_eq_false, not_false_eq_true, decide_eq_true_eq, decide_true, decide_false, Bool.not_true, Bool.not_false, Bool.and_true, Bool.true_and, Bool.and_false, Bool.false_and, Bool.false_eq_true, eq_self, ↓reduceIte]
  · by_cases h2 : m < a <;> simp +decide only [mM_109, cR, cH, e1, e2, e3, h1, h2, and_true, true_and, and_false, false_and, or_true, true_or, or_false, false_or, not_true_eq_false, not_false_eq_true, decide_eq_true_eq, decide_true, decide_false, Bool.not_true, Bool.not_false, Bool.and_true, Bool.true_and, Bool.and_false, Bool.false_and, Bool.false_eq_true, eq_self, ↓reduceIte]
theorem c114 {b k : Nat} (hb : mm_isW b) (hk : k < 60) : mm_C (mm_entry 114 [.ref b, .int (nI k)] (hp sc I o t)) Q ↔ Q (.inl (some (.int (if 0 < I b (30 + 2 * k) then 1 else 0)))) (hp sc I o t) := by
  by_cases h : 0 < I b (30 + 2 * k) <;> simp +decide only [mM_114, cR, cH, hb.1, hb.2, cD hk, h, ↓reduceIte]
def mo_voice (r : Nat → Int32) (k : Int32) : Int32 := sy_find (fun v => decide (0 < r (5 * v) ∧ r (5 * v + 1) = k)) 6
theorem c115_n {b : Nat} (hb : mm_isW b) {k : Int32} (n : Nat) : ∀ (hn : n ≤ 6), mm_C (115, mm_blk 115 1, [some (.ref b), some (.int k), some (.int (nI (6 - n)))], [], (hp sc I o t)) Q ↔ Q (.inl (some (.int (sy_find (fun v => decide (0 < I b (5 * v) ∧ I b (5 * v + 1) = k)) n)))) (hp sc I o t) := by
  induction n with
  | zero =>
    intro hn
    rw [mM_115.2.2.1]
    simp +decide only [mM_115.1, mM_115.2.1, mM_115.2.2.2.1, mM_115.2.2.2.2, cR, cH, Nat.sub_zero, cV66, sy_find, ↓reduceIte]
  | succ n ih =>
    intro hn
    have hk : 5 - n < 6 := by omega
    have e1 : 6 - (n + 1) = 5 - n := by omega
    have e2 : 5 - n + 1 = 6 - n := by omega
    rw [mM_115.2.2.1, e1]
    by_cases h : 0 < I b (5 * (5 - n)) <;> by_cases h2 : I b (5 * (5 - n) + 1) = k <;> simp +decide only [mM_115.1, mM_115.2.1, mM_115.2.2.2.1, mM_115.2.2.2.2, cR, cH, hb.1, hb.2, cX hk, cV6 hk, e2, ih (by omega), sy_find, h, h2, and_true, true_and, and_false, false_and, or_true, true_or, or_false, false_or, not_true_eq_false, not_false_eq_true, decide_eq_true_eq, decide_true, decide_false, Bool.not_true, Bool.not_false, Bool.and_true, Bool.true_and, Bool.and_false, Bool.false_and, Bool.false_eq_true, eq_self, ↓reduceIte]
theorem c115 {b : Nat} (hb : mm_isW b) {k : Int32} : mm_C (mm_entry 115 [.ref b, .int k] (hp sc I o t)) Q ↔ Q (.inl (some (.int (mo_voice (I b) k)))) (hp sc I o t) := by
  have e1 := c115_n (sc := sc) (o := o) (t := t) (Q := Q) (I := I) hb (k := k) 6 (by omega)
  have e2 : nI (6 - 6) = 0 := rfl
  rw [e2] at e1
  simp +decide only [mM_115.1, mM_115.2.1, mM_115.2.2.2.1, mM_115.2.2.2.2, cR, cH, e1, mo_voice]
def mo_free (r : Nat → Int32) : Int32 := sy_find (fun v => decide (r (5 * v) = 0)) 6
theorem c116_n {b : Nat} (hb : mm_isW b) (n : Nat) : ∀ (hn : n ≤ 6), mm_C (116, mm_blk 116 1, [some (.ref b), some (.int (nI (6 - n)))], [], (hp sc I o t)) Q ↔ Q (.inl (some (.int (sy_find (fun v => decide (I b (5 * v) = 0)) n)))) (hp sc I o t) := by
  induction n with
  | zero =>
    intro hn
    rw [mM_116.2.2.1]
    simp +decide only [mM_116.1, mM_116.2.1, mM_116.2.2.2.1, mM_116.2.2.2.2, cR, cH, Nat.sub_zero, cV66, sy_find, ↓reduceIte]
  | succ n ih =>
    intro hn
    have hk : 5 - n < 6 := by omega
    have e1 : 6 - (n + 1) = 5 - n := by omega
    have e2 : 5 - n + 1 = 6 - n := by omega
    rw [mM_116.2.2.1, e1]
    by_cases h : I b (5 * (5 - n)) = 0 <;> simp +decide only [mM_116.1, mM_116.2.1, mM_116.2.2.2.1, mM_116.2.2.2.2, cR, cH, hb.1, hb.2, cX hk, cV6 hk, e2, ih (by omega), sy_find, h, and_true, true_and, and_false, false_and, or_true, true_or, or_false, false_or, not_true_eq_false, not_false_eq_true, decide_eq_true_eq, decide_true, decide_false, Bool.not_true, Bool.not_false, Bool.and_true, Bool.true_and, Bool.and_false, Bool.false_and, Bool.false_eq_true, eq_self, ↓reduceIte]
theorem c116 {b : Nat} (hb : mm_isW b) : mm_C (mm_entry 116 [.ref b] (hp sc I o t)) Q ↔ Q (.inl (some (.int (mo_free (I b))))) (hp sc I o t) := by
  have e1 := c116_n (sc := sc) (o := o) (t := t) (Q := Q) (I := I) hb 6 (by omega)
  have e2 : nI (6 - 6) = 0 := rfl
  rw [e2] at e1
  simp +decide only [mM_116.1, mM_116.2.1, mM_116.2.2.2.1, mM_116.2.2.2.2, cR, cH, e1, mo_free]
def mo_loud (r : Nat → Int32) : Int32 := sy_fold (fun v c => c + r (5 * v + 3)) 6 0
theorem c129_n {b : Nat} (hb : mm_isW b) (n : Nat) : ∀ (hn : n ≤ 6) {c : Int32}, mm_C (129, mm_blk 129 1, [some (.ref b), some (.int c), some (.int (nI (6 - n)))], [], (hp sc I o t)) Q ↔ Q (.inl (some (.int (sy_fold (fun v c => c + I b (5 * v + 3)) n c)))) (hp sc I o t) := by
  induction n with
  | zero =>
    intro hn c
    rw [mM_129.2.2.1]
    simp +decide only [mM_129.1, mM_129.2.1, mM_129.2.2.2, cR, cH, Nat.sub_zero, cV66, sy_fold, ↓reduceIte]
  | succ n ih =>
    intro hn c
    have hk : 5 - n < 6 := by omega
    have e1 : 6 - (n + 1) = 5 - n := by omega
    have e2 : 5 - n + 1 = 6 - n := by omega
    rw [mM_129.2.2.1, e1]
    simp +decide only [mM_129.1, mM_129.2.1, mM_129.2.2.2, cR, cH, hb.1, hb.2, cX hk, cV6 hk, e2, ih (by omega), sy_fold, and_true, true_and, and_false, false_and, or_true, true_or, or_false, false_or, not_true_eq_false, not_false_eq_true, decide_eq_true_eq, decide_true, decide_false, Bool.not_true, Bool.not_false, Bool.and_true, Bool.true_and, Bool.and_false, Bool.false_and, Bool.false_eq_true, eq_self, ↓reduceIte]
theorem c129 {b : Nat} (hb : mm_isW b) : mm_C (mm_entry 129 [.ref b] (hp sc I o t)) Q ↔ Q (.inl (some (.int (mo_loud (I b))))) (hp sc I o t) := by
  have e1 := c129_n (sc := sc) (o := o) (t := t) (Q := Q) (I := I) hb 6 (by omega) (c := 0)
  have e2 : nI (6 - 6) = 0 := rfl
  rw [e2] at e1
  simp +decide only [mM_129.1, mM_129.2.1, mM_129.2.2.2, cR, cH, e1, mo_loud]
def mo_use (r : Nat → Int32) : Int32 := sy_fold (fun v c => c + (if 0 < r (5 * v) then 1 else 0)) 6 0
theorem c130_n {b : Nat} (hb : mm_isW b) (n : Nat) : ∀ (hn : n ≤ 6) {c : Int32}, mm_C (130, mm_blk 130 1, [some (.ref b), some (.int c), some (.int (nI (6 - n)))], [], (hp sc I o t)) Q ↔ Q (.inl (some (.int (sy_fold (fun v c => c + (if 0 < I b (5 * v) then 1 else 0)) n c)))) (hp sc I o t) := by
  induction n with
  | zero =>
    intro hn c
    rw [mM_130.2.2.1]
    simp +decide only [mM_130.1, mM_130.2.1, mM_130.2.2.2.1, mM_130.2.2.2.2.1, mM_130.2.2.2.2.2, cR, cH, Nat.sub_zero, cV66, sy_fold, ↓reduceIte]
  | succ n ih =>
    intro hn c
    have hk : 5 - n < 6 := by omega
    have e1 : 6 - (n + 1) = 5 - n := by omega
    have e2 : 5 - n + 1 = 6 - n := by omega
    rw [mM_130.2.2.1, e1]
    by_cases h : 0 < I b (5 * (5 - n)) <;> simp +decide only [mM_130.1, mM_130.2.1, mM_130.2.2.2.1, mM_130.2.2.2.2.1, mM_130.2.2.2.2.2, cR, cH, hb.1, hb.2, cX hk, cV6 hk, e2, ih (by omega), sy_fold, h, and_true, true_and, and_false, false_and, or_true, true_or, or_false, false_or, not_true_eq_false, not_false_eq_true, decide_eq_true_eq, decide_true, decide_false, Bool.not_true, Bool.not_false, Bool.and_true, Bool.true_and, Bool.and_false, Bool.false_and, Bool.false_eq_true, eq_self, ↓reduceIte]
theorem c130 {b : Nat} (hb : mm_isW b) : mm_C (mm_entry 130 [.ref b] (hp sc I o t)) Q ↔ Q (.inl (some (.int (mo_use (I b))))) (hp sc I o t) := by
  have e1 := c130_n (sc := sc) (o := o) (t := t) (Q := Q) (I := I) hb 6 (by omega) (c := 0)
  have e2 : nI (6 - 6) = 0 := rfl
  rw [e2] at e1
  simp +decide only [mM_130.1, mM_130.2.1, mM_130.2.2.2.1, mM_130.2.2.2.2.1, mM_130.2.2.2.2.2, cR, cH, e1, mo_use]
end WA
