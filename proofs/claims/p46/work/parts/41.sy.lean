/-! the synth: the rule, loops over the keys, changes -/
section VP
variable {sc : Nat × (Nat → Int32)} {I : Nat → Nat → Int32} {o : Int64} {t : Nat} {Q : mm_Q}
theorem c26_6 {a : Nat} (ha : mm_isS a) {k : Nat} (hk : k < 6) {x3 : Option Value} : mm_C (26, mm_blk 26 1, [some (.ref a), some (.int (nI k)), some (.int 6), x3], [], (hp sc I o t)) Q ↔ Q (.inl (some (.int (nI k)))) (hp sc I o t) := by
  rw [mM_26.2.2.1]
  simp +decide only [mM_26.1, mM_26.2.1, mM_26.2.2.2.1, mM_26.2.2.2.2.1, mM_26.2.2.2.2.2, cR, cH, cN, cA, ↓reduceIte]
theorem c26_5 {a : Nat} (ha : mm_isS a) {k : Nat} (hk : k < 6) {x3 : Option Value} : mm_C (26, mm_blk 26 1, [some (.ref a), some (.int (nI k)), some (.int 5), x3], [], (hp sc I o t)) Q ↔ Q (.inl (some (.int (nI (sy_quiet (fun v => I (a + (5 + v)) 3) (fun v => I (a + (5 + v)) 4) 1 k))))) (hp sc I o t) := by
  have e1 : ∀ {x3 : Option Value}, mm_C (26, mm_blk 26 1, [some (.ref a), some (.int 5), some (.int 6), x3], [], (hp sc I o t)) Q ↔ Q (.inl (some (.int (nI (sy_quiet (fun v => I (a + (5 + v)) 3) (fun v => I (a + (5 + v)) 4) 0 5))))) (hp sc I o t) := fun {x3} => c26_6 ha (k := 5) (by decide)
  rw [mM_26.2.2.1]
  show _ ↔ Q (.inl (some (.int (nI (if I (a + 10) 3 - I (a + (5 + k)) 3 < 0 ∨ I (a + 10) 3 - I (a + (5 + k)) 3 = 0 ∧ I (a + 10) 4 < I (a + (5 + k)) 4 then sy_quiet (fun v => I (a + (5 + v)) 3) (fun v => I (a + (5 + v)) 4) 0 5 else sy_quiet (fun v => I (a + (5 + v)) 3) (fun v => I (a + (5 + v)) 4) 0 k))))) (hp sc I o t)
  by_cases h0 : I (a + 10) 3 - I (a + (5 + k)) 3 < 0
  · simp +decide only [mM_26.1, mM_26.2.1, mM_26.2.2.2.1, mM_26.2.2.2.2.1, mM_26.2.2.2.2.2, cR, cH, mm_syn ha, mm_synV ha hk, cV hk, e1, c26_6 ha hk, cN, cA, sy_quiet_0, h0, and_true, true_and, and_false, false_and, or_true, true_or, or_false, false_or, not_true_eq_false, not_false_eq_true, decide_eq_true_eq, decide_true, decide_false, Bool.not_true, Bool.not_false, Bool.and_true, Bool.true_and, Bool.and_false, Bool.false_and, Bool.false_eq_true, eq_self, ↓reduceIte]
  by_cases h1 : I (a + 10) 3 - I (a + (5 + k)) 3 = 0 <;> by_cases h2 : I (a + 10) 4 < I (a + (5 + k)) 4 <;> simp +decide only [mM_26.1, mM_26.2.1, mM_26.2.2.2.1, mM_26.2.2.2.2.1, mM_26.2.2.2.2.2, cR, cH, mm_syn ha, mm_synV ha hk, cV hk, e1, c26_6 ha hk, cN, cA, sy_quiet_0, h0, h1, h2, and_true, true_and, and_false, false_and, or_true, true_or, or_false, false_or, not_true_eq_false, not_false_eq_true, decide_eq_true_eq, decide_true, decide_false, Bool.not_true, Bool.not_false, Bool.and_true, Bool.true_and, Bool.and_false, Bool.false_and, Bool.false_eq_true, eq_self, ↓reduceIte]
theorem c26_4 {a : Nat} (ha : mm_isS a) {k : Nat} (hk : k < 6) {x3 : Option Value} : mm_C (26, mm_blk 26 1, [some (.ref a), some (.int (nI k)), some (.int 4), x3], [], (hp sc I o t)) Q ↔ Q (.inl (some (.int (nI (sy_quiet (fun v => I (a + (5 + v)) 3) (fun v => I (a + (5 + v)) 4) 2 k))))) (hp sc I o t) := by
  have e1 : ∀ {x3 : Option Value}, mm_C (26, mm_blk 26 1, [some (.ref a), some (.int 4), some (.int 5), x3], [], (hp sc I o t)) Q ↔ Q (.inl (some (.int (nI (sy_quiet (fun v => I (a + (5 + v)) 3) (fun v => I (a + (5 + v)) 4) 1 4))))) (hp sc I o t) := fun {x3} => c26_5 ha (k := 4) (by decide)
  rw [mM_26.2.2.1]
  show _ ↔ Q (.inl (some (.int (nI (if I (a + 9) 3 - I (a + (5 + k)) 3 < 0 ∨ I (a + 9) 3 - I (a + (5 + k)) 3 = 0 ∧ I (a + 9) 4 < I (a + (5 + k)) 4 then sy_quiet (fun v => I (a + (5 + v)) 3) (fun v => I (a + (5 + v)) 4) 1 4 else sy_quiet (fun v => I (a + (5 + v)) 3) (fun v => I (a + (5 + v)) 4) 1 k))))) (hp sc I o t)
  by_cases h0 : I (a + 9) 3 - I (a + (5 + k)) 3 < 0
  · simp +decide only [mM_26.1, mM_26.2.1, mM_26.2.2.2.1, mM_26.2.2.2.2.1, mM_26.2.2.2.2.2, cR, cH, mm_syn ha, mm_synV ha hk, cV hk, e1, c26_5 ha hk, cN, cA, sy_quiet_0, h0, and_true, true_and, and_false, false_and, or_true, true_or, or_false, false_or, not_true_eq_false, not_false_eq_true, decide_eq_true_eq, decide_true, decide_false, Bool.not_true, Bool.not_false, Bool.and_true, Bool.true_and, Bool.and_false, Bool.false_and, Bool.false_eq_true, eq_self, ↓reduceIte]
  by_cases h1 : I (a + 9) 3 - I (a + (5 + k)) 3 = 0 <;> by_cases h2 : I (a + 9) 4 < I (a + (5 + k)) 4 <;> simp +decide only [mM_26.1, mM_26.2.1, mM_26.2.2.2.1, mM_26.2.2.2.2.1, mM_26.2.2.2.2.2, cR, cH, mm_syn ha, mm_synV ha hk, cV hk, e1, c26_5 ha hk, cN, cA, sy_quiet_0, h0, h1, h2, and_true, true_and, and_false, false_and, or_true, true_or, or_false, false_or, not_true_eq_false, not_false_eq_true, decide_eq_true_eq, decide_true, decide_false, Bool.not_true, Bool.not_false, Bool.and_true, Bool.true_and, Bool.and_false, Bool.false_and, Bool.false_eq_true, eq_self, ↓reduceIte]
theorem c26_3 {a : Nat} (ha : mm_isS a) {k : Nat} (hk : k < 6) {x3 : Option Value} : mm_C (26, mm_blk 26 1, [some (.ref a), some (.int (nI k)), some (.int 3), x3], [], (hp sc I o t)) Q ↔ Q (.inl (some (.int (nI (sy_quiet (fun v => I (a + (5 + v)) 3) (fun v => I (a + (5 + v)) 4) 3 k))))) (hp sc I o t) := by
  have e1 : ∀ {x3 : Option Value}, mm_C (26, mm_blk 26 1, [some (.ref a), some (.int 3), some (.int 4), x3], [], (hp sc I o t)) Q ↔ Q (.inl (some (.int (nI (sy_quiet (fun v => I (a + (5 + v)) 3) (fun v => I (a + (5 + v)) 4) 2 3))))) (hp sc I o t) := fun {x3} => c26_4 ha (k := 3) (by decide)
  rw [mM_26.2.2.1]
  show _ ↔ Q (.inl (some (.int (nI (if I (a + 8) 3 - I (a + (5 + k)) 3 < 0 ∨ I (a + 8) 3 - I (a + (5 + k)) 3 = 0 ∧ I (a + 8) 4 < I (a + (5 + k)) 4 then sy_quiet (fun v => I (a + (5 + v)) 3) (fun v => I (a + (5 + v)) 4) 2 3 else sy_quiet (fun v => I (a + (5 + v)) 3) (fun v => I (a + (5 + v)) 4) 2 k))))) (hp sc I o t)
  by_cases h0 : I (a + 8) 3 - I (a + (5 + k)) 3 < 0
  · simp +decide only [mM_26.1, mM_26.2.1, mM_26.2.2.2.1, mM_26.2.2.2.2.1, mM_26.2.2.2.2.2, cR, cH, mm_syn ha, mm_synV ha hk, cV hk, e1, c26_4 ha hk, cN, cA, sy_quiet_0, h0, and_true, true_and, and_false, false_and, or_true, true_or, or_false, false_or, not_true_eq_false, not_false_eq_true, decide_eq_true_eq, decide_true, decide_false, Bool.not_true, Bool.not_false, Bool.and_true, Bool.true_and, Bool.and_false, Bool.false_and, Bool.false_eq_true, eq_self, ↓reduceIte]
  by_cases h1 : I (a + 8) 3 - I (a + (5 + k)) 3 = 0 <;> by_cases h2 : I (a + 8) 4 < I (a + (5 + k)) 4 <;> simp +decide only [mM_26.1, mM_26.2.1, mM_26.2.2.2.1, mM_26.2.2.2.2.1, mM_26.2.2.2.2.2, cR, cH, mm_syn ha, mm_synV ha hk, cV hk, e1, c26_4 ha hk, cN, cA, sy_quiet_0, h0, h1, h2, and_true, true_and, and_false, false_and, or_true, true_or, or_false, false_or, not_true_eq_false, not_false_eq_true, decide_eq_true_eq, decide_true, decide_false, Bool.not_true, Bool.not_false, Bool.and_true, Bool.true_and, Bool.and_false, Bool.false_and, Bool.false_eq_true, eq_self, ↓reduceIte]
theorem c26_2 {a : Nat} (ha : mm_isS a) {k : Nat} (hk : k < 6) {x3 : Option Value} : mm_C (26, mm_blk 26 1, [some (.ref a), some (.int (nI k)), some (.int 2), x3], [], (hp sc I o t)) Q ↔ Q (.inl (some (.int (nI (sy_quiet (fun v => I (a + (5 + v)) 3) (fun v => I (a + (5 + v)) 4) 4 k))))) (hp sc I o t) := by
  have e1 : ∀ {x3 : Option Value}, mm_C (26, mm_blk 26 1, [some (.ref a), some (.int 2), some (.int 3), x3], [], (hp sc I o t)) Q ↔ Q (.inl (some (.int (nI (sy_quiet (fun v => I (a + (5 + v)) 3) (fun v => I (a + (5 + v)) 4) 3 2))))) (hp sc I o t) := fun {x3} => c26_3 ha (k := 2) (by decide)
  rw [mM_26.2.2.1]
  show _ ↔ Q (.inl (some (.int (nI (if I (a + 7) 3 - I (a + (5 + k)) 3 < 0 ∨ I (a + 7) 3 - I (a + (5 + k)) 3 = 0 ∧ I (a + 7) 4 < I (a + (5 + k)) 4 then sy_quiet (fun v => I (a + (5 + v)) 3) (fun v => I (a + (5 + v)) 4) 3 2 else sy_quiet (fun v => I (a + (5 + v)) 3) (fun v => I (a + (5 + v)) 4) 3 k))))) (hp sc I o t)
  by_cases h0 : I (a + 7) 3 - I (a + (5 + k)) 3 < 0
  · simp +decide only [mM_26.1, mM_26.2.1, mM_26.2.2.2.1, mM_26.2.2.2.2.1, mM_26.2.2.2.2.2, cR, cH, mm_syn ha, mm_synV ha hk, cV hk, e1, c26_3 ha hk, cN, cA, sy_quiet_0, h0, and_true, true_and, and_false, false_and, or_true, true_or, or_false, false_or, not_true_eq_false, not_false_eq_true, decide_eq_true_eq, decide_true, decide_false, Bool.not_true, Bool.not_false, Bool.and_true, Bool.true_and, Bool.and_false, Bool.false_and, Bool.false_eq_true, eq_self, ↓reduceIte]
  by_cases h1 : I (a + 7) 3 - I (a + (5 + k)) 3 = 0 <;> by_cases h2 : I (a + 7) 4 < I (a + (5 + k)) 4 <;> simp +decide only [mM_26.1, mM_26.2.1, mM_26.2.2.2.1, mM_26.2.2.2.2.1, mM_26.2.2.2.2.2, cR, cH, mm_syn ha, mm_synV ha hk, cV hk, e1, c26_3 ha hk, cN, cA, sy_quiet_0, h0, h1, h2, and_true, true_and, and_false, false_and, or_true, true_or, or_false, false_or, not_true_eq_false, not_false_eq_true, decide_eq_true_eq, decide_true, decide_false, Bool.not_true, Bool.not_false, Bool.and_true, Bool.true_and, Bool.and_false, Bool.false_and, Bool.false_eq_true, eq_self, ↓reduceIte]
theorem c26_1 {a : Nat} (ha : mm_isS a) {k : Nat} (hk : k < 6) {x3 : Option Value} : mm_C (26, mm_blk 26 1, [some (.ref a), some (.int (nI k)), some (.int 1), x3], [], (hp sc I o t)) Q ↔ Q (.inl (some (.int (nI (sy_quiet (fun v => I (a + (5 + v)) 3) (fun v => I (a + (5 + v)) 4) 5 k))))) (hp sc I o t) := by
  have e1 : ∀ {x3 : Option Value}, mm_C (26, mm_blk 26 1, [some (.ref a), some (.int 1), some (.int 2), x3], [], (hp sc I o t)) Q ↔ Q (.inl (some (.int (nI (sy_quiet (fun v => I (a + (5 + v)) 3) (fun v => I (a + (5 + v)) 4) 4 1))))) (hp sc I o t) := fun {x3} => c26_2 ha (k := 1) (by decide)
  rw [mM_26.2.2.1]
  show _ ↔ Q (.inl (some (.int (nI (if I (a + 6) 3 - I (a + (5 + k)) 3 < 0 ∨ I (a + 6) 3 - I (a + (5 + k)) 3 = 0 ∧ I (a + 6) 4 < I (a + (5 + k)) 4 then sy_quiet (fun v => I (a + (5 + v)) 3) (fun v => I (a + (5 + v)) 4) 4 1 else sy_quiet (fun v => I (a + (5 + v)) 3) (fun v => I (a + (5 + v)) 4) 4 k))))) (hp sc I o t)
  by_cases h0 : I (a + 6) 3 - I (a + (5 + k)) 3 < 0
  · simp +decide only [mM_26.1, mM_26.2.1, mM_26.2.2.2.1, mM_26.2.2.2.2.1, mM_26.2.2.2.2.2, cR, cH, mm_syn ha, mm_synV ha hk, cV hk, e1, c26_2 ha hk, cN, cA, sy_quiet_0, h0, and_true, true_and, and_false, false_and, or_true, true_or, or_false, false_or, not_true_eq_false, not_false_eq_true, decide_eq_true_eq, decide_true, decide_false, Bool.not_true, Bool.not_false, Bool.and_true, Bool.true_and, Bool.and_false, Bool.false_and, Bool.false_eq_true, eq_self, ↓reduceIte]
  by_cases h1 : I (a + 6) 3 - I (a + (5 + k)) 3 = 0 <;> by_cases h2 : I (a + 6) 4 < I (a + (5 + k)) 4 <;> simp +decide only [mM_26.1, mM_26.2.1, mM_26.2.2.2.1, mM_26.2.2.2.2.1, mM_26.2.2.2.2.2, cR, cH, mm_syn ha, mm_synV ha hk, cV hk, e1, c26_2 ha hk, cN, cA, sy_quiet_0, h0, h1, h2, and_true, true_and, and_false, false_and, or_true, true_or, or_false, false_or, not_true_eq_false, not_false_eq_true, decide_eq_true_eq, decide_true, decide_false, Bool.not_true, Bool.not_false, Bool.and_true, Bool.true_and, Bool.and_false, Bool.false_and, Bool.false_eq_true, eq_self, ↓reduceIte]
def sy_q (I : Nat → Nat → Int32) (a : Nat) : Nat := sy_quiet (fun v => I (a + (5 + v)) 3) (fun v => I (a + (5 + v)) 4) 5 0
def sy_o1 (I : Nat → Nat → Int32) (a : Nat) : Int32 := sy_old (fun v => decide (¬ I (a + (5 + v)) 1 = 0)) (fun v => I (a + (5 + v)) 4) 6 (-1) 0
def sy_o4 (I : Nat → Nat → Int32) (a : Nat) : Int32 := sy_old (fun v => decide (I (a + (5 + v)) 1 = 4)) (fun v => I (a + (5 + v)) 4) 6 (-1) 0
def sy_own (I : Nat → Nat → Int32) (a : Nat) (k : Int32) : Int32 := sy_find (fun v => decide (¬ k = -1 ∧ I (a + (5 + v)) 0 = k)) 6
def sy_fr (I : Nat → Nat → Int32) (a : Nat) : Int32 := sy_find (fun v => decide (I (a + (5 + v)) 1 = 0)) 6
theorem c26 {a : Nat} (ha : mm_isS a) : mm_C (mm_entry 26 [.ref a] (hp sc I o t)) Q ↔ Q (.inl (some (.int (nI (sy_q I a))))) (hp sc I o t) := by
  have e1 : ∀ {x3 : Option Value}, mm_C (26, mm_blk 26 1, [some (.ref a), some (.int 0), some (.int 1), x3], [], (hp sc I o t)) Q ↔ Q (.inl (some (.int (nI (sy_q I a))))) (hp sc I o t) := fun {x3} => c26_1 ha (k := 0) (by decide)
  simp +decide only [mM_26.1, mM_26.2.1, mM_26.2.2.2.1, mM_26.2.2.2.2.1, mM_26.2.2.2.2.2, cR, cH, e1]
theorem c23' {a : Nat} (ha : mm_isS a) {k : Int32} : mm_C (mm_entry 23 [.ref a, .int k] (hp sc I o t)) Q ↔ Q (.inl (some (.int (sy_own I a k)))) (hp sc I o t) := c23 ha
theorem c24' {a : Nat} (ha : mm_isS a) : mm_C (mm_entry 24 [.ref a] (hp sc I o t)) Q ↔ Q (.inl (some (.int (sy_fr I a)))) (hp sc I o t) := c24 ha
theorem c25a' {a : Nat} (ha : mm_isS a) : mm_C (mm_entry 25 [.ref a, .int 0] (hp sc I o t)) Q ↔ Q (.inl (some (.int (sy_o1 I a)))) (hp sc I o t) := c25a ha
theorem c25b' {a : Nat} (ha : mm_isS a) : mm_C (mm_entry 25 [.ref a, .int 1] (hp sc I o t)) Q ↔ Q (.inl (some (.int (sy_o4 I a)))) (hp sc I o t) := c25b ha
def sy_steal (I : Nat → Nat → Int32) (a : Nat) : Int32 := if I a 7 = 0 then nI (sy_q I a) else if I a 7 = 2 then (if sy_o4 I a = -1 then sy_o1 I a else sy_o4 I a) else if I a 7 = 3 then sy_o4 I a else sy_o1 I a
theorem c27 {a : Nat} (ha : mm_isS a) : mm_C (mm_entry 27 [.ref a] (hp sc I o t)) Q ↔ Q (.inl (some (.int (sy_steal I a)))) (hp sc I o t) := by
  by_cases h0 : I a 7 = 0
  · simp +decide only [mM_27, cR, cH, mm_syn ha, c26 ha, sy_steal, h0, ↓reduceIte]
  by_cases h2 : I a 7 = 2
  · by_cases h4 : sy_o4 I a = -1 <;> simp +decide only [mM_27, cR, cH, mm_syn ha, c25a' ha, c25b' ha, sy_steal, h0, h2, h4, ↓reduceIte]
  by_cases h3 : I a 7 = 3
  · by_cases h4 : sy_o4 I a = -1 <;> simp +decide only [mM_27, cR, cH, mm_syn ha, c25a' ha, c25b' ha, sy_steal, h0, h2, h3, h4, ↓reduceIte]
  · simp +decide only [mM_27, cR, cH, mm_syn ha, c25a' ha, sy_steal, h0, h2, h3, ↓reduceIte]
/-- over the keys, from the (60 - n)th on -/
def sy_keys (g : Nat → Int32 → Int32) : Nat → Int32 → Int32
  | 0, c => c
  | n + 1, c => sy_keys g n (g (59 - n) c)
theorem cK60 : nI 60 = 60 ∧ ((60 : Int32) < 60) = False := ⟨rfl, by decide⟩
theorem c31_n {a : Nat} (ha : mm_isS a) (n : Nat) : ∀ (hn : n ≤ 60) {c : Int32}, mm_C (31, mm_blk 31 1, [some (.ref a), some (.int c), some (.int (nI (60 - n)))], [], (hp sc I o t)) Q ↔ Q (.inl (some (.int (sy_keys (fun k c => if 0 < I (a + 3) k then c + 1 else c) n c)))) (hp sc I o t) := by
  induction n with
  | zero =>
    intro hn c
    rw [mM_31.2.2.1]
    simp +decide only [mM_31.1, mM_31.2.1, mM_31.2.2.2.1, mM_31.2.2.2.2, cR, cH, Nat.sub_zero, cK60, sy_keys, ↓reduceIte]
  | succ n ih =>
    intro hn c
    have hk : 59 - n < 60 := by omega
    have e1 : 60 - (n + 1) = 59 - n := by omega
    have e2 : 59 - n + 1 = 60 - n := by omega
    rw [mM_31.2.2.1, e1]
    by_cases h : 0 < I (a + 3) (59 - n) <;> simp +decide only [mM_31.1, mM_31.2.1, mM_31.2.2.2.1, mM_31.2.2.2.2, cR, cH, mm_syn ha, cK hk, e2, ih (by omega), sy_keys, h, ↓reduceIte]
theorem c31 {a : Nat} (ha : mm_isS a) : mm_C (mm_entry 31 [.ref a] (hp sc I o t)) Q ↔ Q (.inl (some (.int (sy_keys (fun k c => if 0 < I (a + 3) k then c + 1 else c) 60 0)))) (hp sc I o t) := by
  have e1 := fun Q => c31_n (sc := sc) (I := I) (o := o) (t := t) (Q := Q) ha 60 (by omega) (c := 0)
  have e2 : nI (60 - 60) = 0 := rfl
  rw [e2] at e1
  simp +decide only [mM_31.1, mM_31.2.1, mM_31.2.2.2.1, mM_31.2.2.2.2, cR, cH, e1]
theorem c32_n {a : Nat} (ha : mm_isS a) (n : Nat) : ∀ (hn : n ≤ 60) {c : Int32}, mm_C (32, mm_blk 32 1, [some (.ref a), some (.int c), some (.int (nI (60 - n)))], [], (hp sc I o t)) Q ↔ Q (.inl (some (.int (sy_keys (fun k c => if 0 < I (a + 3) k ∧ sy_own I a (nI k) = -1 then c + 1 else c) n c)))) (hp sc I o t) := by
  induction n with
  | zero =>
    intro hn c
    rw [mM_32.2.2.1]
    simp +decide only [mM_32.1, mM_32.2.1, mM_32.2.2.2.1, mM_32.2.2.2.2, cR, cH, Nat.sub_zero, cK60, sy_keys, ↓reduceIte]
  | succ n ih =>
    intro hn c
    have hk : 59 - n < 60 := by omega
    have e1 : 60 - (n + 1) = 59 - n := by omega
    have e2 : 59 - n + 1 = 60 - n := by omega
    rw [mM_32.2.2.1, e1]
    by_cases h : 0 < I (a + 3) (59 - n) <;> by_cases h2 : sy_own I a (nI (59 - n)) = -1 <;> simp +decide only [mM_32.1, mM_32.2.1, mM_32.2.2.2.1, mM_32.2.2.2.2, cR, cH, mm_syn ha, cK hk, e2, ih (by omega), c23' ha, sy_keys, h, h2, and_true, true_and, and_false, false_and, or_true, true_or, or_false, false_or, not_true_eq_false, not_false_eq_true, decide_eq_true_eq, decide_true, decide_false, Bool.not_true, Bool.not_false, Bool.and_true, Bool.true_and, Bool.and_false, Bool.false_and, Bool.false_eq_true, eq_self, ↓reduceIte]
theorem c32 {a : Nat} (ha : mm_isS a) : mm_C (mm_entry 32 [.ref a] (hp sc I o t)) Q ↔ Q (.inl (some (.int (sy_keys (fun k c => if 0 < I (a + 3) k ∧ sy_own I a (nI k) = -1 then c + 1 else c) 60 0)))) (hp sc I o t) := by
  have e1 := fun Q => c32_n (sc := sc) (I := I) (o := o) (t := t) (Q := Q) ha 60 (by omega) (c := 0)
  have e2 : nI (60 - 60) = 0 := rfl
  rw [e2] at e1
  simp +decide only [mM_32.1, mM_32.2.1, mM_32.2.2.2.1, mM_32.2.2.2.2, cR, cH, e1]
/-- the latest of those with P; none -/
def sy_late (P : Nat → Bool) (w : Nat → Int32) : Nat → Int32 → Int32 → Int32
  | 0, b, _ => b
  | n + 1, b, x => if P (59 - n) = true ∧ x < w (59 - n) then sy_late P w n (nI (59 - n)) (w (59 - n)) else sy_late P w n b x
theorem c33_n {a : Nat} (ha : mm_isS a) (n : Nat) : ∀ (hn : n ≤ 60) {b x : Int32}, mm_C (33, mm_blk 33 1, [some (.ref a), some (.int b), some (.int x), some (.int (nI (60 - n)))], [], (hp sc I o t)) Q ↔ Q (.inl (some (.int (sy_late (fun k => decide (0 < I (a + 3) k ∧ sy_own I a (nI k) = -1)) (I (a + 4)) n b x)))) (hp sc I o t) := by
  induction n with
  | zero =>
    intro hn b x
    rw [mM_33.2.2.1]
    simp +decide only [mM_33.1, mM_33.2.1, mM_33.2.2.2.1, mM_33.2.2.2.2, cR, cH, Nat.sub_zero, cK60, sy_late, ↓reduceIte]
  | succ n ih =>
    intro hn b x
    have hk : 59 - n < 60 := by omega
    have e1 : 60 - (n + 1) = 59 - n := by omega
    have e2 : 59 - n + 1 = 60 - n := by omega
    rw [mM_33.2.2.1, e1]
    by_cases h : 0 < I (a + 3) (59 - n) <;> by_cases h3 : x < I (a + 4) (59 - n) <;> by_cases h2 : sy_own I a (nI (59 - n)) = -1 <;> simp +decide only [mM_33.1, mM_33.2.1, mM_33.2.2.2.1, mM_33.2.2.2.2, cR, cH, mm_syn ha, cK hk, e2, ih (by omega), c23' ha, sy_late, h, h2, h3, ← Int32.not_lt, and_true, true_and, and_false, false_and, or_true, true_or, or_false, false_or, not_true_eq_false, not_false_eq_true, decide_eq_true_eq, decide_true, decide_false, Bool.not_true, Bool.not_false, Bool.and_true, Bool.true_and, Bool.and_false, Bool.false_and, Bool.false_eq_true, eq_self, ↓reduceIte]
theorem c33 {a : Nat} (ha : mm_isS a) : mm_C (mm_entry 33 [.ref a] (hp sc I o t)) Q ↔ Q (.inl (some (.int (sy_late (fun k => decide (0 < I (a + 3) k ∧ sy_own I a (nI k) = -1)) (I (a + 4)) 60 (-1) 0)))) (hp sc I o t) := by
  have e1 := fun Q => c33_n (sc := sc) (I := I) (o := o) (t := t) (Q := Q) ha 60 (by omega) (b := -1) (x := 0)
  have e2 : nI (60 - 60) = 0 := rfl
  rw [e2] at e1
  simp +decide only [mM_33.1, mM_33.2.1, mM_33.2.2.2.1, mM_33.2.2.2.2, cR, cH, e1]

end VP
