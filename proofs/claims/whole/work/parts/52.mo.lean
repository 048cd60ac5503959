/-! the reference: the oldest, the waiting keys -/
section WC
variable {sc : Nat × (Nat → Int32)} {I : Nat → Nat → Int32} {o : Int64} {t : Nat} {Q : mm_Q}
def mo_old (r : Nat → Int32) (p : Int32) : Nat → Int32 → Int32
  | 0, b => b
  | n + 1, b => if ¬ r (5 * (5 - n)) < p ∧ (b = -1 ∨ r (5 * (5 - n) + 4) < r (5 * b.toNatClampNeg + 4)) then mo_old r p n (nI (5 - n)) else mo_old r p n b
theorem c117_n {a : Nat} (ha : mm_isW a) {p : Int32} (n : Nat) : ∀ (hn : n ≤ 6) {b : Int32} {x4 : Option Value} (hb : b = -1 ∨ ∃ j, j < 6 ∧ b = nI j), mm_C (117, mm_blk 117 1, [some (.ref a), some (.int p), some (.int b), some (.int (nI (6 - n))), x4], [], (hp sc I o t)) Q ↔ Q (.inl (some (.int (mo_old (I a) p n b)))) (hp sc I o t) := by
  induction n with
  | zero =>
    intro hn b x4 hb
    rw [mM_117.2.2.1]
    simp +decide only [mM_117.1, mM_117.2.1, mM_117.2.2.2.1, mM_117.2.2.2.2.1, mM_117.2.2.2.2.2.1, mM_117.2.2.2.2.2.2.1, mM_117.2.2.2.2.2.2.2.1, mM_117.2.2.2.2.2.2.2.2, cR, cH, Nat.sub_zero, cV66, mo_old, ↓reduceIte]
  | succ n ih =>
    intro hn b x4 hb
    have hk : 5 - n < 6 := by omega
    have e1 : 6 - (n + 1) = 5 - n := by omega
    have e2 : 5 - n + 1 = 6 - n := by omega
    have ih1 := fun (v : Int32) => ih (by omega) (b := nI (5 - n)) (x4 := some (.int v)) (Or.inr ⟨5 - n, hk, rfl⟩)
    have ih2 := fun (v : Int32) => ih (by omega) (b := b) (x4 := some (.int v)) hb
    rw [mM_117.2.2.1, e1]
    by_cases h : I a (5 * (5 - n)) < p
    · simp +decide only [mM_117.1, mM_117.2.1, mM_117.2.2.2.1, mM_117.2.2.2.2.1, mM_117.2.2.2.2.2.1, mM_117.2.2.2.2.2.2.1, mM_117.2.2.2.2.2.2.2.1, mM_117.2.2.2.2.2.2.2.2, cR, cH, ha.1, ha.2, cX hk, cV6 hk, e2, ih2, mo_old, h, and_true, true_and, and_false, false_and, or_true, true_or, or_false, false_or, not_true_eq_false, not_false_eq_true, decide_eq_true_eq, decide_true, decide_false, Bool.not_true, Bool.not_false, Bool.and_true, Bool.true_and, Bool.and_false, Bool.false_and, Bool.false_eq_true, eq_self, ↓reduceIte]
    rcases hb with rfl | ⟨j, hj, rfl⟩
    · simp +decide only [mM_117.1, mM_117.2.1, mM_117.2.2.2.1, mM_117.2.2.2.2.1, mM_117.2.2.2.2.2.1, mM_117.2.2.2.2.2.2.1, mM_117.2.2.2.2.2.2.2.1, mM_117.2.2.2.2.2.2.2.2, cR, cH, ha.1, ha.2, cX hk, cV6 hk, e2, ih1, mo_old, h, and_true, true_and, and_false, false_and, or_true, true_or, or_false, false_or, not_true_eq_false, not_false_eq_true, decide_eq_true_eq, decide_true, decide_false, Bool.not_true, Bool.not_false, Bool.and_true, Bool.true_and, Bool.and_false, Bool.false_and, Bool.false_eq_true, eq_self, ↓reduceIte]
    · by_cases h2 : I a (5 * (5 - n) + 4) < I a (5 * j + 4) <;> simp +decide only [mM_117.1, mM_117.2.1, mM_117.2.2.2.1, mM_117.2.2.2.2.1, mM_117.2.2.2.2.2.1, mM_117.2.2.2.2.2.2.1, mM_117.2.2.2.2.2.2.2.1, mM_117.2.2.2.2.2.2.2.2, cR, cH, ha.1, ha.2, cX hk, cX hj, cV6 hk, cV hj, e2, ih1, ih2, mo_old, h, h2, and_true, true_and, and_false, false_and, or_true, true_or, or_false, false_or, not_true_eq_false, not_false_eq_true, decide_eq_true_eq, decide_true, decide_false, Bool.not_true, Bool.not_false, Bool.and_true, Bool.true_and, Bool.and_false, Bool.false_and, Bool.false_eq_true, eq_self, ↓reduceIte]
theorem c117 {a : Nat} (ha : mm_isW a) {p : Int32} : mm_C (mm_entry 117 [.ref a, .int p] (hp sc I o t)) Q ↔ Q (.inl (some (.int (mo_old (I a) p 6 (-1))))) (hp sc I o t) := by
  have e1 := c117_n (sc := sc) (o := o) (t := t) (Q := Q) (I := I) ha (p := p) 6 (by omega) (b := -1) (x4 := none) (Or.inl rfl)
  have e2 : nI (6 - 6) = 0 := rfl
  rw [e2] at e1
  simp +decide only [mM_117.1, mM_117.2.1, mM_117.2.2.2.1, mM_117.2.2.2.2.1, mM_117.2.2.2.2.2.1, mM_117.2.2.2.2.2.2.1, mM_117.2.2.2.2.2.2.2.1, mM_117.2.2.2.2.2.2.2.2, cR, cH, e1]
theorem c124_n {a : Nat} (ha : mm_isW a) (n : Nat) : ∀ (hn : n ≤ 60) {c : Int32}, mm_C (124, mm_blk 124 1, [some (.ref a), some (.int c), some (.int (nI (60 - n)))], [], (hp sc I o t)) Q ↔ Q (.inl (some (.int (sy_keys (fun k c => c + (if 0 < I a (30 + 2 * k) ∧ mo_voice (I a) (nI k) = -1 then 1 else 0)) n c)))) (hp sc I o t) := by
  induction n with
  | zero =>
    intro hn c
    rw [mM_124.2.2.1]
    simp +decide only [mM_124.1, mM_124.2.1, mM_124.2.2.2.1, mM_124.2.2.2.2.1, mM_124.2.2.2.2.2, cR, cH, Nat.sub_zero, cK60, sy_keys, ↓reduceIte]
  | succ n ih =>
    intro hn c
    have hk : 59 - n < 60 := by omega
    have e1 : 60 - (n + 1) = 59 - n := by omega
    have e2 : 59 - n + 1 = 60 - n := by omega
    rw [mM_124.2.2.1, e1]
    by_cases h : 0 < I a (30 + 2 * (59 - n)) <;> by_cases h2 : mo_voice (I a) (nI (59 - n)) = -1 <;> simp +decide only [mM_124.1, mM_124.2.1, mM_124.2.2.2.1, mM_124.2.2.2.2.1, mM_124.2.2.2.2.2, cR, cH, ha.1, ha.2, cK hk, e2, c114 ha hk, c115 ha, ih (by omega), sy_keys, h, h2, cB0, cB1, and_true, true_and, and_false, false_and, or_true, true_or, or_false, false_or, not_true_eq_false, not_false_eq_true, decide_eq_true_eq, decide_true, decide_false, Bool.not_true, Bool.not_false, Bool.and_true, Bool.true_and, Bool.and_false, Bool.false_and, Bool.false_eq_true, eq_self, ↓reduceIte]
theorem c124 {a : Nat} (ha : mm_isW a) : mm_C (mm_entry 124 [.ref a] (hp sc I o t)) Q ↔ Q (.inl (some (.int (sy_keys (fun k c => c + (if 0 < I a (30 + 2 * k) ∧ mo_voice (I a) (nI k) = -1 then 1 else 0)) 60 0)))) (hp sc I o t) := by
  have e1 := c124_n (sc := sc) (o := o) (t := t) (Q := Q) (I := I) ha 60 (by omega) (c := 0)
  have e2 : nI (60 - 60) = 0 := rfl
  rw [e2] at e1
  simp +decide only [mM_124.1, mM_124.2.1, mM_124.2.2.2.1, mM_124.2.2.2.2.1, mM_124.2.2.2.2.2, cR, cH, e1]
end WC
