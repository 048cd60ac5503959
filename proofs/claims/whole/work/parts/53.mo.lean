/-! the reference: the latest, what a pedal keeps -/
section WD
variable {sc : Nat × (Nat → Int32)} {I : Nat → Nat → Int32} {o : Int64} {t : Nat} {Q : mm_Q}
def mo_late (r : Nat → Int32) : Nat → Int32 → Int32
  | 0, b => b
  | n + 1, b => if (0 < r (30 + 2 * (59 - n)) ∧ mo_voice r (nI (59 - n)) = -1) ∧ (b = -1 ∨ r (30 + 2 * b.toNatClampNeg) < r (30 + 2 * (59 - n))) then mo_late r n (nI (59 - n)) else mo_late r n b
theorem c125_n {a : Nat} (ha : mm_isW a) (n : Nat) : ∀ (hn : n ≤ 60) {b : Int32} {x3 : Option Value} (hb : b = -1 ∨ ∃ j, j < 60 ∧ b = nI j), mm_C (125, mm_blk 125 1, [some (.ref a), some (.int b), some (.int (nI (60 - n))), x3], [], (hp sc I o t)) Q ↔ Q (.inl (some (.int (mo_late (I a) n b)))) (hp sc I o t) := by
  induction n with
  | zero =>
    intro hn b x3 hb
    rw [mM_125.2.2.1]
    simp +decide only [mM_125.1, mM_125.2.1, mM_125.2.2.2.1, mM_125.2.2.2.2.1, mM_125.2.2.2.2.2.1, mM_125.2.2.2.2.2.2.1, mM_125.2.2.2.2.2.2.2.1, mM_125.2.2.2.2.2.2.2.2, cR, cH, Nat.sub_zero, cK60, mo_late, ↓reduceIte]
  | succ n ih =>
    intro hn b x3 hb
    have hk : 59 - n < 60 := by omega
    have e1 : 60 - (n + 1) = 59 - n := by omega
    have e2 : 59 - n + 1 = 60 - n := by omega
    have ih1 := fun (v : Int32) => ih (by omega) (b := nI (59 - n)) (x3 := some (.int v)) (Or.inr ⟨59 - n, hk, rfl⟩)
    have ih2 := fun (v : Int32) => ih (by omega) (b := b) (x3 := some (.int v)) hb
    rw [mM_125.2.2.1, e1]
    by_cases h : 0 < I a (30 + 2 * (59 - n))
    · by_cases h2 : mo_voice (I a) (nI (59 - n)) = -1
      · rcases hb with rfl | ⟨j, hj, rfl⟩
        · simp +decide only [mM_125.1, mM_125.2.1, mM_125.2.2.2.1, mM_125.2.2.2.2.1, mM_125.2.2.2.2.2.1, mM_125.2.2.2.2.2.2.1, mM_125.2.2.2.2.2.2.2.1, mM_125.2.2.2.2.2.2.2.2, cR, cH, ha.1, ha.2, cK hk, cD hk, e2, c114 ha hk, c115 ha, ih1, mo_late, h, h2, and_true, true_and, and_false, false_and, or_true, true_or, or_false, false_or, not_true_eq_false, not_false_eq_true, decide_eq_true_eq, decide_true, decide_false, Bool.not_true, Bool.not_false, Bool.and_true, Bool.true_and, Bool.and_false, Bool.false_and, Bool.false_eq_true, eq_self, ↓reduceIte]
        · by_cases h3 : I a (30 + 2 * j) < I a (30 + 2 * (59 - n)) <;> simp +decide only [mM_125.1, mM_125.2.1, mM_125.2.2.2.1, mM_125.2.2.2.2.1, mM_125.2.2.2.2.2.1, mM_125.2.2.2.2.2.2.1, mM_125.2.2.2.2.2.2.2.1, mM_125.2.2.2.2.2.2.2.2, cR, cH, ha.1, ha.2, cK hk, cK hj, cD hk, cD hj, e2, c114 ha hk, c115 ha, ih1, ih2, mo_late, h, h2, h3, and_true, true_and, and_false, false_and, or_true, true_or, or_false, false_or, not_true_eq_false, not_false_eq_true, decide_eq_true_eq, decide_true, decide_false, Bool.not_true, Bool.not_false, Bool.and_true, Bool.true_and, Bool.and_false, Bool.false_and, Bool.false_eq_true, eq_self, ↓reduceIte]
      · simp +decide only [mM_125.1, mM_125.2.1, mM_125.2.2.2.1, mM_125.2.2.2.2.1, mM_125.2.2.2.2.2.1, mM_125.2.2.2.2.2.2.1, mM_125.2.2.2.2.2.2.2.1, mM_125.2.2.2.2.2.2.2.2, cR, cH, ha.1, ha.2, cK hk, e2, c114 ha hk, c115 ha, ih2, mo_late, h, h2, and_true, true_and, and_false, false_and, or_true, true_or, or_false, false_or, not_true_eq_false, not_false_eq_true, decide_eq_true_eq, decide_true, decide_false, Bool.not_true, Bool.not_false, Bool.and_true, Bool.true_and, Bool.and_false, Bool.false_and, Bool.false_eq_true, eq_self, ↓reduceIte]
    · simp +decide only [mM_125.1, mM_125.2.1, mM_125.2.2.2.1, mM_125.2.2.2.2.1, mM_125.2.2.2.2.2.1, mM_125.2.2.2.2.2.2.1, mM_125.2.2.2.2.2.2.2.1, mM_125.2.2.2.2.2.2.2.2, cR, cH, ha.1, ha.2, cK hk, e2, c114 ha hk, c115 ha, ih2, mo_late, h, and_true, true_and, and_false, false_and, or_true, true_or, or_false, false_or, not_true_eq_false, not_false_eq_true, decide_eq_true_eq, decide_true, decide_false, Bool.not_true, Bool.not_false, Bool.and_true, Bool.true_and, Bool.and_false, Bool.false_and, Bool.false_eq_true, eq_self, ↓reduceIte]
theorem c125 {a : Nat} (ha : mm_isW a) : mm_C (mm_entry 125 [.ref a] (hp sc I o t)) Q ↔ Q (.inl (some (.int (mo_late (I a) 60 (-1))))) (hp sc I o t) := by
  have e1 := c125_n (sc := sc) (o := o) (t := t) (Q := Q) (I := I) ha 60 (by omega) (b := -1) (x3 := none) (Or.inl rfl)
  have e2 : nI (60 - 60) = 0 := rfl
  rw [e2] at e1
  simp +decide only [mM_125.1, mM_125.2.1, mM_125.2.2.2.1, mM_125.2.2.2.2.1, mM_125.2.2.2.2.2.1, mM_125.2.2.2.2.2.2.1, mM_125.2.2.2.2.2.2.2.1, mM_125.2.2.2.2.2.2.2.2, cR, cH, e1]
end WD
