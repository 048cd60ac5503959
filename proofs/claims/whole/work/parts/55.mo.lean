/-! the reference: what the pedal keeps -/
section WF
variable {sc : Nat × (Nat → Int32)} {I : Nat → Nat → Int32} {o : Int64} {t : Nat} {Q : mm_Q}
def mo_in13 (x : Int32) : Bool := decide (¬ x.toInt64 < Int64.ofNat 1 ∧ ¬ Int64.ofNat 3 < x.toInt64)
def mo_held (r : Nat → Int32) (v : Nat) : Bool := mo_in13 (r (5 * v)) && decide (¬ 0 < r (30 + 2 * (r (5 * v + 1)).toNatClampNeg))
theorem c119 {a v : Nat} (ha : mm_isW a) (hv : v < 6) (hk : mo_in13 (I a (5 * v)) = true → ∃ k, k < 60 ∧ I a (5 * v + 1) = nI k) : mm_C (mm_entry 119 [.ref a, .int (nI v)] (hp sc I o t)) Q ↔ Q (.inl (some (.int (if mo_held (I a) v = true then 1 else 0)))) (hp sc I o t) := by
  by_cases h : ¬ (I a (5 * v)).toInt64 < Int64.ofNat 1 ∧ ¬ Int64.ofNat 3 < (I a (5 * v)).toInt64
  · have h0 : mo_in13 (I a (5 * v)) = true := decide_eq_true h
    obtain ⟨k, hk1, hk2⟩ := hk h0
    by_cases h3 : 0 < I a (30 + 2 * k)
    · have e : mo_held (I a) v = false := by
        unfold mo_held
        rw [hk2, (cK hk1).2.1, h0]
        simp [h3]
      rw [e]
      simp +decide only [mM_119, cR, cH, ha.1, ha.2, cX hv, c109, if_pos h, hk2, c114 ha hk1, h3, cB0, cB1, and_true, true_and, and_false, false_and, or_true, true_or, or_false, false_or, not_true_eq_false, not_false_eq_true, decide_eq_true_eq, decide_true, decide_false, Bool.not_true, Bool.not_false, Bool.and_true, Bool.true_and, Bool.and_false, Bool.false_and, Bool.false_eq_true, eq_self, ↓reduceIte]
    · have e : mo_held (I a) v = true := by
        unfold mo_held
        rw [hk2, (cK hk1).2.1, h0]
        simp [h3]
      rw [e]
      simp +decide only [mM_119, cR, cH, ha.1, ha.2, cX hv, c109, if_pos h, hk2, c114 ha hk1, h3, cB0, cB1, and_true, true_and, and_false, false_and, or_true, true_or, or_false, false_or, not_true_eq_false, not_false_eq_true, decide_eq_true_eq, decide_true, decide_false, Bool.not_true, Bool.not_false, Bool.and_true, Bool.true_and, Bool.and_false, Bool.false_and, Bool.false_eq_true, eq_self, ↓reduceIte]
  · have h0 : mo_in13 (I a (5 * v)) = false := decide_eq_false h
    have e : mo_held (I a) v = false := by
      unfold mo_held
      rw [h0]
      rfl
    rw [e]
    simp +decide only [mM_119, cR, cH, ha.1, ha.2, cX hv, c109, if_neg h, cB0, cB1, and_true, true_and, and_false, false_and, or_true, true_or, or_false, false_or, not_true_eq_false, not_false_eq_true, decide_eq_true_eq, decide_true, decide_false, Bool.not_true, Bool.not_false, Bool.and_true, Bool.true_and, Bool.and_false, Bool.false_and, Bool.false_eq_true, eq_self, ↓reduceIte]
end WF
