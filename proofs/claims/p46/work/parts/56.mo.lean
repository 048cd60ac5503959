/-! the reference: a copy of a row -/
section WG
variable {sc : Nat × (Nat → Int32)} {I : Nat → Nat → Int32} {o : Int64} {t : Nat} {Q : mm_Q}
theorem cR163 {k : Nat} (h : k < 163) : mm_in (nI k) 163 = true ∧ (nI k).toNatClampNeg = k ∧ (nI k < 163) = True ∧ nI k + 1 = nI (k + 1) := by
  have h2 : ∀ k, k < 163 → mm_in (nI k) 163 = true ∧ (nI k).toNatClampNeg = k ∧ nI k < 163 ∧ nI k + 1 = nI (k + 1) := by decide +kernel
  obtain ⟨h3, h4, h5, h6⟩ := h2 k h
  exact ⟨h3, h4, eq_true h5, h6⟩
theorem cR163' : nI 163 = 163 ∧ ((163 : Int32) < 163) = False := ⟨rfl, by decide⟩
/-- the places from 163 - n on -/
def mo_cp (f : Nat → Int32) : Nat → (Nat → Int32) → (Nat → Int32)
  | 0, g => g
  | n + 1, g => mo_cp f n (mm_up g (162 - n) (f (162 - n)))
end WG
