/-! the reference: questions of a row -/
section WA
variable {sc : Nat × (Nat → Int32)} {I : Nat → Nat → Int32} {o : Int64} {t : Nat} {Q : mm_Q}
theorem cX {v : Nat} (h : v < 6) : (mm_in (5 * nI v) 163 = true ∧ mm_in (5 * nI v + 1) 163 = true ∧ mm_in (5 * nI v + 2) 163 = true ∧ mm_in (5 * nI v + 3) 163 = true ∧ mm_in (5 * nI v + 4) 163 = true) ∧ ((5 * nI v).toNatClampNeg = 5 * v ∧ (5 * nI v + 1).toNatClampNeg = 5 * v + 1 ∧ (5 * nI v + 2).toNatClampNeg = 5 * v + 2 ∧ (5 * nI v + 3).toNatClampNeg = 5 * v + 3 ∧ (5 * nI v + 4).toNatClampNeg = 5 * v + 4) := by
  have h2 : ∀ v, v < 6 → (mm_in (5 * nI v) 163 = true ∧ mm_in (5 * nI v + 1) 163 = true ∧ mm_in (5 * nI v + 2) 163 = true ∧ mm_in (5 * nI v + 3) 163 = true ∧ mm_in (5 * nI v + 4) 163 = true) ∧ ((5 * nI v).toNatClampNeg = 5 * v ∧ (5 * nI v + 1).toNatClampNeg = 5 * v + 1 ∧ (5 * nI v + 2).toNatClampNeg = 5 * v + 2 ∧ (5 * nI v + 3).toNatClampNeg = 5 * v + 3 ∧ (5 * nI v + 4).toNatClampNeg = 5 * v + 4) := by decide +kernel
  exact h2 v h
theorem cD {k : Nat} (h : k < 60) : (mm_in (30 + 2 * nI k) 163 = true ∧ mm_in (30 + 2 * nI k + 1) 163 = true) ∧ ((30 + 2 * nI k).toNatClampNeg = 30 + 2 * k ∧ (30 + 2 * nI k + 1).toNatClampNeg = 30 + 2 * k + 1) := by
  have h2 : ∀ k, k < 60 → (mm_in (30 + 2 * nI k) 163 = true ∧ mm_in (30 + 2 * nI k + 1) 163 = true) ∧ ((30 + 2 * nI k).toNatClampNeg = 30 + 2 * k ∧ (30 + 2 * nI k + 1).toNatClampNeg = 30 + 2 * k + 1) := by decide +kernel
  exact h2 k h
def mo_voice (r : Nat → Int32) (k : Int32) : Int32 := sy_find (fun v => decide (0 < r (5 * v) ∧ r (5 * v + 1) = k)) 6
def mo_free (r : Nat → Int32) : Int32 := sy_find (fun v => decide (r (5 * v) = 0)) 6
def mo_loud (r : Nat → Int32) : Int32 := sy_fold (fun v c => c + r (5 * v + 3)) 6 0
def mo_use (r : Nat → Int32) : Int32 := sy_fold (fun v c => c + (if 0 < r (5 * v) then 1 else 0)) 6 0
end WA
