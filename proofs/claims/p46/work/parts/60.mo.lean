/-! the reference: its actions -/
section WK
variable {sc : Nat × (Nat → Int32)} {I : Nat → Nat → Int32} {o : Int64} {t : Nat} {Q : mm_Q}
theorem mo_rem_n (I : Nat → Nat → Int32) (s : Nat) {j : Nat} (h1 : ¬ j = 206) (h2 : ¬ j = 210) : mo_rem I s j = I j := by
  unfold mo_rem
  split
  · rw [mm_up_n _ _ h1, mm_up_n _ _ h2]
  · rw [mm_up_n _ _ h1, mm_up_n _ _ h2]
/-- behind a refusal that is none, and the book -/
def mo_rm (I : Nat → Nat → Int32) (s : Nat) : Nat → Nat → Int32 := mo_rem (rf I 0) s
theorem mo_rm_7 (I : Nat → Nat → Int32) (s : Nat) : mo_rm I s 207 = I 207 := by
  unfold mo_rm
  rw [mo_rem_n _ _ (by decide) (by decide), rf_n _ _ (by decide)]
/-- a row out of a book, up to its place k -/
def mo_out (g f : Nat → Int32) (p k : Nat) : Nat → Int32 := fun j => if j < k then f (p + j) else g j
theorem mo_out_s (g f : Nat → Int32) (p k : Nat) : mm_up (mo_out g f p k) k (f (p + k)) = mo_out g f p (k + 1) := by
  funext j
  unfold mm_up mo_out
  by_cases h : j = k
  · subst h
    rw [if_pos rfl, if_pos (show j < j + 1 by omega)]
  · rw [if_neg h]
    by_cases h2 : j < k
    · rw [if_pos h2, if_pos (show j < k + 1 by omega)]
    · rw [if_neg h2, if_neg (show ¬ j < k + 1 by omega)]
theorem mo_out_0 (g f : Nat → Int32) (p : Nat) : mo_out g f p 0 = g := by
  funext j
  unfold mo_out
  rw [if_neg (Nat.not_lt_zero j)]
def mo_un (I : Nat → Nat → Int32) (s : Nat) : Nat → Nat → Int32 := mm_up (mm_up I 206 (mm_up (mm_up (I 206) 0 0) 5 (nI s))) 207 (mo_out (I 207) (I 210) (163 * s) 163)
theorem cP14 {s : Nat} (h : s < 14) : (nI (s + 1) = 0) = False ∧ nI (s + 1) - 1 = nI s := by
  have h2 : ∀ s, s < 14 → ¬ nI (s + 1) = 0 := by decide
  exact ⟨eq_false (h2 s h), nI_pred s⟩
end WK
