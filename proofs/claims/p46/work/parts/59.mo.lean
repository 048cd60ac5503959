/-! the reference: its refusals, its questions -/
section WJ
variable {sc : Nat × (Nat → Int32)} {I : Nat → Nat → Int32} {o : Int64} {t : Nat} {Q : mm_Q}
theorem cLt (x : Int32) {n : Nat} (hn : n < 2 ^ 31) : (x.toInt64 < Int64.ofNat n) = (x < nI n) := by
  have h : (Int64.ofNat n).toInt = (n : Int) := lN_toInt (n := n) hn
  rw [Int64.lt_iff_toInt_lt, Int32.toInt_toInt64, h, Int32.lt_iff_toInt_lt, nI_toInt hn]
theorem cLg (x : Int32) {n : Nat} (hn : n < 2 ^ 31) : (Int64.ofNat n < x.toInt64) = (nI n < x) := by
  have h : (Int64.ofNat n).toInt = (n : Int) := lN_toInt (n := n) hn
  rw [Int64.lt_iff_toInt_lt, Int32.toInt_toInt64, h, Int32.lt_iff_toInt_lt, nI_toInt hn]
theorem cL : (∀ x : Int32, (x.toInt64 < Int64.ofNat 0) = (x < 0)) ∧ (∀ x : Int32, (x.toInt64 < Int64.ofNat 1) = (x < 1)) ∧ (∀ x : Int32, (Int64.ofNat 5 < x.toInt64) = (5 < x)) ∧ (∀ x : Int32, (Int64.ofNat 59 < x.toInt64) = (59 < x)) ∧ (∀ x : Int32, (Int64.ofNat 100 < x.toInt64) = (100 < x)) ∧ (∀ x : Int32, (Int64.ofNat 1000 < x.toInt64) = (1000 < x)) ∧ (∀ x : Int32, (Int64.ofNat 3 < x.toInt64) = (3 < x)) ∧ (∀ x : Int32, (Int64.ofNat 99 < x.toInt64) = (99 < x)) ∧ (∀ x : Int32, (Int64.ofNat 200 < x.toInt64) = (200 < x)) ∧ (∀ x : Int32, (Int64.ofNat 60 < x.toInt64) = (60 < x)) ∧ (∀ x : Int32, (Int64.ofNat 1 < x.toInt64) = (1 < x)) ∧ (∀ x : Int32, (Int64.ofNat 255 < x.toInt64) = (255 < x)) :=
  ⟨fun x => cLt x (n := 0) (by decide), fun x => cLt x (n := 1) (by decide), fun x => cLg x (n := 5) (by decide), fun x => cLg x (n := 59) (by decide), fun x => cLg x (n := 100) (by decide), fun x => cLg x (n := 1000) (by decide), fun x => cLg x (n := 3) (by decide), fun x => cLg x (n := 99) (by decide), fun x => cLg x (n := 200) (by decide), fun x => cLg x (n := 60) (by decide), fun x => cLg x (n := 1) (by decide), fun x => cLg x (n := 255) (by decide)⟩
theorem cLe (x : Int32) : (5 < x) = ¬ x < 6 ∧ (59 < x) = ¬ x < 60 ∧ (1 < x) = ¬ x < 2 := by
  have e1 : (5 : Int32).toInt = 5 := by decide
  have e2 : (6 : Int32).toInt = 6 := by decide
  have e3 : (59 : Int32).toInt = 59 := by decide
  have e4 : (60 : Int32).toInt = 60 := by decide
  have e5 : (1 : Int32).toInt = 1 := by decide
  have e6 : (2 : Int32).toInt = 2 := by decide
  simp only [Int32.lt_iff_toInt_lt, e1, e2, e3, e4, e5, e6]
  exact ⟨propext (by omega), propext (by omega), propext (by omega)⟩
def rf (I : Nat → Nat → Int32) (w : Int32) : Nat → Nat → Int32 := mm_up I 206 (mm_up (I 206) 0 w)
theorem rf_n (I : Nat → Nat → Int32) (w : Int32) {j : Nat} (h : ¬ j = 206) : rf I w j = I j := mm_up_n _ _ h
theorem rf_6 (I : Nat → Nat → Int32) (w : Int32) : rf I w 206 = mm_up (I 206) 0 w := mm_up_s _ _ _
theorem rf_def (I : Nat → Nat → Int32) (w : Int32) : mm_up I 206 (mm_up (I 206) 0 w) = rf I w := rfl
def tx_add (I : Nat → Nat → Int32) (l : Nat) (c : Int32) : Nat → Nat → Int32 := mm_up (mm_up (rf I 0) 213 (mm_up (I 213) l c)) 206 (mm_up (rf I 0 206) 9 (nI (l + 1)))
theorem cT {l : Nat} (h : l < 120) : mm_in (nI l) 120 = true ∧ (nI l).toNatClampNeg = l ∧ (nI l = 120) = False ∧ nI l + 1 = nI (l + 1) := by
  have h2 : ∀ l, l < 120 → ¬ nI l = 120 := by decide
  exact ⟨nJ_in h (by decide), nI_clamp (by omega), eq_false (h2 l h), nI_1 l⟩
end WJ
