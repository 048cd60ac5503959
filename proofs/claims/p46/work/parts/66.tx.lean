/-! the reference: the text -/
section WQ
variable {sc : Nat × (Nat → Int32)} {I : Nat → Nat → Int32} {o : Int64} {t : Nat} {Q : mm_Q}
def gb (g : Bool) : Int32 := if g = true then 1 else 0
theorem gb_1 : gb true = 1 := rfl
theorem gb_0 : gb false = 0 := rfl
/-- the reader's place, its word, what it left out -/
def tx (f : Nat → Int32) (p g l : Int32) : Nat → Int32 := mm_up (mm_up (mm_up f 10 p) 11 g) 12 l
theorem tx_r (f : Nat → Int32) (p g l : Int32) : tx f p g l 10 = p ∧ tx f p g l 11 = g ∧ tx f p g l 12 = l ∧ tx f p g l 9 = f 9 ∧ tx f p g l 0 = f 0 ∧ tx f p g l 5 = f 5 := ⟨rfl, rfl, rfl, rfl, rfl, rfl⟩
theorem tx_10 (f : Nat → Int32) (p g l v : Int32) : mm_up (tx f p g l) 10 v = tx f v g l := by
  funext j
  by_cases h : j = 10
  · subst h; rfl
  · rw [mm_up_n _ _ h]
    simp [tx, mm_up, h]
theorem tx_11 (f : Nat → Int32) (p g l v : Int32) : mm_up (tx f p g l) 11 v = tx f p v l := by
  funext j
  by_cases h : j = 11
  · subst h; rfl
  · rw [mm_up_n _ _ h]
    simp [tx, mm_up, h]
theorem tx_12 (f : Nat → Int32) (p g l v : Int32) : mm_up (tx f p g l) 12 v = tx f p g v := mm_up_up _ _ _ _
theorem tx_self (f : Nat → Int32) : tx f (f 10) (f 11) (f 12) = f := by
  unfold tx
  rw [mm_up_self]
  have e1 : f 11 = f 11 := rfl
  rw [mm_up_self, mm_up_self]
def td (T : Nat → Int32) (L : Nat) (lo hi : Int32) (s : Nat × Bool) : Int32 × Nat × Bool := if (s.2 && dg T L s.1 lo hi) = true then (T s.1 - 48, s.1 + 1, true) else (lo, s.1, false)
theorem cG : (if (1 : Int32) = 0 then (0 : Int32) else 1) = 1 := rfl
theorem cLL (x y : Int32) : (x.toInt64 < y.toInt64) = (x < y) := by
  rw [Int64.lt_iff_toInt_lt, Int32.toInt_toInt64, Int32.toInt_toInt64, Int32.lt_iff_toInt_lt]
theorem td_le (T : Nat → Int32) (L : Nat) (lo hi : Int32) (s : Nat × Bool) : (td T L lo hi s).2.1 ≤ s.1 + 1 := by
  unfold td
  split
  · exact Nat.le_refl _
  · exact Nat.le_succ _
def tkey (T : Nat → Int32) (L : Nat) (s : Nat × Bool) : Int32 × Nat × Bool := (10 * (td T L 0 5 s).1 + (td T L 0 9 (td T L 0 5 s).2).1, (td T L 0 9 (td T L 0 5 s).2).2)
def tf1 (T : Nat → Int32) (L : Nat) (s : Nat × Bool) : Int32 × Nat × Bool := td T L 0 1 s
def tf2 (T : Nat → Int32) (L : Nat) (s : Nat × Bool) : Int32 × Nat × Bool := td T L 0 (if (tf1 T L s).1 = 1 then 0 else 9) (tf1 T L s).2
def tf3 (T : Nat → Int32) (L : Nat) (s : Nat × Bool) : Int32 × Nat × Bool := td T L (if (tf1 T L s).1 + (tf2 T L s).1 = 0 then 1 else 0) (if (tf1 T L s).1 = 1 then 0 else 9) (tf2 T L s).2
def tforce (T : Nat → Int32) (L : Nat) (s : Nat × Bool) : Int32 × Nat × Bool := (100 * (tf1 T L s).1 + 10 * (tf2 T L s).1 + (tf3 T L s).1, (tf3 T L s).2)
end WQ
