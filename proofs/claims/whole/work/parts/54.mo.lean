/-! the reference: a voice in a tick -/
section WE
variable {sc : Nat × (Nat → Int32)} {I : Nat → Nat → Int32} {o : Int64} {t : Nat} {Q : mm_Q}
def mo_pk (r : Nat → Int32) (v : Nat) : Int32 := 10 * r (5 * v + 2)
def mo_sound (r : Nat → Int32) (v : Nat) : Nat → Int32 :=
  if r (5 * v) = 1 then (if r (5 * v + 3) + r 153 < 10 * r (5 * v + 2) then mm_up (mm_up r (5 * v + 3) (r (5 * v + 3) + r 153)) (5 * v) 1 else mm_up (mm_up r (5 * v + 3) (10 * r (5 * v + 2))) (5 * v) 2)
  else if r (5 * v) = 2 then (if 10 * r (5 * v + 2) * r 155 / 100 < r (5 * v + 3) - r 154 then mm_up (mm_up r (5 * v + 3) (r (5 * v + 3) - r 154)) (5 * v) 2 else mm_up (mm_up r (5 * v + 3) (10 * r (5 * v + 2) * r 155 / 100)) (5 * v) 3)
  else if r (5 * v) = 4 then (if r 156 < r (5 * v + 3) then mm_up r (5 * v + 3) (r (5 * v + 3) - r 156) else mm_up (mm_up (mm_up (mm_up (mm_up r (5 * v + 3) (r (5 * v + 3) - r 156)) (5 * v) 0) (5 * v + 1) (-1)) (5 * v + 3) 0) 159 (r 159 + 1))
  else r
def mo_ends (r : Nat → Int32) (v : Nat) : Int32 := if r (5 * v) = 4 then (if r 156 < r (5 * v + 3) then 0 else 1) else 0
theorem c126_sw : mm_sw 1 [13, 1, 6, 13, 11] 1 = 1 ∧ mm_sw 1 [13, 1, 6, 13, 11] 2 = 6 ∧ mm_sw 1 [13, 1, 6, 13, 11] 4 = 11 ∧ mm_sw 1 [13, 1, 6, 13, 11] 3 = 13 := by decide
theorem c126_df {v : Int32} (h1 : ¬ v = 1) (h2 : ¬ v = 2) (h4 : ¬ v = 4) : mm_sw 1 [13, 1, 6, 13, 11] v = 13 := by
  by_cases h3 : v = 3
  · subst h3; exact c126_sw.2.2.2
  refine mm_sw_def fun j hj => ?_
  have hj : j < 4 := by simp at hj; omega
  match j, hj with
  | 0, _ => exact mm_ni h1
  | 1, _ => exact mm_ni h2
  | 2, _ => exact mm_ni h3
  | 3, _ => exact mm_ni h4
theorem mm_neX {v : Nat} (hv : v < 6) : ((153 = 5 * v + 3) = False) ∧ ((154 = 5 * v + 3) = False) ∧ ((156 = 5 * v + 3) = False) ∧ ((159 = 5 * v + 3) = False) ∧ ((159 = 5 * v + 1) = False) ∧ ((159 = 5 * v) = False) :=
  ⟨eq_false (by omega), eq_false (by omega), eq_false (by omega), eq_false (by omega), eq_false (by omega), eq_false (by omega)⟩
theorem c126 {a v : Nat} (ha : mm_isW a) (hv : v < 6) : mm_C (mm_entry 126 [.ref a, .int (nI v)] (hp sc I o t)) Q ↔ Q (.inl (some (.int (mo_ends (I a) v)))) (hp sc (mm_up I a (mo_sound (I a) v)) o t) := by
  by_cases h1 : I a (5 * v) = 1
  · by_cases h : I a (5 * v + 3) + I a 153 < 10 * I a (5 * v + 2) <;> simp +decide only [mM_126, cR, cH, ha.1, ha.2, cX hv, cQ, h1, h, c126_sw, mm_neX hv, mm_up_s, mm_up_up, mm_up_n, mo_sound, mo_ends, not_false_eq_true, ↓reduceIte]
  by_cases h2 : I a (5 * v) = 2
  · by_cases h : 10 * I a (5 * v + 2) * I a 155 / 100 < I a (5 * v + 3) - I a 154 <;> simp +decide only [mM_126, cR, cH, ha.1, ha.2, cX hv, cQ, h2, h, c126_sw, mm_neX hv, mm_up_s, mm_up_up, mm_up_n, mo_sound, mo_ends, not_false_eq_true, ↓reduceIte]
  by_cases h4 : I a (5 * v) = 4
  · by_cases h : I a 156 < I a (5 * v + 3) <;> simp +decide only [mM_126, cR, cH, ha.1, ha.2, cX hv, cQ, h4, h, c126_sw, mm_neX hv, mm_up_s, mm_up_up, mm_up_n, mo_sound, mo_ends, not_false_eq_true, ↓reduceIte]
  · simp +decide only [mM_126, cR, cH, ha.1, ha.2, cX hv, cQ, h1, h2, h4, c126_df h1 h2 h4, mm_up_self, mo_sound, mo_ends, not_false_eq_true, ↓reduceIte]
end WE
