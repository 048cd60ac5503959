/-! the reference: a voice in a tick -/
section WE
variable {sc : Nat × (Nat → Int32)} {I : Nat → Nat → Int32} {o : Int64} {t : Nat} {Q : mm_Q}
def mo_pk (r : Nat → Int32) (v : Nat) : Int32 := 10 * r (5 * v + 2)
def mo_sound (r : Nat → Int32) (v : Nat) : Nat → Int32 :=
  if r (5 * v) = 1 then (if r (5 * v + 3) + r 153 < 10 * r (5 * v + 2) then mm_up (mm_up r (5 * v + 3) (r (5 * v + 3) + r 153)) (5 * v) 1 else mm_up (mm_up r (5 * v + 3) (10 * r (5 * v + 2))) (5 * v) 2)
  else if r (5 * v) = 2 then (if 10 * r (5 * v + 2) * r 155 / 100 < r (5 * v + 3) - r 154 then mm_up (mm_up r (5 * v + 3) (r (5 * v + 3) - r 154)) (5 * v) 2 else mm_up (mm_up r (5 * v + 3) (10 * r (5 * v + 2) * r 155 / 100)) (5 * v) 3)
  else if r (5 * v) = 4 then (if r 156 < r (5 * v + 3) then mm_up r (5 * v + 3) (r (5 * v + 3) - r 156) else mm_up (mm_up (mm_up (mm_up (mm_up r (5 * v + 3) (r (5 * v + 3) - r 156)) (5 * v) 0) (5 * v + 1) (-1)) (5 * v + 3) 0) 159 (r 159 + 1))
  else r
def mo_ends (r : Nat → Int32) (v : Nat) : Int32 := if r (5 * v) = 4 then (if r 156 < r (5 * v + 3) then 0 else 1) else 0
theorem mm_neX {v : Nat} (hv : v < 6) : ((153 = 5 * v + 3) = False) ∧ ((154 = 5 * v + 3) = False) ∧ ((156 = 5 * v + 3) = False) ∧ ((159 = 5 * v + 3) = False) ∧ ((159 = 5 * v + 1) = False) ∧ ((159 = 5 * v) = False) :=
  ⟨eq_false (by omega), eq_false (by omega), eq_false (by omega), eq_false (by omega), eq_false (by omega), eq_false (by omega)⟩
end WE
