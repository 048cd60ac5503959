/-! the reference: the oldest, the waiting keys -/
section WC
variable {sc : Nat × (Nat → Int32)} {I : Nat → Nat → Int32} {o : Int64} {t : Nat} {Q : mm_Q}
def mo_old (r : Nat → Int32) (p : Int32) : Nat → Int32 → Int32
  | 0, b => b
  | n + 1, b => if ¬ r (5 * (5 - n)) < p ∧ (b = -1 ∨ r (5 * (5 - n) + 4) < r (5 * b.toNatClampNeg + 4)) then mo_old r p n (nI (5 - n)) else mo_old r p n b
end WC
