/-! the reference: the latest, what a pedal keeps -/
section WD
variable {sc : Nat × (Nat → Int32)} {I : Nat → Nat → Int32} {o : Int64} {t : Nat} {Q : mm_Q}
def mo_late (r : Nat → Int32) : Nat → Int32 → Int32
  | 0, b => b
  | n + 1, b => if (0 < r (30 + 2 * (59 - n)) ∧ mo_voice r (nI (59 - n)) = -1) ∧ (b = -1 ∨ r (30 + 2 * b.toNatClampNeg) < r (30 + 2 * (59 - n))) then mo_late r n (nI (59 - n)) else mo_late r n b
end WD
