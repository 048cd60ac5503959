/-! the reference: what the pedal keeps -/
section WF
variable {sc : Nat × (Nat → Int32)} {I : Nat → Nat → Int32} {o : Int64} {t : Nat} {Q : mm_Q}
def mo_in13 (x : Int32) : Bool := decide (¬ x.toInt64 < Int64.ofNat 1 ∧ ¬ Int64.ofNat 3 < x.toInt64)
def mo_held (r : Nat → Int32) (v : Nat) : Bool := mo_in13 (r (5 * v)) && decide (¬ 0 < r (30 + 2 * (r (5 * v + 1)).toNatClampNeg))
end WF
