/-! the reference: what would be, slots -/
section WL
variable {sc : Nat × (Nat → Int32)} {I : Nat → Nat → Int32} {o : Int64} {t : Nat} {Q : mm_Q}
def mo_next (r : Nat → Int32) : Int32 := if mo_free r = -1 then mo_prey r else mo_free r
def mo_dies (r : Nat → Int32) (v : Nat) : Int32 := if r (5 * v) = 0 then 0 else if (r (5 * v + 3) + r 156 - 1) / r 156 = 0 then 1 else (r (5 * v + 3) + r 156 - 1) / r 156
noncomputable def mo_look : Nat → (Nat → Int32) → Int32 → Int32 × (Nat → Int32)
  | 0, r, c => (c, r)
  | n + 1, r, c => mo_look n (mo_tick r).2 (sv_max c (mo_loud (mo_tick r).2))
theorem cKs {s k : Nat} (hs : s < 2) (h : k < 163) : mm_in (163 * nI s + nI k) 326 = true ∧ (163 * nI s + nI k).toNatClampNeg = 163 * s + k := by
  have e : (163 : Int32) * nI s + nI k = nI (163 * s + k) := by
    rw [show (163 : Int32) = nI 163 from rfl, nJ_mul, nI_add]
  rw [e]
  exact ⟨nJ_in (by omega) (by omega), nI_clamp (by omega)⟩
theorem cY {s : Nat} (hs : s < 2) : mm_in (nI s) 2 = true ∧ (nI s).toNatClampNeg = s := by
  exact ⟨nJ_in (by omega) (by omega), nI_clamp (by omega)⟩
def mo_sv (I : Nat → Nat → Int32) (s : Nat) : Nat → Nat → Int32 := mm_up (mm_up I 211 (mo_ins (I 211) (I 207) (163 * s) 163)) 212 (mm_up (I 212) s 1)
def mo_rs (I : Nat → Nat → Int32) (s : Nat) : Nat → Nat → Int32 := mm_up (mm_up I 207 (mo_out (I 207) (I 211) (163 * s) 163)) 206 (mm_up (I 206) 5 0)
end WL
