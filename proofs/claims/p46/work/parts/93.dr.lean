/-! drawn numbers; bits of small numbers -/
section DR9
variable {sc : Nat × (Nat → Int32)} {I : Nat → Nat → Int32} {o : Int64} {t : Nat} {Q : mm_Q}
theorem and_le (a : Int32) {m : Nat} (hm : m < 2 ^ 31) : ∃ X, X ≤ m ∧ a &&& nI m = nI X := by
  refine ⟨(a.toBitVec &&& (nI m).toBitVec).toNat, ?_, ?_⟩
  · rw [BitVec.toNat_and]
    have h1 : (nI m).toBitVec.toNat = m % 2 ^ 32 := rfl
    have h2 : (nI m).toBitVec.toNat ≤ m := by rw [h1]; exact Nat.mod_le _ _
    exact Nat.le_trans Nat.and_le_right h2
  · apply Int32.toBitVec_inj.mp
    apply BitVec.eq_of_toNat_eq
    have h3 : (a &&& nI m).toBitVec = a.toBitVec &&& (nI m).toBitVec := rfl
    rw [h3]
    have h4 := (a.toBitVec &&& (nI m).toBitVec).isLt
    generalize (a.toBitVec &&& (nI m).toBitVec).toNat = n at h4
    show n = n % 2 ^ 32
    exact (Nat.mod_eq_of_lt h4).symm
theorem shr_c {n k : Nat} (hn : n < 2 ^ 31) (hk : k < 32) : ∃ z, z < 2 ^ 31 ∧ nI n >>> (nI k &&& 31) = nI z := by
  have h0 : ((nI k &&& 31).toBitVec.smod 32).toNat = k := by
    have : ∀ k : Nat, k < 32 → ((nI k &&& 31).toBitVec.smod 32).toNat = k := by decide +kernel
    exact this k hk
  refine ⟨n / 2 ^ k, Nat.lt_of_le_of_lt (Nat.div_le_self _ _) hn, ?_⟩
  apply Int32.toInt_inj.mp
  have h1 : (nI n >>> (nI k &&& 31)).toInt = (BitVec.sshiftRight (nI n).toBitVec ((nI k &&& 31).toBitVec.smod 32).toNat).toInt := rfl
  rw [h1, h0, BitVec.toInt_sshiftRight]
  have h2 : (nI n).toBitVec.toInt = (n : Int) := nI_toInt hn
  rw [h2, nI_toInt (Nat.lt_of_le_of_lt (Nat.div_le_self _ _) hn), Int.shiftRight_eq_div_pow]
  omega
def dr (sc : Nat × (Nat → Int32)) (k : Nat) : Int32 := (if k < sc.1 then sc.2 k else 15595117 * nI k + 11197) &&& 2147483647
theorem dr_X (sc : Nat × (Nat → Int32)) (k : Nat) : ∃ X, X < 2 ^ 31 ∧ dr sc k = nI X := by
  obtain ⟨X, h1, h2⟩ := and_le (if k < sc.1 then sc.2 k else 15595117 * nI k + 11197) (m := 2147483647) (by omega)
  exact ⟨X, by omega, h2⟩
theorem e106 {b : UInt32} {k : Nat} (hk : k < 2 ^ 31) (hs : sc.1 < 2 ^ 31) : mm_C (mm_entry 106 [.float b, .int (nI k)] (hp sc I o t)) Q ↔ Q (.inl (some (.int (dr sc k)))) (hp sc I o t) := by
  unfold dr
  by_cases c : k < sc.1
  · have c1 := eq_true (nI_lt c hs)
    simp +decide only [mM_106.1, mM_106.2.1, mM_106.2.2.1, mM_106.2.2.2, cR, cH, cH61 (nJ_in c hs), nI_clamp hk, c, c1, and_true, true_and, and_false, false_and, or_true, true_or, or_false, false_or, not_true_eq_false, not_false_eq_true, decide_eq_true_eq, decide_true, decide_false, Bool.not_true, Bool.not_false, Bool.and_true, Bool.true_and, Bool.and_false, Bool.false_and, Bool.false_eq_true, eq_self, ↓reduceIte]
  · have c1 := eq_false (nI_nlt (Nat.le_of_not_lt c) hk)
    simp +decide only [mM_106.1, mM_106.2.1, mM_106.2.2.1, mM_106.2.2.2, cR, cH, c, c1, and_true, true_and, and_false, false_and, or_true, true_or, or_false, false_or, not_true_eq_false, not_false_eq_true, decide_eq_true_eq, decide_true, decide_false, Bool.not_true, Bool.not_false, Bool.and_true, Bool.true_and, Bool.and_false, Bool.false_and, Bool.false_eq_true, eq_self, ↓reduceIte]
end DR9
