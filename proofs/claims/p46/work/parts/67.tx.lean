/-! the reference: the commands of the text -/
section WR
variable {sc : Nat × (Nat → Int32)} {I : Nat → Nat → Int32} {o : Int64} {t : Nat} {Q : mm_Q}
theorem td_g {T : Nat → Int32} {L : Nat} {lo hi : Int32} {s : Nat × Bool} (h : (td T L lo hi s).2.2 = true) : s.2 = true ∧ dg T L s.1 lo hi = true ∧ td T L lo hi s = (T s.1 - 48, s.1 + 1, true) := by
  unfold td at h ⊢
  by_cases h1 : (s.2 && dg T L s.1 lo hi) = true
  · rw [if_pos h1]
    rw [Bool.and_eq_true] at h1
    exact ⟨h1.1, h1.2, rfl⟩
  · rw [if_neg h1] at h
    cases h
theorem td_y {T : Nat → Int32} {L p : Nat} {lo hi : Int32} (h : dg T L p lo hi = true) : td T L lo hi (p, true) = (T p - 48, p + 1, true) := by
  unfold td
  rw [if_pos]
  simp [h]
theorem td_n {T : Nat → Int32} {L p : Nat} {lo hi : Int32} {g : Bool} (h : ¬ dg T L p lo hi = true) : td T L lo hi (p, g) = (lo, p, false) := by
  unfold td
  rw [if_neg]
  simp [h]
theorem td_f {T : Nat → Int32} {L p : Nat} {lo hi : Int32} : td T L lo hi (p, false) = (lo, p, false) := by
  unfold td
  rw [if_neg]
  simp
theorem tkey_g {T : Nat → Int32} {L : Nat} {s : Nat × Bool} (h : (tkey T L s).2.2 = true) : s.2 = true ∧ dg T L s.1 0 5 = true ∧ dg T L (s.1 + 1) 0 9 = true ∧ tkey T L s = (10 * (T s.1 - 48) + (T (s.1 + 1) - 48), s.1 + 2, true) := by
  unfold tkey at h ⊢
  obtain ⟨a1, a2, a3⟩ := td_g h
  obtain ⟨b1, b2, b3⟩ := td_g a1
  rw [b3] at a2 a3 ⊢
  rw [a3]
  exact ⟨b1, b2, a2, rfl⟩
theorem key_num {T : Nat → Int32} {L p : Nat} (h1 : dg T L p 0 5 = true) (h2 : dg T L (p + 1) 0 9 = true) : ∃ k, k < 60 ∧ 10 * (T p - 48) + (T (p + 1) - 48) = nI k := by
  obtain ⟨j, hj, e⟩ := dg_j h1 (Or.inl rfl) (n := 5) (by omega) rfl
  obtain ⟨i, hi, e2⟩ := dg_j h2 (Or.inl rfl) (n := 9) (by omega) rfl
  refine ⟨10 * j + i, by omega, ?_⟩
  rw [e, e2, show (10 : Int32) = nI 10 from rfl, nJ_mul, nI_add]
def ttick1 (T : Nat → Int32) (L p : Nat) : Int32 × Nat × Bool := td T L 0 9 (p + 1, true)
def ttick2 (T : Nat → Int32) (L p : Nat) : Int32 × Nat × Bool := td T L (if (ttick1 T L p).1 = 0 then 1 else 0) 9 (ttick1 T L p).2
def tk1 (T : Nat → Int32) (L p : Nat) : Int32 × Nat × Bool := tkey T L (p + 1, true)
def tk2 (T : Nat → Int32) (L p : Nat) : Int32 × Nat × Bool := tforce T L (tk1 T L p).2
def tr1 (T : Nat → Int32) (L p : Nat) : Int32 × Nat × Bool := td T L 0 3 (p + 1, true)
noncomputable def rc (T : Nat → Int32) (L p : Nat) (q : Nat → Int32) (l : Int32) : (Nat × Bool) × (Nat → Int32) × Int32 :=
  if T p = 112 then (if (tk2 T L p).2.2 = true then (if 0 < q (30 + 2 * (tk1 T L p).1.toNatClampNeg) then ((tk2 T L p).2, q, l + 1) else ((tk2 T L p).2, (mo_goJ (mo_press q (tk1 T L p).1.toNatClampNeg (tk2 T L p).1) (tk1 T L p).1.toNatClampNeg (tk2 T L p).1).2, l)) else ((tk2 T L p).2, q, l))
  else if T p = 114 then (if (tk1 T L p).2.2 = true then (if 0 < q (30 + 2 * (tk1 T L p).1.toNatClampNeg) then ((tk1 T L p).2, mo_lift q (tk1 T L p).1.toNatClampNeg, l) else ((tk1 T L p).2, q, l + 1)) else ((tk1 T L p).2, q, l))
  else if T p = 116 then (if (ttick2 T L p).2.2 = true then ((ttick2 T L p).2, (mo_rn (10 * (ttick1 T L p).1 + (ttick2 T L p).1).toNatClampNeg q 0).2, l) else ((ttick2 T L p).2, q, l))
  else if T p = 115 then (if (tr1 T L p).2.2 = true then ((tr1 T L p).2, mm_up q 152 (tr1 T L p).1, l) else ((tr1 T L p).2, q, l))
  else if T p = 100 then ((p + 1, true), (mo_pedal q 1).2, l)
  else if T p = 117 then ((p + 1, true), (mo_pedal q 0).2, l)
  else ((p, false), q, l)
theorem tforce_g {T : Nat → Int32} {L : Nat} {s : Nat × Bool} (h : (tforce T L s).2.2 = true) : s.2 = true ∧ dg T L s.1 0 1 = true ∧ dg T L (s.1 + 1) 0 (if T s.1 - 48 = 1 then 0 else 9) = true ∧ dg T L (s.1 + 1 + 1) (if (T s.1 - 48) + (T (s.1 + 1) - 48) = 0 then 1 else 0) (if T s.1 - 48 = 1 then 0 else 9) = true ∧ tforce T L s = (100 * (T s.1 - 48) + 10 * (T (s.1 + 1) - 48) + (T (s.1 + 1 + 1) - 48), s.1 + 1 + 1 + 1, true) := by
  have h' : (tf3 T L s).2.2 = true := h
  unfold tforce
  have h3 := td_g h'
  have h2 := td_g (T := T) (L := L) (lo := 0) (hi := if (tf1 T L s).1 = 1 then 0 else 9) (s := (tf1 T L s).2) h3.1
  have h1 := td_g (T := T) (L := L) (lo := 0) (hi := 1) (s := s) h2.1
  have e1 : tf1 T L s = (T s.1 - 48, s.1 + 1, true) := h1.2.2
  have e2 : tf2 T L s = (T (s.1 + 1) - 48, s.1 + 1 + 1, true) := by
    have := h2.2.2
    rw [e1] at this
    unfold tf2
    rw [e1]
    exact this
  have e3 : tf3 T L s = (T (s.1 + 1 + 1) - 48, s.1 + 1 + 1 + 1, true) := by
    have := h3.2.2
    rw [e1, e2] at this
    unfold tf3
    rw [e1, e2]
    exact this
  have d2 := h2.2.1
  have d3 := h3.2.1
  rw [e1] at d2
  rw [e1, e2] at d3
  rw [e1, e2, e3]
  exact ⟨h1.1, h1.2.1, d2, d3, rfl⟩
theorem tk2_g {T : Nat → Int32} {L p : Nat} (h : (tk2 T L p).2.2 = true) : (tk1 T L p).2.2 = true := (tforce_g h).1
theorem tk1_k {T : Nat → Int32} {L p : Nat} (h : (tk1 T L p).2.2 = true) : ∃ k, k < 60 ∧ (tk1 T L p).1 = nI k := by
  obtain ⟨-, a, b, e⟩ := tkey_g h
  obtain ⟨k, hk, e2⟩ := key_num a b
  refine ⟨k, hk, ?_⟩
  unfold tk1
  rw [e]
  exact e2
theorem ttick_k {T : Nat → Int32} {L p : Nat} (h : (ttick2 T L p).2.2 = true) : ∃ k, 1 ≤ k ∧ k ≤ 99 ∧ 10 * (ttick1 T L p).1 + (ttick2 T L p).1 = nI k := by
  have h2 := td_g (s := (ttick1 T L p).2) h
  have h1 := td_g (s := (p + 1, true)) h2.1
  have e1 : ttick1 T L p = (T (p + 1) - 48, p + 1 + 1, true) := h1.2.2
  have e2 : ttick2 T L p = (T (p + 1 + 1) - 48, p + 1 + 1 + 1, true) := by
    have := h2.2.2
    rw [e1] at this
    unfold ttick2
    rw [e1]
    exact this
  obtain ⟨j, hj, a1⟩ := dg_j h1.2.1 (Or.inl rfl) (n := 9) (by omega) rfl
  have d2 := h2.2.1
  rw [e1] at d2
  have a1 : T (p + 1) - 48 = nI j := a1
  have d2 : dg T L (p + 1 + 1) (if T (p + 1) - 48 = 0 then 1 else 0) 9 = true := d2
  rw [e1, e2]
  show ∃ k, 1 ≤ k ∧ k ≤ 99 ∧ 10 * (T (p + 1) - 48) + (T (p + 1 + 1) - 48) = nI k
  rw [a1] at d2 ⊢
  obtain ⟨i, hi, a2⟩ := dg_j d2 (by split; exact Or.inr rfl; exact Or.inl rfl) (n := 9) (by omega) rfl
  obtain ⟨-, d3, -⟩ := dg_p d2
  rw [a2] at d3 ⊢
  refine ⟨10 * j + i, ?_, by omega, by rw [show (10 : Int32) = nI 10 from rfl, nJ_mul, nI_add]⟩
  by_cases hj0 : j = 0
  · subst hj0
    rw [if_pos (show nI 0 = 0 from rfl), show (1 : Int32) = nI 1 from rfl, nJ_lt (by omega) (by omega)] at d3
    omega
  · omega
end WR
