/-! the reference: the whole text -/
section WS
variable {sc : Nat × (Nat → Int32)} {I : Nat → Nat → Int32} {o : Int64} {t : Nat} {Q : mm_Q}
theorem mm_inv_rc {T q : Nat → Int32} {L p : Nat} {l : Int32} (h : mo_inv q) : mo_inv (rc T L p q l).2.1 := by
  unfold rc
  split
  · split
    · next hg =>
      obtain ⟨k, hk, ek⟩ := tk1_k (tk2_g hg)
      rw [ek, (cK hk).2.1]
      split
      · exact h
      · exact mo_inv_go (mo_inv_press h) hk
    · exact h
  · split
    · split
      · next hg =>
        obtain ⟨k, hk, ek⟩ := tk1_k hg
        rw [ek, (cK hk).2.1]
        split
        · exact mo_inv_lift h hk
        · exact h
      · exact h
    · split
      · split
        · exact mo_inv_rn _ h
        · exact h
      · split
        · split
          · exact mo_inv_up h (mo_far (by omega))
          · exact h
        · split
          · exact mo_inv_pedal h _
          · split
            · exact mo_inv_pedal h _
            · exact h
theorem tkey_le (T : Nat → Int32) (L : Nat) (s : Nat × Bool) : (tkey T L s).2.1 ≤ s.1 + 2 := by
  have a1 := td_le T L 0 5 s
  have a2 := td_le T L 0 9 (td T L 0 5 s).2
  have : (tkey T L s).2.1 = (td T L 0 9 (td T L 0 5 s).2).2.1 := rfl
  omega
theorem tforce_le (T : Nat → Int32) (L : Nat) (s : Nat × Bool) : (tforce T L s).2.1 ≤ s.1 + 3 := by
  have a1 : (tf1 T L s).2.1 ≤ s.1 + 1 := td_le _ _ _ _ _
  have a2 : (tf2 T L s).2.1 ≤ (tf1 T L s).2.1 + 1 := td_le _ _ _ _ _
  have a3 : (tf3 T L s).2.1 ≤ (tf2 T L s).2.1 + 1 := td_le _ _ _ _ _
  have : (tforce T L s).2.1 = (tf3 T L s).2.1 := rfl
  omega
theorem rc_le (T q : Nat → Int32) (L p : Nat) (l : Int32) : (rc T L p q l).1.1 ≤ p + 6 := by
  have k1 : (tk1 T L p).2.1 ≤ p + 1 + 2 := tkey_le T L (p + 1, true)
  have k2 : (tk2 T L p).2.1 ≤ (tk1 T L p).2.1 + 3 := tforce_le T L _
  have k3 : (ttick1 T L p).2.1 ≤ p + 1 + 1 := td_le _ _ _ _ _
  have k4 : (ttick2 T L p).2.1 ≤ (ttick1 T L p).2.1 + 1 := td_le _ _ _ _ _
  have k5 : (tr1 T L p).2.1 ≤ p + 1 + 1 := td_le _ _ _ _ _
  unfold rc
  split
  · split
    · split
      · show (tk2 T L p).2.1 ≤ _; omega
      · show (tk2 T L p).2.1 ≤ _; omega
    · show (tk2 T L p).2.1 ≤ _; omega
  · split
    · split
      · split
        · show (tk1 T L p).2.1 ≤ _; omega
        · show (tk1 T L p).2.1 ≤ _; omega
      · show (tk1 T L p).2.1 ≤ _; omega
    · split
      · split
        · show (ttick2 T L p).2.1 ≤ _; omega
        · show (ttick2 T L p).2.1 ≤ _; omega
      · split
        · split
          · show (tr1 T L p).2.1 ≤ _; omega
          · show (tr1 T L p).2.1 ≤ _; omega
        · split
          · show p + 1 ≤ _; omega
          · split
            · show p + 1 ≤ _; omega
            · show p ≤ _; omega
theorem td_p {T : Nat → Int32} {L : Nat} {lo hi : Int32} {s : Nat × Bool} (h : (td T L lo hi s).2.2 = true) : (td T L lo hi s).2.1 = s.1 + 1 := by rw [(td_g h).2.2]
theorem rc_adv {T q : Nat → Int32} {L p : Nat} {l : Int32} (h : (rc T L p q l).1.2 = true) : p < (rc T L p q l).1.1 := by
  have k2 : (tk2 T L p).2.2 = true → p < (tk2 T L p).2.1 := fun h => by
    have e := (tforce_g (T := T) (L := L) (s := (tk1 T L p).2) h).2.2.2.2
    have e' := (tkey_g (T := T) (L := L) (s := (p + 1, true)) (tk2_g h)).2.2.2
    have e1 : (tk2 T L p).2.1 = (tk1 T L p).2.1 + 1 + 1 + 1 := by unfold tk2; rw [e]
    have e2 : (tk1 T L p).2.1 = p + 1 + 2 := by unfold tk1; rw [e']
    omega
  have k1 : (tk1 T L p).2.2 = true → p < (tk1 T L p).2.1 := fun h => by
    have e' := (tkey_g (T := T) (L := L) (s := (p + 1, true)) h).2.2.2
    have e2 : (tk1 T L p).2.1 = p + 1 + 2 := by unfold tk1; rw [e']
    omega
  have k3 : (ttick2 T L p).2.2 = true → p < (ttick2 T L p).2.1 := fun h => by
    have e1 : (ttick2 T L p).2.1 = (ttick1 T L p).2.1 + 1 := td_p h
    have e2 : (ttick1 T L p).2.1 = p + 1 + 1 := td_p (T := T) (L := L) (lo := 0) (hi := 9) (s := (p + 1, true)) (td_g (s := (ttick1 T L p).2) h).1
    omega
  have k5 : (tr1 T L p).2.2 = true → p < (tr1 T L p).2.1 := fun h => by
    have e1 : (tr1 T L p).2.1 = p + 1 + 1 := td_p h
    omega
  unfold rc at h ⊢
  by_cases h1 : T p = 112
  · simp only [if_pos h1] at h ⊢
    by_cases h2 : (tk2 T L p).2.2 = true
    · simp only [if_pos h2] at h ⊢
      by_cases h3 : 0 < q (30 + 2 * (tk1 T L p).1.toNatClampNeg)
      · simp only [if_pos h3] at h ⊢; exact k2 h2
      · simp only [if_neg h3] at h ⊢; exact k2 h2
    · simp only [if_neg h2] at h ⊢; exact absurd h h2
  simp only [if_neg h1] at h ⊢
  by_cases h1 : T p = 114
  · simp only [if_pos h1] at h ⊢
    by_cases h2 : (tk1 T L p).2.2 = true
    · simp only [if_pos h2] at h ⊢
      by_cases h3 : 0 < q (30 + 2 * (tk1 T L p).1.toNatClampNeg)
      · simp only [if_pos h3] at h ⊢; exact k1 h2
      · simp only [if_neg h3] at h ⊢; exact k1 h2
    · simp only [if_neg h2] at h ⊢; exact absurd h h2
  simp only [if_neg h1] at h ⊢
  by_cases h1 : T p = 116
  · simp only [if_pos h1] at h ⊢
    by_cases h2 : (ttick2 T L p).2.2 = true
    · simp only [if_pos h2] at h ⊢; exact k3 h2
    · simp only [if_neg h2] at h ⊢; exact absurd h h2
  simp only [if_neg h1] at h ⊢
  by_cases h1 : T p = 115
  · simp only [if_pos h1] at h ⊢
    by_cases h2 : (tr1 T L p).2.2 = true
    · simp only [if_pos h2] at h ⊢; exact k5 h2
    · simp only [if_neg h2] at h ⊢; exact absurd h h2
  simp only [if_neg h1] at h ⊢
  by_cases h1 : T p = 100
  · simp only [if_pos h1] at h ⊢; exact Nat.lt_succ_self p
  simp only [if_neg h1] at h ⊢
  by_cases h1 : T p = 117
  · simp only [if_pos h1] at h ⊢; exact Nat.lt_succ_self p
  simp only [if_neg h1] at h ⊢
  cases h
/-- the reader: its place and word, its row, what it left out -/
noncomputable def ra (T : Nat → Int32) (L : Nat) : Nat → (Nat × Bool) × (Nat → Int32) × Int32 → (Nat × Bool) × (Nat → Int32) × Int32
  | 0, s => s
  | n + 1, s => if s.1.2 = true ∧ s.1.1 < L then ra T L n (rc T L s.1.1 s.2.1 s.2.2) else s
def rd_h (I : Nat → Nat → Int32) (f : Nat → Int32) (s : (Nat × Bool) × (Nat → Int32) × Int32) : Nat → Nat → Int32 := mm_up (mm_up I 209 s.2.1) 206 (tx f (nI s.1.1) (gb s.1.2) s.2.2)
def rd_0 (T : Nat → Int32) (L : Nat) (q : Nat → Int32) : (Nat × Bool) × (Nat → Int32) × Int32 := if 0 < L ∧ T 0 = 86 then ((1, true), q, 0) else ((0, false), q, 0)
noncomputable def rd_all (T : Nat → Int32) (L : Nat) (q : Nat → Int32) : (Nat × Bool) × (Nat → Int32) × Int32 := ra T L 130 (rd_0 T L q)
def mo_fr (r : Nat → Int32) : Nat → Int32 := mo_kn 6 (mo_z 163 r)
theorem mo_z_eq (n : Nat) (hn : n ≤ 163) : ∀ (g : Nat → Int32) (j : Nat), mo_z n g j = if 163 - n ≤ j ∧ j < 163 then 0 else g j := by
  induction n with
  | zero =>
    intro g j
    rw [if_neg (show ¬ (163 - 0 ≤ j ∧ j < 163) by omega)]
    rfl
  | succ n ih =>
    intro g j
    unfold mo_z
    rw [ih (by omega)]
    by_cases h : 163 - n ≤ j ∧ j < 163
    · rw [if_pos h, if_pos (show 163 - (n + 1) ≤ j ∧ j < 163 by omega)]
    · rw [if_neg h]
      by_cases h2 : j = 162 - n
      · subst h2
        rw [mm_up_s, if_pos (show 163 - (n + 1) ≤ 162 - n ∧ 162 - n < 163 by omega)]
      · rw [mm_up_n _ _ h2, if_neg (show ¬ (163 - (n + 1) ≤ j ∧ j < 163) by omega)]
/-- a new row, by its places -/
theorem mo_fr_eq (r : Nat → Int32) : ∀ j, j < 163 → mo_fr r j = if j = 153 then 200 else if j = 154 then 100 else if j = 155 then 60 else if j = 156 then 50 else if j < 30 ∧ j % 5 = 1 then -1 else 0 := by
  intro j hj
  have hz : mo_z 163 r j = 0 := by
    rw [mo_z_eq 163 (Nat.le_refl _), if_pos (by omega)]
  unfold mo_fr
  simp only [mo_kn]
  unfold mm_up
  rw [hz]
  by_cases h1 : j = 156
  · subst h1; rfl
  by_cases h2 : j = 155
  · subst h2; rfl
  by_cases h3 : j = 154
  · subst h3; rfl
  by_cases h4 : j = 153
  · subst h4; rfl
  rw [if_neg h1, if_neg h2, if_neg h3, if_neg h4, if_neg h4, if_neg h3, if_neg h2, if_neg h1]
  by_cases h5 : j < 30 ∧ j % 5 = 1
  · rw [if_pos h5]
    have : j = 1 ∨ j = 6 ∨ j = 11 ∨ j = 16 ∨ j = 21 ∨ j = 26 := by omega
    rcases this with rfl | rfl | rfl | rfl | rfl | rfl <;> rfl
  · rw [if_neg h5]
    have a : ∀ i, i < 6 → ¬ j = 5 * i + 1 := fun i hi => by omega
    have a0 := a 0 (by omega)
    have a1 := a 1 (by omega)
    have a2 := a 2 (by omega)
    have a3 := a 3 (by omega)
    have a4 := a 4 (by omega)
    have a5 := a 5 (by omega)
    rw [if_neg a5, if_neg a4, if_neg a3, if_neg a2, if_neg a1, if_neg a0]
theorem mo_inv_fr (r : Nat → Int32) : mo_inv (mo_fr r) := by
  intro v hv
  refine Or.inl ?_
  rw [mo_fr_eq r (5 * v) (by omega), if_neg (by omega), if_neg (by omega), if_neg (by omega), if_neg (by omega), if_neg (by omega)]
theorem txd (f : Nat → Int32) (p g l : Int32) : mm_up (mm_up (mm_up f 10 p) 11 g) 12 l = tx f p g l := rfl
/-- behind a load -/
def mo_ld (J : Nat → Nat → Int32) : Nat → Nat → Int32 := mm_up (mm_up (mm_up J 206 (mm_up (mm_up (J 206) 0 0) 5 0)) 207 (mo_cp (J 209) 163 (J 207))) 212 (mm_up (mm_up (J 212) 0 0) 1 0)
end WS
