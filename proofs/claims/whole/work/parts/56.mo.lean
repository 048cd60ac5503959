/-! the reference: a copy of a row -/
section WG
variable {sc : Nat × (Nat → Int32)} {I : Nat → Nat → Int32} {o : Int64} {t : Nat} {Q : mm_Q}
theorem cR163 {k : Nat} (h : k < 163) : mm_in (nI k) 163 = true ∧ (nI k).toNatClampNeg = k ∧ (nI k < 163) = True ∧ nI k + 1 = nI (k + 1) := by
  have h2 : ∀ k, k < 163 → mm_in (nI k) 163 = true ∧ (nI k).toNatClampNeg = k ∧ nI k < 163 ∧ nI k + 1 = nI (k + 1) := by decide +kernel
  obtain ⟨h3, h4, h5, h6⟩ := h2 k h
  exact ⟨h3, h4, eq_true h5, h6⟩
theorem cR163' : nI 163 = 163 ∧ ((163 : Int32) < 163) = False := ⟨rfl, by decide⟩
/-- the places from 163 - n on -/
def mo_cp (f : Nat → Int32) : Nat → (Nat → Int32) → (Nat → Int32)
  | 0, g => g
  | n + 1, g => mo_cp f n (mm_up g (162 - n) (f (162 - n)))
theorem c111_n {a b : Nat} (ha : mm_isW a) (hb : mm_isW b) (hne : ¬ a = b) (n : Nat) : ∀ (hn : n ≤ 163) {g : Nat → Int32}, mm_C (111, mm_blk 111 1, [some (.ref a), some (.ref b), some (.int (nI (163 - n)))], [], (hp sc (mm_up I b g) o t)) Q ↔ Q (.inl none) (hp sc (mm_up I b (mo_cp (I a) n g)) o t) := by
  induction n with
  | zero =>
    intro hn g
    rw [mM_111.2.2.1]
    simp +decide only [mM_111.1, mM_111.2.1, mM_111.2.2.2, cR, cH, Nat.sub_zero, cR163', mo_cp, ↓reduceIte]
  | succ n ih =>
    intro hn g
    have hk : 162 - n < 163 := by omega
    have e1 : 163 - (n + 1) = 162 - n := by omega
    have e2 : 162 - n + 1 = 163 - n := by omega
    have e3 : ∀ f : Nat → Int32, mm_up I b f a = I a := fun f => mm_up_n _ _ hne
    rw [mM_111.2.2.1, e1]
    simp +decide only [mM_111.1, mM_111.2.1, mM_111.2.2.2, cR, cH, ha.1, ha.2, hb.1, hb.2, cR163 hk, e2, e3, ih (by omega), mm_up_s, mm_up_up, mo_cp, ↓reduceIte]
theorem c111 {a b : Nat} (ha : mm_isW a) (hb : mm_isW b) (hne : ¬ a = b) : mm_C (mm_entry 111 [.ref a, .ref b] (hp sc I o t)) Q ↔ Q (.inl none) (hp sc (mm_up I b (mo_cp (I a) 163 (I b))) o t) := by
  have e1 := c111_n (sc := sc) (o := o) (t := t) (Q := Q) (I := I) ha hb hne 163 (by omega) (g := I b)
  have e2 : nI (163 - 163) = 0 := rfl
  rw [e2, mm_up_self] at e1
  simp +decide only [mM_111.1, mM_111.2.1, mM_111.2.2.2, cR, cH, e1]
end WG
