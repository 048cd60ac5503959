/-! the reference: a tick, ticks, the book -/
section WI
variable {sc : Nat × (Nat → Int32)} {I : Nat → Nat → Int32} {o : Int64} {t : Nat} {Q : mm_Q}
theorem mo_ends_c (r : Nat → Int32) (v : Nat) : mo_ends r v = 0 ∨ mo_ends r v = 1 := by
  unfold mo_ends
  split
  · split
    · exact Or.inl rfl
    · exact Or.inr rfl
  · exact Or.inl rfl
def mo_tk : Nat → (Nat → Int32) → Int32 → Int32 × (Nat → Int32)
  | 0, r, c => (c, r)
  | n + 1, r, c => mo_tk n (mo_sound r (5 - n)) (c + mo_ends r (5 - n))
def mo_lt (r : Nat → Int32) : Int32 := mo_late r 60 (-1)
theorem mo_late_c (r : Nat → Int32) (n : Nat) (hn : n ≤ 60) : ∀ (b : Int32), (b = -1 ∨ ∃ j, j < 60 ∧ b = nI j) → mo_late r n b = -1 ∨ ∃ j, j < 60 ∧ mo_late r n b = nI j := by
  induction n with
  | zero => intro b h; exact h
  | succ n ih =>
    intro b h
    unfold mo_late
    split
    · exact ih (by omega) _ (Or.inr ⟨59 - n, by omega, rfl⟩)
    · exact ih (by omega) _ h
theorem mo_lt_c (r : Nat → Int32) : mo_lt r = -1 ∨ ∃ j, j < 60 ∧ mo_lt r = nI j := mo_late_c r 60 (by omega) _ (Or.inl rfl)
def mo_goes (r : Nat → Int32) : Prop := r 151 = 1 ∧ ¬ mo_lt r = -1 ∧ ¬ mo_free r = -1
theorem mo_goes_dec (r : Nat → Int32) : mo_goes r ∨ ¬ mo_goes r := Classical.em _
noncomputable def mo_br : Nat → (Nat → Int32) → (Nat → Int32)
  | 0, r => r
  | n + 1, r => if r 151 = 1 ∧ ¬ mo_lt r = -1 ∧ ¬ mo_free r = -1 then mo_br n (mo_start r (mo_free r).toNatClampNeg (mo_lt r).toNatClampNeg) else r
/-- how many of the first n voices are free -/
def mo_fc (r : Nat → Int32) : Nat → Nat
  | 0 => 0
  | n + 1 => mo_fc r n + (if r (5 * n) = 0 then 1 else 0)
theorem mo_start_p (r : Nat → Int32) {v k j : Nat} (hv : v < 6) (hj : j < 6) : mo_start r v k (5 * j) = if j = v then 1 else r (5 * j) := by
  unfold mo_start mm_up
  simp only [show ¬ 5 * j = 158 by omega, show ¬ 5 * j = 5 * v + 4 by omega, show ¬ 5 * j = 157 by omega, show ¬ 5 * j = 5 * v + 3 by omega, show ¬ 5 * j = 5 * v + 2 by omega, show ¬ 5 * j = 5 * v + 1 by omega, if_false]
  by_cases h : j = v
  · subst h; simp
  · simp only [h, show ¬ 5 * j = 5 * v by omega, if_false]
theorem mo_fc_start (r : Nat → Int32) {v k : Nat} (hv : v < 6) (h0 : r (5 * v) = 0) (n : Nat) : n ≤ 6 → mo_fc (mo_start r v k) n + (if v < n then 1 else 0) = mo_fc r n := by
  induction n with
  | zero => intro _; simp [mo_fc]
  | succ n ih =>
    intro hn
    have h1 := ih (by omega)
    simp only [mo_fc]
    rw [mo_start_p r hv (show n < 6 by omega)]
    by_cases e : n = v
    · subst e
      rw [if_pos rfl, if_pos h0]
      rw [if_neg (show ¬ n < n by omega)] at h1
      rw [if_pos (show n < n + 1 by omega), if_neg (show ¬ (1 : Int32) = 0 by decide)]
      omega
    · rw [if_neg e]
      by_cases e2 : v < n
      · rw [if_pos e2] at h1
        rw [if_pos (show v < n + 1 by omega)]
        omega
      · rw [if_neg e2] at h1
        rw [if_neg (show ¬ v < n + 1 by omega)]
        omega
theorem mo_fc_pos (r : Nat → Int32) {v : Nat} (h0 : r (5 * v) = 0) (n : Nat) : v < n → 0 < mo_fc r n := by
  induction n with
  | zero => intro h; omega
  | succ n ih =>
    intro h
    simp only [mo_fc]
    by_cases e : v = n
    · subst e
      rw [if_pos h0]
      omega
    · have := ih (by omega)
      omega
theorem mo_fc_le (r : Nat → Int32) (n : Nat) : mo_fc r n ≤ n := by
  induction n with
  | zero => exact Nat.le_refl _
  | succ n ih =>
    simp only [mo_fc]
    split <;> omega
theorem mo_free_c (r : Nat → Int32) : mo_free r = -1 ∨ ∃ j, j < 6 ∧ mo_free r = nI j ∧ r (5 * j) = 0 := by
  rcases sy_find_c (fun v => decide (r (5 * v) = 0)) 6 (by omega) with h | ⟨j, hj, h, h2⟩
  · exact Or.inl h
  · exact Or.inr ⟨j, hj, h, of_decide_eq_true h2⟩
theorem mo_br_stop (n : Nat) : ∀ r : Nat → Int32, mo_fc r 6 ≤ n → ¬ mo_goes (mo_br n r) := by
  induction n with
  | zero =>
    intro r h hg
    obtain ⟨-, -, h3⟩ := hg
    rcases mo_free_c r with e | ⟨j, hj, -, e⟩
    · exact h3 e
    · have := mo_fc_pos r e 6 hj
      omega
  | succ n ih =>
    intro r h
    unfold mo_br
    by_cases hg : r 151 = 1 ∧ ¬ mo_lt r = -1 ∧ ¬ mo_free r = -1
    · rw [if_pos hg]
      refine ih _ ?_
      rcases mo_free_c r with e | ⟨j, hj, e2, e⟩
      · exact absurd e hg.2.2
      · rw [e2, (cV hj).2.1]
        have := mo_fc_start r (k := (mo_lt r).toNatClampNeg) hj e 6 (by omega)
        rw [if_pos hj] at this
        omega
    · rw [if_neg hg]
      exact hg
noncomputable def mo_tick (r : Nat → Int32) : Int32 × (Nat → Int32) := ((mo_tk 6 r 0).1, mm_up (mo_br 6 (mo_tk 6 r 0).2) 162 (mo_br 6 (mo_tk 6 r 0).2 162 + 1))
noncomputable def mo_rn : Nat → (Nat → Int32) → Int32 → Int32 × (Nat → Int32)
  | 0, r, c => (c, r)
  | n + 1, r, c => mo_rn n (mo_tick r).2 (c + (mo_tick r).1)
/-- the book shifted by one row, up to the place k -/
def mo_sh (f : Nat → Int32) (k : Nat) : Nat → Int32 := fun j => if j < k then f (163 + j) else f j
theorem mo_sh_s (f : Nat → Int32) (k : Nat) : mm_up (mo_sh f k) k (mo_sh f k (163 + k)) = mo_sh f (k + 1) := by
  funext j
  unfold mm_up mo_sh
  by_cases h : j = k
  · subst h
    rw [if_pos rfl, if_neg (show ¬ 163 + j < j by omega), if_pos (show j < j + 1 by omega)]
  · rw [if_neg h]
    by_cases h2 : j < k
    · rw [if_pos h2, if_pos (show j < k + 1 by omega)]
    · rw [if_neg h2, if_neg (show ¬ j < k + 1 by omega)]
theorem mo_sh_0 (f : Nat → Int32) : mo_sh f 0 = f := by
  funext j
  unfold mo_sh
  rw [if_neg (Nat.not_lt_zero j)]
/-- a row into the book at the place p, up to its place k -/
def mo_ins (f r : Nat → Int32) (p k : Nat) : Nat → Int32 := fun j => if p ≤ j ∧ j < p + k then r (j - p) else f j
theorem mo_ins_s (f r : Nat → Int32) (p k : Nat) : mm_up (mo_ins f r p k) (p + k) (r k) = mo_ins f r p (k + 1) := by
  funext j
  unfold mm_up mo_ins
  by_cases h : j = p + k
  · subst h
    rw [if_pos rfl, if_pos (show p ≤ p + k ∧ p + k < p + (k + 1) by omega), Nat.add_sub_cancel_left]
  · rw [if_neg h]
    by_cases h2 : p ≤ j ∧ j < p + k
    · rw [if_pos h2, if_pos (show p ≤ j ∧ j < p + (k + 1) by omega)]
    · rw [if_neg h2, if_neg (show ¬ (p ≤ j ∧ j < p + (k + 1)) by omega)]
theorem mo_ins_0 (f r : Nat → Int32) (p : Nat) : mo_ins f r p 0 = f := by
  funext j
  unfold mo_ins
  rw [if_neg (show ¬ (p ≤ j ∧ j < p + 0) by omega)]
theorem cBk {k : Nat} (h : k < 2119) : mm_in (nI k) 2282 = true ∧ (nI k).toNatClampNeg = k ∧ mm_in (163 + nI k) 2282 = true ∧ (163 + nI k).toNatClampNeg = 163 + k ∧ (nI k < 2119) = True ∧ nI k + 1 = nI (k + 1) := by
  have e : (163 : Int32) + nI k = nI (163 + k) := nI_add 163 k
  have e2 : (2119 : Int32) = nI 2119 := rfl
  rw [e, e2]
  exact ⟨nJ_in (by omega) (by omega), nI_clamp (by omega), nJ_in (by omega) (by omega), nI_clamp (by omega), eq_true (nI_lt h (by omega)), nI_1 k⟩
theorem cBk' : nI 2119 = 2119 ∧ ((2119 : Int32) < 2119) = False := ⟨rfl, by decide⟩
theorem cBs {s k : Nat} (hs : s < 14) (h : k < 163) : mm_in (163 * nI s + nI k) 2282 = true ∧ (163 * nI s + nI k).toNatClampNeg = 163 * s + k := by
  have e : (163 : Int32) * nI s + nI k = nI (163 * s + k) := by
    rw [show (163 : Int32) = nI 163 from rfl, nJ_mul, nI_add]
  rw [e]
  exact ⟨nJ_in (by omega) (by omega), nI_clamp (by omega)⟩
def mo_rem (I : Nat → Nat → Int32) (s : Nat) : Nat → Nat → Int32 := if s = 14 then mm_up (mm_up I 210 (mo_ins (mo_sh (I 210) 2119) (I 207) (163 * 13) 163)) 206 (mm_up (I 206) 5 14) else mm_up (mm_up I 210 (mo_ins (I 210) (I 207) (163 * s) 163)) 206 (mm_up (I 206) 5 (nI (s + 1)))
theorem cS14 {s : Nat} (h : s < 14) : (nI s = 14) = False := by
  have h2 : ∀ s, s < 14 → ¬ nI s = 14 := by decide
  exact eq_false (h2 s h)
end WI
