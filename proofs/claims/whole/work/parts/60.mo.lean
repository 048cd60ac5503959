/-! the reference: its actions -/
section WK
variable {sc : Nat × (Nat → Int32)} {I : Nat → Nat → Int32} {o : Int64} {t : Nat} {Q : mm_Q}
theorem mo_rem_n (I : Nat → Nat → Int32) (s : Nat) {j : Nat} (h1 : ¬ j = 206) (h2 : ¬ j = 210) : mo_rem I s j = I j := by
  unfold mo_rem
  split
  · rw [mm_up_n _ _ h1, mm_up_n _ _ h2]
  · rw [mm_up_n _ _ h1, mm_up_n _ _ h2]
/-- behind a refusal that is none, and the book -/
def mo_rm (I : Nat → Nat → Int32) (s : Nat) : Nat → Nat → Int32 := mo_rem (rf I 0) s
theorem mo_rm_7 (I : Nat → Nat → Int32) (s : Nat) : mo_rm I s 207 = I 207 := by
  unfold mo_rm
  rw [mo_rem_n _ _ (by decide) (by decide), rf_n _ _ (by decide)]
theorem c131' {s : Nat} (hs : s ≤ 14) (h5 : I 206 5 = nI s) : mm_C (mm_entry 131 [.ref 206] (hp sc (rf I 0) o t)) Q ↔ Q (.inl none) (hp sc (mo_rm I s) o t) := c131 hs (by rw [rf_6, mm_up_n _ _ (by decide)]; exact h5)
theorem c168 {s : Nat} (hs : s ≤ 14) (h5 : I 206 5 = nI s) {k w : Int32} (hf : ∀ j, j < 60 → mo_free (mo_press (I 207) j w) = -1 → mo_pok (mo_press (I 207) j w)) : mm_C (mm_entry 168 [.ref 206, .int k, .int w] (hp sc I o t)) Q ↔ if ¬ k < 0 ∧ k < 60 then (if ¬ w < 1 ∧ ¬ 100 < w then (if 0 < I 207 (30 + 2 * k.toNatClampNeg) then Q (.inl (some (.int 0))) (hp sc (rf I 3) o t) else Q (.inl (some (.int (mo_goJ (mo_press (I 207) k.toNatClampNeg w) k.toNatClampNeg w).1))) (hp sc (mm_up (mo_rm I s) 207 (mo_goJ (mo_press (I 207) k.toNatClampNeg w) k.toNatClampNeg w).2) o t)) else Q (.inl (some (.int 0))) (hp sc (rf I 2) o t)) else Q (.inl (some (.int 0))) (hp sc (rf I 1) o t) := by
  by_cases h1 : ¬ k < 0 ∧ k < 60
  · rw [if_pos h1]
    obtain ⟨j, hj, rfl⟩ := cJ (n := 60) (by omega) h1.1 h1.2
    rw [(cK hj).2.1]
    by_cases h2 : ¬ w < 1 ∧ ¬ 100 < w
    · rw [if_pos h2]
      by_cases h3 : 0 < I 207 (30 + 2 * j)
      · rw [if_pos h3]
        simp +decide only [mM_168.1, mM_168.2.1, mM_168.2.2.1, mM_168.2.2.2.1, mM_168.2.2.2.2.1, mM_168.2.2.2.2.2.1, mM_168.2.2.2.2.2.2, cR, cH, mm_fixM, mm_fixN, c113, if_pos h1, c109, cL, if_pos h2, c114 w207 hj, h3, c108', ↓reduceIte]
      · rw [if_neg h3]
        have hc := fun (Q : mm_Q) => c121 (sc := sc) (o := o) (t := t) (Q := Q) (I := mo_rm I s) w207 hj (s := w) (by rw [mo_rm_7]; exact hf j hj)
        rw [mo_rm_7] at hc
        simp +decide only [mM_168.1, mM_168.2.1, mM_168.2.2.1, mM_168.2.2.2.1, mM_168.2.2.2.2.1, mM_168.2.2.2.2.2.1, mM_168.2.2.2.2.2.2, cR, cH, mm_fixM, mm_fixN, c113, if_pos h1, c109, cL, if_pos h2, c114 w207 hj, h3, c108', c131' hs h5, hc, ↓reduceIte]
    · rw [if_neg h2]
      simp +decide only [mM_168.1, mM_168.2.1, mM_168.2.2.1, mM_168.2.2.2.1, mM_168.2.2.2.2.1, mM_168.2.2.2.2.2.1, mM_168.2.2.2.2.2.2, cR, cH, mm_fixM, mm_fixN, c113, if_pos h1, c109, cL, if_neg h2, c108', ↓reduceIte]
  · rw [if_neg h1]
    simp +decide only [mM_168.1, mM_168.2.1, mM_168.2.2.1, mM_168.2.2.2.1, mM_168.2.2.2.2.1, mM_168.2.2.2.2.2.1, mM_168.2.2.2.2.2.2, cR, cH, mm_fixM, mm_fixN, c113, if_neg h1, c108', ↓reduceIte]
theorem c169 {s : Nat} (hs : s ≤ 14) (h5 : I 206 5 = nI s) {k : Int32} : mm_C (mm_entry 169 [.ref 206, .int k] (hp sc I o t)) Q ↔ if ¬ k < 0 ∧ k < 60 then (if 0 < I 207 (30 + 2 * k.toNatClampNeg) then Q (.inl (some (.int (mo_voice (I 207) k)))) (hp sc (mm_up (mo_rm I s) 207 (mo_lift (I 207) k.toNatClampNeg)) o t) else Q (.inl (some (.int 0))) (hp sc (rf I 2) o t)) else Q (.inl (some (.int 0))) (hp sc (rf I 1) o t) := by
  by_cases h1 : ¬ k < 0 ∧ k < 60
  · rw [if_pos h1]
    obtain ⟨j, hj, rfl⟩ := cJ (n := 60) (by omega) h1.1 h1.2
    rw [(cK hj).2.1]
    by_cases h3 : 0 < I 207 (30 + 2 * j)
    · rw [if_pos h3]
      simp +decide only [mM_169.1, mM_169.2.1, mM_169.2.2.1, mM_169.2.2.2.1, mM_169.2.2.2.2.1, mM_169.2.2.2.2.2, cR, cH, mm_fixM, mm_fixN, c113, if_pos h1, c114 w207 hj, h3, c108', c131' hs h5, c122 w207 hj, mo_rm_7, ↓reduceIte]
    · rw [if_neg h3]
      simp +decide only [mM_169.1, mM_169.2.1, mM_169.2.2.1, mM_169.2.2.2.1, mM_169.2.2.2.2.1, mM_169.2.2.2.2.2, cR, cH, mm_fixM, mm_fixN, c113, if_pos h1, c114 w207 hj, h3, c108', ↓reduceIte]
  · rw [if_neg h1]
    simp +decide only [mM_169.1, mM_169.2.1, mM_169.2.2.1, mM_169.2.2.2.1, mM_169.2.2.2.2.1, mM_169.2.2.2.2.2, cR, cH, mm_fixM, mm_fixN, c113, if_neg h1, c108', ↓reduceIte]
theorem c170 {s : Nat} (hs : s ≤ 14) (h5 : I 206 5 = nI s) {d : Int32} (hk : mo_kok (I 207)) : mm_C (mm_entry 170 [.ref 206, .int d] (hp sc I o t)) Q ↔ Q (.inl (some (.int (mo_pedal (I 207) d).1))) (hp sc (mm_up (mo_rm I s) 207 (mo_pedal (I 207) d).2) o t) := by
  have hc := fun (Q : mm_Q) => c123 (sc := sc) (o := o) (t := t) (Q := Q) (I := mo_rm I s) w207 (d := d) (by rw [mo_rm_7]; exact hk)
  rw [mo_rm_7] at hc
  simp +decide only [mM_170.1, mM_170.2, cR, cH, mm_fixM, mm_fixN, rf_def, c131' hs h5, hc, ↓reduceIte]
theorem c171 {s : Nat} (hs : s ≤ 14) (h5 : I 206 5 = nI s) {r f : Int32} : mm_C (mm_entry 171 [.ref 206, .int r, .int f] (hp sc I o t)) Q ↔ if (¬ r < 1 ∧ ¬ 1000 < r) ∧ (¬ f < 1 ∧ ¬ 1000 < f) then Q (.inl (some (.int (I 207 153)))) (hp sc (mm_up (mo_rm I s) 207 (mm_up (mm_up (I 207) 154 f) 153 r)) o t) else Q (.inl (some (.int 0))) (hp sc (rf I 1) o t) := by
  have hc := fun (Q : mm_Q) (I : Nat → Nat → Int32) => c132 (sc := sc) (o := o) (t := t) (Q := Q) (I := I) (w := 153) (v := r) (by decide)
  by_cases h1 : ¬ r < 1 ∧ ¬ 1000 < r
  · by_cases h2 : ¬ f < 1 ∧ ¬ 1000 < f
    · rw [if_pos ⟨h1, h2⟩]
      simp +decide only [mM_171.1, mM_171.2.1, mM_171.2.2.1, mM_171.2.2.2.1, mM_171.2.2.2.2, cR, cH, mm_fixM, mm_fixN, w207.1, w207.2, cQ, c109, cL, if_pos h1, if_pos h2, c108', c131' hs h5, hc, mo_rm_7, mm_up_s, mm_up_n, mm_up_up, ↓reduceIte]
    · rw [if_neg (fun h => h2 h.2)]
      simp +decide only [mM_171.1, mM_171.2.1, mM_171.2.2.1, mM_171.2.2.2.1, mM_171.2.2.2.2, cR, cH, mm_fixM, mm_fixN, c109, cL, if_pos h1, if_neg h2, c108', ↓reduceIte]
  · rw [if_neg (fun h => h1 h.1)]
    simp +decide only [mM_171.1, mM_171.2.1, mM_171.2.2.1, mM_171.2.2.2.1, mM_171.2.2.2.2, cR, cH, mm_fixM, mm_fixN, c109, cL, if_neg h1, c108', ↓reduceIte]
theorem c172 {s : Nat} (hs : s ≤ 14) (h5 : I 206 5 = nI s) {r f : Int32} : mm_C (mm_entry 172 [.ref 206, .int r, .int f] (hp sc I o t)) Q ↔ if (¬ r < 0 ∧ ¬ 100 < r) ∧ (¬ f < 1 ∧ ¬ 1000 < f) then Q (.inl (some (.int (I 207 155)))) (hp sc (mm_up (mo_rm I s) 207 (mm_up (mm_up (I 207) 156 f) 155 r)) o t) else Q (.inl (some (.int 0))) (hp sc (rf I 1) o t) := by
  have hc := fun (Q : mm_Q) (I : Nat → Nat → Int32) => c132 (sc := sc) (o := o) (t := t) (Q := Q) (I := I) (w := 155) (v := r) (by decide)
  by_cases h1 : ¬ r < 0 ∧ ¬ 100 < r
  · by_cases h2 : ¬ f < 1 ∧ ¬ 1000 < f
    · rw [if_pos ⟨h1, h2⟩]
      simp +decide only [mM_172.1, mM_172.2.1, mM_172.2.2.1, mM_172.2.2.2.1, mM_172.2.2.2.2, cR, cH, mm_fixM, mm_fixN, w207.1, w207.2, cQ, c109, cL, if_pos h1, if_pos h2, c108', c131' hs h5, hc, mo_rm_7, mm_up_s, mm_up_n, mm_up_up, ↓reduceIte]
    · rw [if_neg (fun h => h2 h.2)]
      simp +decide only [mM_172.1, mM_172.2.1, mM_172.2.2.1, mM_172.2.2.2.1, mM_172.2.2.2.2, cR, cH, mm_fixM, mm_fixN, c109, cL, if_pos h1, if_neg h2, c108', ↓reduceIte]
  · rw [if_neg (fun h => h1 h.1)]
    simp +decide only [mM_172.1, mM_172.2.1, mM_172.2.2.1, mM_172.2.2.2.1, mM_172.2.2.2.2, cR, cH, mm_fixM, mm_fixN, c109, cL, if_neg h1, c108', ↓reduceIte]
theorem c173 {s : Nat} (hs : s ≤ 14) (h5 : I 206 5 = nI s) {r : Int32} : mm_C (mm_entry 173 [.ref 206, .int r] (hp sc I o t)) Q ↔ if ¬ r < 0 ∧ ¬ 3 < r then Q (.inl (some (.int (I 207 152)))) (hp sc (mm_up (mo_rm I s) 207 (mm_up (I 207) 152 r)) o t) else Q (.inl (some (.int 0))) (hp sc (rf I 1) o t) := by
  have hc := fun (Q : mm_Q) (I : Nat → Nat → Int32) => c132 (sc := sc) (o := o) (t := t) (Q := Q) (I := I) (w := 152) (v := r) (by decide)
  by_cases h1 : ¬ r < 0 ∧ ¬ 3 < r
  · rw [if_pos h1]
    simp +decide only [mM_173.1, mM_173.2.1, mM_173.2.2.1, mM_173.2.2.2.1, mM_173.2.2.2.2, cR, cH, mm_fixM, mm_fixN, w207.1, w207.2, cQ, c109, cL, if_pos h1, c108', c131' hs h5, hc, mo_rm_7, mm_up_s, mm_up_n, mm_up_up, ↓reduceIte]
  · rw [if_neg h1]
    simp +decide only [mM_173.1, mM_173.2.1, mM_173.2.2.1, mM_173.2.2.2.1, mM_173.2.2.2.2, cR, cH, mm_fixM, mm_fixN, c109, cL, if_neg h1, c108', ↓reduceIte]
theorem c174 {s : Nat} (hs : s ≤ 14) (h5 : I 206 5 = nI s) {d : Int32} : mm_C (mm_entry 174 [.ref 206, .int d] (hp sc I o t)) Q ↔ Q (.inl (some (.int (sy_keys (fun k c => c + (if 0 < mm_up (I 207) 151 (if d = 0 then 0 else 1) (30 + 2 * k) ∧ mo_voice (mm_up (I 207) 151 (if d = 0 then 0 else 1)) (nI k) = -1 then 1 else 0)) 60 0)))) (hp sc (mm_up (mo_rm I s) 207 (mm_up (I 207) 151 (if d = 0 then 0 else 1))) o t) := by
  by_cases h : d = 0 <;> simp +decide only [mM_174.1, mM_174.2.1, mM_174.2.2.1, mM_174.2.2.2, cR, cH, mm_fixM, mm_fixN, w207.1, w207.2, cQ, rf_def, c131' hs h5, c124 w207, mo_rm_7, h, mm_up_s, mm_up_n, mm_up_up, ↓reduceIte]
theorem c175 {s : Nat} (hs : s ≤ 14) (h5 : I 206 5 = nI s) {r : Int32} : mm_C (mm_entry 175 [.ref 206, .int r] (hp sc I o t)) Q ↔ if ¬ r < 1 ∧ ¬ 99 < r then Q (.inl (some (.int (mo_rn r.toNatClampNeg (I 207) 0).1))) (hp sc (mm_up (mo_rm I s) 207 (mo_rn r.toNatClampNeg (I 207) 0).2) o t) else Q (.inl (some (.int 0))) (hp sc (rf I 1) o t) := by
  by_cases h1 : ¬ r < 1 ∧ ¬ 99 < r
  · rw [if_pos h1]
    have e1 := Int32.le_iff_toInt_le.mp (Int32.not_lt.mp h1.1)
    have e2 := Int32.le_iff_toInt_le.mp (Int32.not_lt.mp h1.2)
    have e3 : (1 : Int32).toInt = 1 := by decide
    have e4 : (99 : Int32).toInt = 99 := by decide
    have e5 : r = nI r.toInt.toNat := Int32.toInt_inj.mp (by rw [nI_toInt (by omega)]; omega)
    have e6 : r.toNatClampNeg = r.toInt.toNat := rfl
    have hc := fun (Q : mm_Q) => c128 (sc := sc) (o := o) (t := t) (Q := Q) (I := mo_rm I s) w207 (m := r.toInt.toNat) (by omega) (c := 0)
    rw [mo_rm_7, ← e5, ← e6] at hc
    simp +decide only [mM_175.1, mM_175.2.1, mM_175.2.2.1, mM_175.2.2.2.1, mM_175.2.2.2.2, cR, cH, mm_fixM, mm_fixN, c109, cL, if_pos h1, c108', c131' hs h5, hc, ↓reduceIte]
  · rw [if_neg h1]
    simp +decide only [mM_175.1, mM_175.2.1, mM_175.2.2.1, mM_175.2.2.2.1, mM_175.2.2.2.2, cR, cH, mm_fixM, mm_fixN, c109, cL, if_neg h1, c108', ↓reduceIte]
/-- a row out of a book, up to its place k -/
def mo_out (g f : Nat → Int32) (p k : Nat) : Nat → Int32 := fun j => if j < k then f (p + j) else g j
theorem mo_out_s (g f : Nat → Int32) (p k : Nat) : mm_up (mo_out g f p k) k (f (p + k)) = mo_out g f p (k + 1) := by
  funext j
  unfold mm_up mo_out
  by_cases h : j = k
  · subst h
    rw [if_pos rfl, if_pos (show j < j + 1 by omega)]
  · rw [if_neg h]
    by_cases h2 : j < k
    · rw [if_pos h2, if_pos (show j < k + 1 by omega)]
    · rw [if_neg h2, if_neg (show ¬ j < k + 1 by omega)]
theorem mo_out_0 (g f : Nat → Int32) (p : Nat) : mo_out g f p 0 = g := by
  funext j
  unfold mo_out
  rw [if_neg (Nat.not_lt_zero j)]
theorem c176_n {s : Nat} (hs : s < 14) (h5 : I 206 5 = nI s) (n : Nat) : ∀ (hn : n ≤ 163), mm_C (176, mm_blk 176 4, [some (.ref 206), some (.int (nI (163 - n)))], [], (hp sc (mm_up I 207 (mo_out (I 207) (I 210) (163 * s) (163 - n))) o t)) Q ↔ Q (.inl (some (.int (nI s)))) (hp sc (mm_up I 207 (mo_out (I 207) (I 210) (163 * s) 163)) o t) := by
  induction n with
  | zero =>
    intro hn
    rw [mM_176.2.2.2.2.2.1]
    simp +decide only [mM_176.1, mM_176.2.1, mM_176.2.2.1, mM_176.2.2.2.1, mM_176.2.2.2.2.1, mM_176.2.2.2.2.2.2, cR, cH, mm_fixM, mm_fixN, Nat.sub_zero, cR163', h5, mm_up_s, mm_up_n, mm_up_up, ↓reduceIte]
  | succ n ih =>
    intro hn
    have hk : 162 - n < 163 := by omega
    have e1 : 163 - (n + 1) = 162 - n := by omega
    have e2 : 162 - n + 1 = 163 - n := by omega
    have e3 := mo_out_s (I 207) (I 210) (163 * s) (162 - n)
    have ih1 := ih (by omega)
    rw [mM_176.2.2.2.2.2.1, e1]
    simp +decide only [mM_176.1, mM_176.2.1, mM_176.2.2.1, mM_176.2.2.2.1, mM_176.2.2.2.2.1, mM_176.2.2.2.2.2.2, cR, cH, mm_fixM, mm_fixN, cR163 hk, cBs hs hk, e2, e3, ih1, h5, mm_up_s, mm_up_n, mm_up_up, ↓reduceIte]
def mo_un (I : Nat → Nat → Int32) (s : Nat) : Nat → Nat → Int32 := mm_up (mm_up I 206 (mm_up (mm_up (I 206) 0 0) 5 (nI s))) 207 (mo_out (I 207) (I 210) (163 * s) 163)
theorem c176_0 (h5 : I 206 5 = 0) : mm_C (mm_entry 176 [.ref 206] (hp sc I o t)) Q ↔ Q (.inl (some (.int 0))) (hp sc (rf I 1) o t) := by
  simp +decide only [mM_176.1, mM_176.2.1, mM_176.2.2.1, mM_176.2.2.2.1, mM_176.2.2.2.2.1, mM_176.2.2.2.2.2.1, mM_176.2.2.2.2.2.2, cR, cH, mm_fixM, mm_fixN, h5, c108', ↓reduceIte]
theorem cP14 {s : Nat} (h : s < 14) : (nI (s + 1) = 0) = False ∧ nI (s + 1) - 1 = nI s := by
  have h2 : ∀ s, s < 14 → ¬ nI (s + 1) = 0 := by decide
  exact ⟨eq_false (h2 s h), nI_pred s⟩
theorem c176 {s : Nat} (hs : s < 14) (h5 : I 206 5 = nI (s + 1)) : mm_C (mm_entry 176 [.ref 206] (hp sc I o t)) Q ↔ Q (.inl (some (.int (nI s)))) (hp sc (mo_un I s) o t) := by
  have hc := c176_n (sc := sc) (o := o) (t := t) (Q := Q) (I := mm_up I 206 (mm_up (mm_up (I 206) 0 0) 5 (nI s))) hs (by rw [mm_up_s, mm_up_s]) 163 (Nat.le_refl _)
  have e1 : nI (163 - 163) = 0 := rfl
  rw [e1, Nat.sub_self, mo_out_0, mm_up_self] at hc
  simp +decide only [mm_up_n] at hc
  simp +decide only [mM_176.1, mM_176.2.1, mM_176.2.2.1, mM_176.2.2.2.1, mM_176.2.2.2.2.1, mM_176.2.2.2.2.2.2, cR, cH, mm_fixM, mm_fixN, h5, cP14 hs, c108', rf_n, rf_6, rf, mm_up_s, mm_up_n, mm_up_up, hc, mo_un, ↓reduceIte]
end WK
