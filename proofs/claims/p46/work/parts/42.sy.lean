/-! the synth: changes -/
section VQ
variable {sc : Nat × (Nat → Int32)} {I : Nat → Nat → Int32} {o : Int64} {t : Nat} {Q : mm_Q}
theorem cV6 {k : Nat} (h : k < 6) : (nI k < 6) = True ∧ nI k + 1 = nI (k + 1) := by
  have h2 : ∀ k, k < 6 → nI k < 6 ∧ nI k + 1 = nI (k + 1) := by decide +kernel
  exact ⟨eq_true (h2 k h).1, (h2 k h).2⟩
theorem cV66 : nI 6 = 6 ∧ ((6 : Int32) < 6) = False := ⟨rfl, by decide⟩
theorem mm_neA {a : Nat} : ((a + 2 = a) = False) ∧ ((a + 3 = a) = False) ∧ ((a + 4 = a) = False) ∧ ((a = a + 2) = False) ∧ ((a = a + 3) = False) ∧ ((a = a + 4) = False) ∧ ((a + 4 = a + 3) = False) ∧ ((a + 3 = a + 4) = False) ∧ ((a + 2 = a + 3) = False) ∧ ((a + 2 = a + 4) = False) ∧ ((a + 3 = a + 2) = False) ∧ ((a + 4 = a + 2) = False) :=
  ⟨eq_false (by omega), eq_false (by omega), eq_false (by omega), eq_false (by omega), eq_false (by omega), eq_false (by omega), eq_false (by omega), eq_false (by omega), eq_false (by omega), eq_false (by omega), eq_false (by omega), eq_false (by omega)⟩
theorem mm_neV {a k : Nat} : ((a + (5 + k) = a) = False) ∧ ((a = a + (5 + k)) = False) ∧ ((a + (5 + k) = a + 2) = False) ∧ ((a + 2 = a + (5 + k)) = False) ∧ ((a + (5 + k) = a + 3) = False) ∧ ((a + 3 = a + (5 + k)) = False) ∧ ((a + (5 + k) = a + 4) = False) ∧ ((a + 4 = a + (5 + k)) = False) :=
  ⟨eq_false (by omega), eq_false (by omega), eq_false (by omega), eq_false (by omega), eq_false (by omega), eq_false (by omega), eq_false (by omega), eq_false (by omega)⟩
theorem sy_find_c (P : Nat → Bool) (n : Nat) (hn : n ≤ 6) : sy_find P n = -1 ∨ ∃ j, j < 6 ∧ sy_find P n = nI j ∧ P j = true := by
  induction n with
  | zero => exact Or.inl rfl
  | succ n ih =>
    by_cases h : P (5 - n) = true
    · exact Or.inr ⟨5 - n, by omega, by simp only [sy_find, h, if_true], h⟩
    · have e : sy_find P (n + 1) = sy_find P n := by simp only [sy_find, h]; rfl
      rw [e]
      exact ih (by omega)
theorem sy_old_c (P : Nat → Bool) (w : Nat → Int32) (n : Nat) (hn : n ≤ 6) : ∀ (b x : Int32), (b = -1 ∨ ∃ j, j < 6 ∧ b = nI j) → sy_old P w n b x = -1 ∨ ∃ j, j < 6 ∧ sy_old P w n b x = nI j := by
  induction n with
  | zero => intro b x h; exact h
  | succ n ih =>
    intro b x h
    by_cases hc : P (5 - n) = true ∧ (b = -1 ∨ w (5 - n) < x)
    · rw [show sy_old P w (n + 1) b x = sy_old P w n (nI (5 - n)) (w (5 - n)) from if_pos hc]
      exact ih (by omega) _ _ (Or.inr ⟨5 - n, by omega, rfl⟩)
    · rw [show sy_old P w (n + 1) b x = sy_old P w n b x from if_neg hc]
      exact ih (by omega) _ _ h
theorem sy_quiet_c (l w : Nat → Int32) (n : Nat) (hn : n ≤ 6) : ∀ b, b < 6 → sy_quiet l w n b < 6 := by
  induction n with
  | zero => intro b h; exact h
  | succ n ih =>
    intro b h
    simp only [sy_quiet]
    split
    · exact ih (by omega) _ (by omega)
    · exact ih (by omega) _ h
theorem sy_own_c (I : Nat → Nat → Int32) (a : Nat) (k : Int32) : sy_own I a k = -1 ∨ ∃ j, j < 6 ∧ sy_own I a k = nI j := by
  rcases sy_find_c (fun v => decide (¬ k = -1 ∧ I (a + (5 + v)) 0 = k)) 6 (by omega) with h | ⟨j, h1, h2, -⟩
  · exact Or.inl h
  · exact Or.inr ⟨j, h1, h2⟩
theorem sy_fr_c (I : Nat → Nat → Int32) (a : Nat) : sy_fr I a = -1 ∨ ∃ j, j < 6 ∧ sy_fr I a = nI j := by
  rcases sy_find_c (fun v => decide (I (a + (5 + v)) 1 = 0)) 6 (by omega) with h | ⟨j, h1, h2, -⟩
  · exact Or.inl h
  · exact Or.inr ⟨j, h1, h2⟩
theorem sy_o1_c (I : Nat → Nat → Int32) (a : Nat) : sy_o1 I a = -1 ∨ ∃ j, j < 6 ∧ sy_o1 I a = nI j := sy_old_c _ _ 6 (by omega) _ _ (Or.inl rfl)
theorem sy_o4_c (I : Nat → Nat → Int32) (a : Nat) : sy_o4 I a = -1 ∨ ∃ j, j < 6 ∧ sy_o4 I a = nI j := sy_old_c _ _ 6 (by omega) _ _ (Or.inl rfl)
theorem sy_steal_c (I : Nat → Nat → Int32) (a : Nat) : sy_steal I a = -1 ∨ ∃ j, j < 6 ∧ sy_steal I a = nI j := by
  unfold sy_steal
  split
  · exact Or.inr ⟨_, sy_quiet_c _ _ 5 (by omega) 0 (by omega), rfl⟩
  split
  · split
    · exact sy_o1_c I a
    · exact sy_o4_c I a
  split
  · exact sy_o4_c I a
  · exact sy_o1_c I a
def sy_lt (I : Nat → Nat → Int32) (a : Nat) : Int32 := sy_late (fun k => decide (0 < I (a + 3) k ∧ sy_own I a (nI k) = -1)) (I (a + 4)) 60 (-1) 0
theorem c33' {a : Nat} (ha : mm_isS a) : mm_C (mm_entry 33 [.ref a] (hp sc I o t)) Q ↔ Q (.inl (some (.int (sy_lt I a)))) (hp sc I o t) := c33 ha
theorem sy_dn_in {f : Nat → Int32} {k : Int32} (h : sy_dn f k = true) : mm_in k 60 = true := by
  simp only [sy_dn, Bool.and_eq_true, Bool.not_eq_true', decide_eq_true_eq, decide_eq_false_iff_not] at h
  exact mm_in60 h.1 h.2.1
/-- a note begins -/
def sy_begin (I : Nat → Nat → Int32) (a b : Nat) (k : Int32) : Nat → Nat → Int32 := if sy_dn (I (a + 3)) k = true then mm_up (mm_up I a (mm_up (mm_up (I a) 9 (I a 9 + 1)) 4 (I a 4 + 1))) b (sv_begin (I b) k (I (a + 3) k.toNatClampNeg) (I a 4 + 1)) else I
theorem c38 {a j : Nat} (ha : mm_isS a) (hj : j < 6) {k : Int32} : mm_C (mm_entry 38 [.ref a, .ref (a + (5 + j)), .int k] (hp sc I o t)) Q ↔ Q (.inl none) (hp sc (sy_begin I a (a + (5 + j)) k) o t) := by
  by_cases h : sy_dn (I (a + 3)) k = true
  · simp +decide only [mM_38, cR, cH, mm_syn ha, mm_synV ha hj, c30 ha, c47 (mm_synV ha hj).1, sy_begin, h, sy_dn_in h, cB0, cB1, mm_up_s, mm_up_up, mm_up_n, mm_neA, mm_neV, not_false_eq_true, not_true_eq_false, ↓reduceIte]
  · simp +decide only [mM_38, cR, cH, mm_syn ha, mm_synV ha hj, c30 ha, sy_begin, h, cB0, cB1, not_false_eq_true, not_true_eq_false, ↓reduceIte]
def sy_stealFor (I : Nat → Nat → Int32) (a : Nat) (k : Int32) : Int32 × (Nat → Nat → Int32) := if sy_steal I a = -1 then (-1, mm_up I a (mm_up (I a) 12 (I a 12 + 1))) else (sy_steal I a, sy_begin (mm_up I a (mm_up (I a) 11 (I a 11 + 1))) a (a + (5 + (sy_steal I a).toNatClampNeg)) k)
theorem c37 {a : Nat} (ha : mm_isS a) {k : Int32} : mm_C (mm_entry 37 [.ref a, .int k] (hp sc I o t)) Q ↔ Q (.inl (some (.int (sy_stealFor I a k).1))) (hp sc (sy_stealFor I a k).2 o t) := by
  rcases sy_steal_c I a with h | ⟨j, hj, h⟩
  · simp +decide only [mM_37, cR, cH, mm_syn ha, c27 ha, sy_stealFor, h, mm_up_s, mm_up_up, ↓reduceIte]
  · simp +decide only [mM_37, cR, cH, mm_syn ha, mm_synV ha hj, cV hj, c27 ha, c38 ha hj, sy_stealFor, h, mm_up_s, mm_up_up, ↓reduceIte]
/-- a press, ahead of its voice -/
def sy_press (I : Nat → Nat → Int32) (a : Nat) (k s : Int32) : Nat → Nat → Int32 := mm_up (mm_up (mm_up I (a + 3) (mm_up (I (a + 3)) k.toNatClampNeg s)) a (mm_up (I a) 4 (I a 4 + 1))) (a + 4) (mm_up (I (a + 4)) k.toNatClampNeg (I a 4 + 1))
def sy_strikeJ (J : Nat → Nat → Int32) (a : Nat) (k s : Int32) : Int32 × (Nat → Nat → Int32) :=
  if sy_own J a k = -1 then (if sy_fr J a = -1 then sy_stealFor J a k else (sy_fr J a, sy_begin J a (a + (5 + (sy_fr J a).toNatClampNeg)) k))
  else (sy_own J a k, mm_up J (a + (5 + (sy_own J a k).toNatClampNeg)) (sv_anew (J (a + (5 + (sy_own J a k).toNatClampNeg))) s (J a 4)))
def sy_strike (I : Nat → Nat → Int32) (a : Nat) (k s : Int32) : Int32 × (Nat → Nat → Int32) := sy_strikeJ (sy_press I a k s) a k s
theorem c36 {a : Nat} (ha : mm_isS a) {k s : Int32} (h1 : ¬ k < 0) (h2 : k < 60) : mm_C (mm_entry 36 [.ref a, .int k, .int s] (hp sc I o t)) Q ↔ Q (.inl (some (.int (sy_strike I a k s).1))) (hp sc (sy_strike I a k s).2 o t) := by
  have h3 := mm_in60 h1 h2
  unfold sy_strike
  obtain ⟨J, hJ⟩ : ∃ J, sy_press I a k s = J := ⟨_, rfl⟩
  have hJ2 : mm_up (mm_up (mm_up I (a + 3) (mm_up (I (a + 3)) k.toNatClampNeg s)) a (mm_up (I a) 4 (I a 4 + 1))) (a + 4) (mm_up (I (a + 4)) k.toNatClampNeg (I a 4 + 1)) = J := hJ
  rw [hJ]
  rcases sy_own_c J a k with h | ⟨j, hj, h⟩
  · rcases sy_fr_c J a with h4 | ⟨i, hi, h4⟩
    · simp +decide only [mM_36, cR, cH, mm_syn ha, h1, h2, h3, mm_up_s, mm_up_up, mm_up_n, mm_neA, not_false_eq_true, hJ2, c23' ha, c24' ha, c37 ha, h, h4, sy_strikeJ, ↓reduceIte]
    · simp +decide only [mM_36, cR, cH, mm_syn ha, mm_synV ha hi, cV hi, h1, h2, h3, mm_up_s, mm_up_up, mm_up_n, mm_neA, not_false_eq_true, hJ2, c23' ha, c24' ha, c38 ha hi, h, h4, sy_strikeJ, ↓reduceIte]
  · simp +decide only [mM_36, cR, cH, mm_syn ha, mm_synV ha hj, cV hj, h1, h2, h3, mm_up_s, mm_up_up, mm_up_n, mm_neA, not_false_eq_true, hJ2, c23' ha, c48 (mm_synV ha hj).1, h, sy_strikeJ, ↓reduceIte]
theorem c34 {a : Nat} (ha : mm_isS a) {k s : Int32} (h1 : ¬ k < 0) (h2 : k < 60) : mm_C (mm_entry 34 [.ref a, .int k, .int s] (hp sc I o t)) Q ↔ Q (.inl (some (.int (if sy_dn (I (a + 3)) k = true then 0 else 1)))) (hp sc (if sy_dn (I (a + 3)) k = true then I else (sy_strike I a k s).2) o t) := by
  by_cases h : sy_dn (I (a + 3)) k = true <;> simp +decide only [mM_34, cR, cH, mm_syn ha, c30 ha, c36 ha h1 h2, h, cB0, cB1, not_false_eq_true, not_true_eq_false, ↓reduceIte]
def sy_rel (I : Nat → Nat → Int32) (a : Nat) (k : Int32) : Nat → Nat → Int32 := mm_up I (a + 3) (mm_up (I (a + 3)) k.toNatClampNeg 0)
def sy_releaseJ (J : Nat → Nat → Int32) (a : Nat) (k : Int32) : Int32 × (Nat → Nat → Int32) :=
  if ¬ sy_own J a k = -1 ∧ J a 5 = 0 then (sy_own J a k, mm_up J (a + (5 + (sy_own J a k).toNatClampNeg)) (mm_up (J (a + (5 + (sy_own J a k).toNatClampNeg))) 1 4)) else (sy_own J a k, J)
def sy_release (I : Nat → Nat → Int32) (a : Nat) (k : Int32) : Int32 × (Nat → Nat → Int32) := sy_releaseJ (sy_rel I a k) a k
theorem c39 {a : Nat} (ha : mm_isS a) {k : Int32} (h1 : ¬ k < 0) (h2 : k < 60) : mm_C (mm_entry 39 [.ref a, .int k] (hp sc I o t)) Q ↔ Q (.inl (some (.int (sy_release I a k).1))) (hp sc (sy_release I a k).2 o t) := by
  have h3 := mm_in60 h1 h2
  unfold sy_release
  obtain ⟨J, hJ⟩ : ∃ J, sy_rel I a k = J := ⟨_, rfl⟩
  have hJ2 : mm_up I (a + 3) (mm_up (I (a + 3)) k.toNatClampNeg 0) = J := hJ
  rw [hJ]
  rcases sy_own_c J a k with h | ⟨j, hj, h⟩
  · simp +decide only [mM_39, cR, cH, mm_syn ha, h1, h2, h3, hJ2, c23' ha, h, sy_releaseJ, and_true, true_and, and_false, false_and, or_true, true_or, or_false, false_or, not_true_eq_false, not_false_eq_true, decide_eq_true_eq, decide_true, decide_false, Bool.not_true, Bool.not_false, Bool.and_true, Bool.true_and, Bool.and_false, Bool.false_and, Bool.false_eq_true, eq_self, ↓reduceIte]
  · by_cases h4 : J a 5 = 0 <;> simp +decide only [mM_39, cR, cH, mm_syn ha, mm_synV ha hj, cV hj, h1, h2, h3, hJ2, c23' ha, h, h4, sy_releaseJ, and_true, true_and, and_false, false_and, or_true, true_or, or_false, false_or, not_true_eq_false, not_false_eq_true, decide_eq_true_eq, decide_true, decide_false, Bool.not_true, Bool.not_false, Bool.and_true, Bool.true_and, Bool.and_false, Bool.false_and, Bool.false_eq_true, eq_self, ↓reduceIte]
theorem c35 {a : Nat} (ha : mm_isS a) {k : Int32} (h1 : ¬ k < 0) (h2 : k < 60) : mm_C (mm_entry 35 [.ref a, .int k] (hp sc I o t)) Q ↔ Q (.inl (some (.int (if sy_dn (I (a + 3)) k = true then 1 else 0)))) (hp sc (if sy_dn (I (a + 3)) k = true then (sy_release I a k).2 else I) o t) := by
  by_cases h : sy_dn (I (a + 3)) k = true <;> simp +decide only [mM_35, cR, cH, mm_syn ha, c30 ha, c39 ha h1 h2, h, cB0, cB1, not_false_eq_true, not_true_eq_false, ↓reduceIte]
def sy_pd (a : Nat) : Nat → (Nat → Nat → Int32) → Int32 → Int32 × (Nat → Nat → Int32)
  | 0, I, c => (c, I)
  | n + 1, I, c => if ¬ I (a + (5 + (5 - n))) 1 = 0 ∧ ¬ I (a + (5 + (5 - n))) 1 = 4 ∧ ¬ sy_dn (I (a + 3)) (I (a + (5 + (5 - n))) 0) = true then sy_pd a n (mm_up I (a + (5 + (5 - n))) (mm_up (I (a + (5 + (5 - n)))) 1 4)) (c + 1) else sy_pd a n I c
theorem c40_n {a : Nat} (ha : mm_isS a) {d : Int32} (n : Nat) : ∀ (hn : n ≤ 6) {I : Nat → Nat → Int32} {c : Int32}, mm_C (40, mm_blk 40 2, [some (.ref a), some (.int d), some (.int c), some (.int (nI (6 - n)))], [], (hp sc I o t)) Q ↔ Q (.inl (some (.int (sy_pd a n I c).1))) (hp sc (sy_pd a n I c).2 o t) := by
  induction n with
  | zero =>
    intro hn I c
    rw [mM_40.2.2.2.1]
    simp +decide only [mM_40.1, mM_40.2.1, mM_40.2.2.1, mM_40.2.2.2.2.1, mM_40.2.2.2.2.2, cR, cH, Nat.sub_zero, cV66, sy_pd, ↓reduceIte]
  | succ n ih =>
    intro hn I c
    have hk : 5 - n < 6 := by omega
    have e1 : 6 - (n + 1) = 5 - n := by omega
    have e2 : 5 - n + 1 = 6 - n := by omega
    rw [mM_40.2.2.2.1, e1]
    by_cases h : ¬ I (a + (5 + (5 - n))) 1 = 0 ∧ ¬ I (a + (5 + (5 - n))) 1 = 4 ∧ ¬ sy_dn (I (a + 3)) (I (a + (5 + (5 - n))) 0) = true
    · rw [show sy_pd a (n + 1) I c = sy_pd a n (mm_up I (a + (5 + (5 - n))) (mm_up (I (a + (5 + (5 - n)))) 1 4)) (c + 1) from if_pos h]
      simp +decide only [mM_40.1, mM_40.2.1, mM_40.2.2.1, mM_40.2.2.2.2.1, mM_40.2.2.2.2.2, cR, cH, mm_syn ha, mm_synV ha hk, cV hk, cV6 hk, e2, c28 ha (mm_synV ha hk).1, if_pos h, ih (by omega), ↓reduceIte]
    · rw [show sy_pd a (n + 1) I c = sy_pd a n I c from if_neg h]
      simp +decide only [mM_40.1, mM_40.2.1, mM_40.2.2.1, mM_40.2.2.2.2.1, mM_40.2.2.2.2.2, cR, cH, mm_syn ha, mm_synV ha hk, cV hk, cV6 hk, e2, c28 ha (mm_synV ha hk).1, if_neg h, ih (by omega), ↓reduceIte]
def sy_pedal (I : Nat → Nat → Int32) (a : Nat) (d : Int32) : Int32 × (Nat → Nat → Int32) := if d = 0 then sy_pd a 6 (mm_up I a (mm_up (I a) 5 d)) 0 else (0, mm_up I a (mm_up (I a) 5 d))
theorem c40 {a : Nat} (ha : mm_isS a) {d : Int32} (hd : mm_b01 d) : mm_C (mm_entry 40 [.ref a, .int d] (hp sc I o t)) Q ↔ Q (.inl (some (.int (sy_pedal I a d).1))) (hp sc (sy_pedal I a d).2 o t) := by
  have e1 := fun (I : Nat → Nat → Int32) (d : Int32) => c40_n (sc := sc) (o := o) (t := t) (Q := Q) ha (d := d) 6 (by omega) (I := I) (c := 0)
  have e2 : nI (6 - 6) = 0 := rfl
  rw [e2] at e1
  by_cases h : d = 0
  · subst h
    simp +decide only [mM_40.1, mM_40.2.1, mM_40.2.2.1, mM_40.2.2.2.2.1, mM_40.2.2.2.2.2, cR, cH, mm_syn ha, e1, sy_pedal, hd, ↓reduceIte]
  · simp +decide only [mM_40.1, mM_40.2.1, mM_40.2.2.1, mM_40.2.2.2.2.1, mM_40.2.2.2.2.2, cR, cH, mm_syn ha, sy_pedal, h, hd, ↓reduceIte]
end VQ
