/-! the reference: a new row, the prey, a press, the pedal -/
section WH
variable {sc : Nat × (Nat → Int32)} {I : Nat → Nat → Int32} {o : Int64} {t : Nat} {Q : mm_Q}
theorem nJ_in {k n : Nat} (h : k < n) (hn : n < 2 ^ 31) : mm_in (nI k) n = true := by
  simp only [mm_in, Bool.and_eq_true, decide_eq_true_eq, nI_clamp (Nat.lt_trans h hn)]
  exact ⟨nI_pos' (Nat.lt_trans h hn), h⟩
theorem nJ_mul (a b : Nat) : nI a * nI b = nI (a * b) := (Int32.ofNat_mul a b).symm
theorem nJ_lt {a b : Nat} (ha : a < 2 ^ 31) (hb : b < 2 ^ 31) : (nI a < nI b) = (a < b) := by
  by_cases h : a < b
  · exact propext ⟨fun _ => h, fun _ => nI_lt h hb⟩
  · exact propext ⟨fun k => absurd k (nI_nlt (by omega) ha), fun k => absurd k h⟩
/-- the places from 163 - n on become 0 -/
def mo_z : Nat → (Nat → Int32) → (Nat → Int32)
  | 0, g => g
  | n + 1, g => mo_z n (mm_up g (162 - n) 0)
def mo_kn : Nat → (Nat → Int32) → (Nat → Int32)
  | 0, g => mm_up (mm_up (mm_up (mm_up g 153 200) 154 100) 155 60) 156 50
  | n + 1, g => mo_kn n (mm_up g (5 * (5 - n) + 1) (-1))
theorem c110_a {b : Nat} (hb : mm_isW b) (n : Nat) : ∀ (hn : n ≤ 163) {g : Nat → Int32}, mm_C (110, mm_blk 110 1, [some (.ref b), some (.int (nI (163 - n)))], [], (hp sc (mm_up I b g) o t)) Q ↔ mm_C (110, mm_blk 110 3, [some (.ref b), some (.int 0)], [], (hp sc (mm_up I b (mo_z n g)) o t)) Q := by
  induction n with
  | zero =>
    intro hn g
    rw [mM_110.2.2.1]
    simp +decide only [mM_110.1, mM_110.2.1, mM_110.2.2.2.1, mM_110.2.2.2.2.2, cR, cH, Nat.sub_zero, cR163', mo_z, ↓reduceIte]
  | succ n ih =>
    intro hn g
    have hk : 162 - n < 163 := by omega
    have e1 : 163 - (n + 1) = 162 - n := by omega
    have e2 : 162 - n + 1 = 163 - n := by omega
    rw [mM_110.2.2.1, e1]
    simp +decide only [mM_110.1, mM_110.2.1, mM_110.2.2.2.1, mM_110.2.2.2.2.2, cR, cH, hb.1, hb.2, cR163 hk, e2, ih (by omega), mm_up_s, mm_up_up, mo_z, ↓reduceIte]
theorem c110_b {b : Nat} (hb : mm_isW b) (n : Nat) : ∀ (hn : n ≤ 6) {g : Nat → Int32}, mm_C (110, mm_blk 110 3, [some (.ref b), some (.int (nI (6 - n)))], [], (hp sc (mm_up I b g) o t)) Q ↔ Q (.inl none) (hp sc (mm_up I b (mo_kn n g)) o t) := by
  induction n with
  | zero =>
    intro hn g
    rw [mM_110.2.2.2.2.1]
    simp +decide only [mM_110.1, mM_110.2.1, mM_110.2.2.1, mM_110.2.2.2.1, mM_110.2.2.2.2.2, cR, cH, hb.1, hb.2, Nat.sub_zero, cV66, cQ, mm_up_s, mm_up_up, mo_kn, ↓reduceIte]
  | succ n ih =>
    intro hn g
    have hk : 5 - n < 6 := by omega
    have e1 : 6 - (n + 1) = 5 - n := by omega
    have e2 : 5 - n + 1 = 6 - n := by omega
    rw [mM_110.2.2.2.2.1, e1]
    simp +decide only [mM_110.1, mM_110.2.1, mM_110.2.2.1, mM_110.2.2.2.1, mM_110.2.2.2.2.2, cR, cH, hb.1, hb.2, cX hk, cV6 hk, e2, ih (by omega), mm_up_s, mm_up_up, mo_kn, ↓reduceIte]
theorem c110 {b : Nat} (hb : mm_isW b) : mm_C (mm_entry 110 [.ref b] (hp sc I o t)) Q ↔ Q (.inl none) (hp sc (mm_up I b (mo_kn 6 (mo_z 163 (I b)))) o t) := by
  have e1 := c110_a (sc := sc) (o := o) (t := t) (Q := Q) (I := I) hb 163 (by omega) (g := I b)
  have e2 : nI (163 - 163) = 0 := rfl
  have e3 := c110_b (sc := sc) (o := o) (t := t) (Q := Q) (I := I) hb 6 (by omega) (g := mo_z 163 (I b))
  have e4 : nI (6 - 6) = 0 := rfl
  rw [e4] at e3
  rw [e2, mm_up_self, e3] at e1
  simp +decide only [mM_110.1, mM_110.2.1, mM_110.2.2.2.1, mM_110.2.2.2.2.2, cR, cH, e1]
theorem c132 {w v : Int32} (hw : mm_in w 163 = true) : mm_C (mm_entry 132 [.ref 206, .int w, .int v] (hp sc I o t)) Q ↔ Q (.inl (some (.int (I 207 w.toNatClampNeg)))) (hp sc (mm_up I 207 (mm_up (I 207) w.toNatClampNeg v)) o t) := by
  simp +decide only [mM_132.1, mM_132.2, cR, cH, mm_fixM, mm_fixN, w207.1, w207.2, hw, mm_up_s, mm_up_up]
theorem mo_old_c (r : Nat → Int32) (p : Int32) (n : Nat) (hn : n ≤ 6) : ∀ (b : Int32), (b = -1 ∨ ∃ j, j < 6 ∧ b = nI j) → mo_old r p n b = -1 ∨ ∃ j, j < 6 ∧ mo_old r p n b = nI j := by
  induction n with
  | zero => intro b h; exact h
  | succ n ih =>
    intro b h
    unfold mo_old
    split
    · exact ih (by omega) _ (Or.inr ⟨5 - n, by omega, rfl⟩)
    · exact ih (by omega) _ h
def mo_preyL (r : Nat → Int32) : Nat → Nat → Nat
  | 0, b => b
  | n + 1, b => if 0 < r (5 * b + 3) - r (5 * (5 - n) + 3) ∨ r (5 * b + 3) - r (5 * (5 - n) + 3) = 0 ∧ r (5 * (5 - n) + 4) < r (5 * b + 4) then mo_preyL r n (5 - n) else mo_preyL r n b
theorem mo_preyL_c (r : Nat → Int32) (n : Nat) (hn : n ≤ 6) : ∀ b, b < 6 → mo_preyL r n b < 6 := by
  induction n with
  | zero => intro b h; exact h
  | succ n ih =>
    intro b h
    unfold mo_preyL
    split
    · exact ih (by omega) _ (by omega)
    · exact ih (by omega) _ h
def mo_prey (r : Nat → Int32) : Int32 := if r 152 = 1 ∨ 1 < r 152 ∧ mo_old r 4 6 (-1) = -1 then (if r 152 = 3 then -1 else mo_old r 1 6 (-1)) else if 1 < r 152 then mo_old r 4 6 (-1) else nI (mo_preyL r 6 (mo_old r 1 6 (-1)).toNatClampNeg)
def mo_pok (r : Nat → Int32) : Prop := ¬ r 152 = 1 → ¬ 1 < r 152 → ∃ j, j < 6 ∧ mo_old r 1 6 (-1) = nI j
theorem mo_prey_c {r : Nat → Int32} (h : mo_pok r) : mo_prey r = -1 ∨ ∃ j, j < 6 ∧ mo_prey r = nI j := by
  unfold mo_prey
  by_cases h1 : r 152 = 1 ∨ 1 < r 152 ∧ mo_old r 4 6 (-1) = -1
  · rw [if_pos h1]
    split
    · exact Or.inl rfl
    · exact mo_old_c _ _ 6 (by omega) _ (Or.inl rfl)
  · rw [if_neg h1]
    by_cases h2 : 1 < r 152
    · rw [if_pos h2]
      exact mo_old_c _ _ 6 (by omega) _ (Or.inl rfl)
    · rw [if_neg h2]
      obtain ⟨j, hj, e⟩ := h (fun e => h1 (Or.inl e)) h2
      exact Or.inr ⟨_, mo_preyL_c r 6 (by omega) _ (by rw [e, (cV hj).2.1]; exact hj), rfl⟩
theorem c118_n {a : Nat} (ha : mm_isW a) {d : Int32} (n : Nat) : ∀ (hn : n ≤ 6) {j : Nat} {x4 x5 : Option Value} (hj : j < 6), mm_C (118, mm_blk 118 6, [some (.ref a), some (.int d), some (.int (nI j)), some (.int (nI (6 - n))), x4, x5], [], (hp sc I o t)) Q ↔ Q (.inl (some (.int (nI (mo_preyL (I a) n j))))) (hp sc I o t) := by
  induction n with
  | zero =>
    intro hn j x4 x5 hj
    rw [mM_118.2.2.2.2.2.2.2.1]
    simp +decide only [mM_118.1, mM_118.2.1, mM_118.2.2.1, mM_118.2.2.2.1, mM_118.2.2.2.2.1, mM_118.2.2.2.2.2.1, mM_118.2.2.2.2.2.2.1, mM_118.2.2.2.2.2.2.2.2.1, mM_118.2.2.2.2.2.2.2.2.2.1, mM_118.2.2.2.2.2.2.2.2.2.2.1, mM_118.2.2.2.2.2.2.2.2.2.2.2.1, mM_118.2.2.2.2.2.2.2.2.2.2.2.2.1, mM_118.2.2.2.2.2.2.2.2.2.2.2.2.2, cR, cH, Nat.sub_zero, cV66, mo_preyL, ↓reduceIte]
  | succ n ih =>
    intro hn j x4 x5 hj
    have hk : 5 - n < 6 := by omega
    have e1 : 6 - (n + 1) = 5 - n := by omega
    have e2 : 5 - n + 1 = 6 - n := by omega
    have ih1 := fun (v w : Int32) => ih (by omega) (j := 5 - n) (x4 := some (.int v)) (x5 := some (.int w)) hk
    have ih2 := fun (v w : Int32) => ih (by omega) (j := j) (x4 := some (.int v)) (x5 := some (.int w)) hj
    rw [mM_118.2.2.2.2.2.2.2.1, e1]
    by_cases h3 : I a (5 * (5 - n) + 4) < I a (5 * j + 4) <;> by_cases h1 : 0 < I a (5 * j + 3) - I a (5 * (5 - n) + 3) <;> by_cases h2 : I a (5 * j + 3) - I a (5 * (5 - n) + 3) = 0 <;> simp +decide only [mM_118.1, mM_118.2.1, mM_118.2.2.1, mM_118.2.2.2.1, mM_118.2.2.2.2.1, mM_118.2.2.2.2.2.1, mM_118.2.2.2.2.2.2.1, mM_118.2.2.2.2.2.2.2.2.1, mM_118.2.2.2.2.2.2.2.2.2.1, mM_118.2.2.2.2.2.2.2.2.2.2.1, mM_118.2.2.2.2.2.2.2.2.2.2.2.1, mM_118.2.2.2.2.2.2.2.2.2.2.2.2.1, mM_118.2.2.2.2.2.2.2.2.2.2.2.2.2, cR, cH, ha.1, ha.2, cX hk, cX hj, cV6 hk, e2, ih1, ih2, mo_preyL, h1, h2, h3, and_true, true_and, and_false, false_and, or_true, true_or, or_false, false_or, not_true_eq_false, not_false_eq_true, decide_eq_true_eq, decide_true, decide_false, Bool.not_true, Bool.not_false, Bool.and_true, Bool.true_and, Bool.and_false, Bool.false_and, Bool.false_eq_true, eq_self, ↓reduceIte]
theorem c118 {a : Nat} (ha : mm_isW a) (h : mo_pok (I a)) : mm_C (mm_entry 118 [.ref a] (hp sc I o t)) Q ↔ Q (.inl (some (.int (mo_prey (I a))))) (hp sc I o t) := by
  unfold mo_prey
  by_cases h1 : I a 152 = 1
  · by_cases h3 : I a 152 = 3
    · rw [h1] at h3
      exact absurd h3 (by decide)
    · simp +decide only [mM_118.1, mM_118.2.1, mM_118.2.2.1, mM_118.2.2.2.1, mM_118.2.2.2.2.1, mM_118.2.2.2.2.2.1, mM_118.2.2.2.2.2.2.1, mM_118.2.2.2.2.2.2.2.2.1, mM_118.2.2.2.2.2.2.2.2.2.1, mM_118.2.2.2.2.2.2.2.2.2.2.1, mM_118.2.2.2.2.2.2.2.2.2.2.2.1, mM_118.2.2.2.2.2.2.2.2.2.2.2.2.1, mM_118.2.2.2.2.2.2.2.2.2.2.2.2.2, cR, cH, ha.1, ha.2, cQ, c117 ha, h1, h3, and_true, true_and, and_false, false_and, or_true, true_or, or_false, false_or, not_true_eq_false, not_false_eq_true, decide_eq_true_eq, decide_true, decide_false, Bool.not_true, Bool.not_false, Bool.and_true, Bool.true_and, Bool.and_false, Bool.false_and, Bool.false_eq_true, eq_self, ↓reduceIte]
  by_cases h2 : 1 < I a 152
  · by_cases h4 : mo_old (I a) 4 6 (-1) = -1 <;> by_cases h3 : I a 152 = 3 <;> simp +decide only [mM_118.1, mM_118.2.1, mM_118.2.2.1, mM_118.2.2.2.1, mM_118.2.2.2.2.1, mM_118.2.2.2.2.2.1, mM_118.2.2.2.2.2.2.1, mM_118.2.2.2.2.2.2.2.2.1, mM_118.2.2.2.2.2.2.2.2.2.1, mM_118.2.2.2.2.2.2.2.2.2.2.1, mM_118.2.2.2.2.2.2.2.2.2.2.2.1, mM_118.2.2.2.2.2.2.2.2.2.2.2.2.1, mM_118.2.2.2.2.2.2.2.2.2.2.2.2.2, cR, cH, ha.1, ha.2, cQ, c117 ha, h1, h2, h3, h4, and_true, true_and, and_false, false_and, or_true, true_or, or_false, false_or, not_true_eq_false, not_false_eq_true, decide_eq_true_eq, decide_true, decide_false, Bool.not_true, Bool.not_false, Bool.and_true, Bool.true_and, Bool.and_false, Bool.false_and, Bool.false_eq_true, eq_self, ↓reduceIte]
  · obtain ⟨j, hj, e⟩ := h h1 h2
    have hc := c118_n (sc := sc) (o := o) (t := t) (Q := Q) (I := I) ha (d := mo_old (I a) 4 6 (-1)) 6 (by omega) (j := j) (x4 := none) (x5 := none) hj
    have e2 : nI (6 - 6) = 0 := rfl
    rw [e2] at hc
    simp +decide only [mM_118.1, mM_118.2.1, mM_118.2.2.1, mM_118.2.2.2.1, mM_118.2.2.2.2.1, mM_118.2.2.2.2.2.1, mM_118.2.2.2.2.2.2.1, mM_118.2.2.2.2.2.2.2.2.1, mM_118.2.2.2.2.2.2.2.2.2.1, mM_118.2.2.2.2.2.2.2.2.2.2.1, mM_118.2.2.2.2.2.2.2.2.2.2.2.1, mM_118.2.2.2.2.2.2.2.2.2.2.2.2.1, mM_118.2.2.2.2.2.2.2.2.2.2.2.2.2, cR, cH, ha.1, ha.2, cQ, c117 ha, h1, h2, e, hc, cV hj, and_true, true_and, and_false, false_and, or_true, true_or, or_false, false_or, not_true_eq_false, not_false_eq_true, decide_eq_true_eq, decide_true, decide_false, Bool.not_true, Bool.not_false, Bool.and_true, Bool.true_and, Bool.and_false, Bool.false_and, Bool.false_eq_true, eq_self, ↓reduceIte]
def mo_press (r : Nat → Int32) (k : Nat) (s : Int32) : Nat → Int32 := mm_up (mm_up (mm_up r 157 (r 157 + 1)) (30 + 2 * k) (r 157 + 1)) (30 + 2 * k + 1) s
def mo_goJ (q : Nat → Int32) (k : Nat) (s : Int32) : Int32 × (Nat → Int32) :=
  if mo_voice q (nI k) = -1 then (if mo_free q = -1 then (if mo_prey q = -1 then (-1, mm_up q 161 (q 161 + 1)) else (mo_prey q, mo_start (mm_up q 160 (q 160 + 1)) (mo_prey q).toNatClampNeg k)) else (mo_free q, mo_start q (mo_free q).toNatClampNeg k))
  else (mo_voice q (nI k), mm_up (mm_up (mm_up q (5 * (mo_voice q (nI k)).toNatClampNeg) 1) (5 * (mo_voice q (nI k)).toNatClampNeg + 2) s) (5 * (mo_voice q (nI k)).toNatClampNeg + 4) (q 157))
theorem c121 {b k : Nat} (hb : mm_isW b) (hk : k < 60) {s : Int32} (hf : mo_free (mo_press (I b) k s) = -1 → mo_pok (mo_press (I b) k s)) : mm_C (mm_entry 121 [.ref b, .int (nI k), .int s] (hp sc I o t)) Q ↔ Q (.inl (some (.int (mo_goJ (mo_press (I b) k s) k s).1))) (hp sc (mm_up I b (mo_goJ (mo_press (I b) k s) k s).2) o t) := by
  obtain ⟨q, hq⟩ : ∃ q, q = mo_press (I b) k s := ⟨_, rfl⟩
  rw [← hq] at hf ⊢
  have hq' : mm_up (mm_up (mm_up (I b) 157 (I b 157 + 1)) (30 + 2 * k) (I b 157 + 1)) (30 + 2 * k + 1) s = q := by rw [hq]; rfl
  have e0 : mm_up I b q b = q := mm_up_s _ _ _
  unfold mo_goJ
  rcases sy_find_c (fun v => decide (0 < q (5 * v) ∧ q (5 * v + 1) = nI k)) 6 (by omega) with h | ⟨j, hj, h, -⟩
  · have h : mo_voice q (nI k) = -1 := h
    rcases sy_find_c (fun v => decide (q (5 * v) = 0)) 6 (by omega) with h2 | ⟨j, hj, h2, -⟩
    · have h2 : mo_free q = -1 := h2
      have hp9 := hf h2
      have hc := fun (Q : mm_Q) => c118 (sc := sc) (o := o) (t := t) (Q := Q) (I := mm_up I b q) hb (by rw [e0]; exact hp9)
      rw [e0] at hc
      rcases mo_prey_c hp9 with h3 | ⟨j, hj, h3⟩
      · simp +decide only [mM_121.1, mM_121.2.1, mM_121.2.2.1, mM_121.2.2.2.1, mM_121.2.2.2.2.1, mM_121.2.2.2.2.2.1, mM_121.2.2.2.2.2.2.1, mM_121.2.2.2.2.2.2.2, cR, cH, hb.1, hb.2, cD hk, cQ, c115 hb, c116 hb, hc, hq', h, h2, h3, mm_up_s, mm_up_up, mm_up_n, and_true, true_and, and_false, false_and, or_true, true_or, or_false, false_or, not_true_eq_false, not_false_eq_true, decide_eq_true_eq, decide_true, decide_false, Bool.not_true, Bool.not_false, Bool.and_true, Bool.true_and, Bool.and_false, Bool.false_and, Bool.false_eq_true, eq_self, ↓reduceIte]
      · simp +decide only [mM_121.1, mM_121.2.1, mM_121.2.2.1, mM_121.2.2.2.1, mM_121.2.2.2.2.1, mM_121.2.2.2.2.2.1, mM_121.2.2.2.2.2.2.1, mM_121.2.2.2.2.2.2.2, cR, cH, hb.1, hb.2, cD hk, cV hj, cQ, c115 hb, c116 hb, c120 hb hj hk, hc, hq', h, h2, h3, mm_up_s, mm_up_up, mm_up_n, and_true, true_and, and_false, false_and, or_true, true_or, or_false, false_or, not_true_eq_false, not_false_eq_true, decide_eq_true_eq, decide_true, decide_false, Bool.not_true, Bool.not_false, Bool.and_true, Bool.true_and, Bool.and_false, Bool.false_and, Bool.false_eq_true, eq_self, ↓reduceIte]
    · have h2 : mo_free q = nI j := h2
      simp +decide only [mM_121.1, mM_121.2.1, mM_121.2.2.1, mM_121.2.2.2.1, mM_121.2.2.2.2.1, mM_121.2.2.2.2.2.1, mM_121.2.2.2.2.2.2.1, mM_121.2.2.2.2.2.2.2, cR, cH, hb.1, hb.2, cD hk, cV hj, cQ, c115 hb, c116 hb, c120 hb hj hk, hq', h, h2, mm_up_s, mm_up_up, mm_up_n, and_true, true_and, and_false, false_and, or_true, true_or, or_false, false_or, not_true_eq_false, not_false_eq_true, decide_eq_true_eq, decide_true, decide_false, Bool.not_true, Bool.not_false, Bool.and_true, Bool.true_and, Bool.and_false, Bool.false_and, Bool.false_eq_true, eq_self, ↓reduceIte]
  · have h : mo_voice q (nI k) = nI j := h
    simp +decide only [mM_121.1, mM_121.2.1, mM_121.2.2.1, mM_121.2.2.2.1, mM_121.2.2.2.2.1, mM_121.2.2.2.2.2.1, mM_121.2.2.2.2.2.2.1, mM_121.2.2.2.2.2.2.2, cR, cH, hb.1, hb.2, cX hj, cD hk, cV hj, cQ, mm_neW hj hk, c115 hb, hq', h, mm_up_s, mm_up_up, mm_up_n, and_true, true_and, and_false, false_and, or_true, true_or, or_false, false_or, not_true_eq_false, not_false_eq_true, decide_eq_true_eq, decide_true, decide_false, Bool.not_true, Bool.not_false, Bool.and_true, Bool.true_and, Bool.and_false, Bool.false_and, Bool.false_eq_true, eq_self, ↓reduceIte]
def mo_kok (r : Nat → Int32) : Prop := ∀ v, v < 6 → mo_in13 (r (5 * v)) = true → ∃ k, k < 60 ∧ r (5 * v + 1) = nI k
theorem mo_kok_4 {r : Nat → Int32} (h : mo_kok r) (j : Nat) : mo_kok (mm_up r (5 * j) 4) := by
  intro v hv h2
  by_cases e : v = j
  · subst e
    rw [mm_up_s] at h2
    exact absurd h2 (by decide)
  · rw [mm_up_n _ _ (show ¬ 5 * v = 5 * j by omega)] at h2
    rw [mm_up_n _ _ (show ¬ 5 * v + 1 = 5 * j by omega)]
    exact h v hv h2
def mo_pd : Nat → (Nat → Int32) → Int32 → Int32 × (Nat → Int32)
  | 0, r, c => (c, r)
  | n + 1, r, c => if mo_held r (5 - n) = true then mo_pd n (mm_up r (5 * (5 - n)) 4) (c + 1) else mo_pd n r c
theorem c123_n {b : Nat} (hb : mm_isW b) (n : Nat) : ∀ (hn : n ≤ 6) {r : Nat → Int32} {c : Int32} {x4 : Option Value} (hk : mo_kok r), mm_C (123, mm_blk 123 1, [some (.ref b), some (.int 0), some (.int c), some (.int (nI (6 - n))), x4], [], (hp sc (mm_up I b r) o t)) Q ↔ Q (.inl (some (.int (mo_pd n r c).1))) (hp sc (mm_up I b (mm_up (mo_pd n r c).2 150 0)) o t) := by
  induction n with
  | zero =>
    intro hn r c x4 hk
    rw [mM_123.2.2.1]
    simp +decide only [mM_123.1, mM_123.2.1, mM_123.2.2.2.1, mM_123.2.2.2.2.1, mM_123.2.2.2.2.2.1, mM_123.2.2.2.2.2.2.1, mM_123.2.2.2.2.2.2.2.1, mM_123.2.2.2.2.2.2.2.2.1, mM_123.2.2.2.2.2.2.2.2.2.1, mM_123.2.2.2.2.2.2.2.2.2.2.1, mM_123.2.2.2.2.2.2.2.2.2.2.2, cR, cH, hb.1, hb.2, cQ, Nat.sub_zero, cV66, mo_pd, mm_up_s, mm_up_up, ↓reduceIte]
  | succ n ih =>
    intro hn r c x4 hk
    have hv : 5 - n < 6 := by omega
    have e0 : mm_up I b r b = r := mm_up_s _ _ _
    have e1 : 6 - (n + 1) = 5 - n := by omega
    have e2 : 5 - n + 1 = 6 - n := by omega
    have hc := fun (Q : mm_Q) => c119 (sc := sc) (o := o) (t := t) (Q := Q) (I := mm_up I b r) hb hv (by rw [e0]; exact hk _ hv)
    rw [e0] at hc
    have ih1 := fun (v : Int32) => ih (by omega) (r := mm_up r (5 * (5 - n)) 4) (c := c + 1) (x4 := some (.int v)) (mo_kok_4 hk _)
    have ih2 := fun (v : Int32) => ih (by omega) (r := r) (c := c) (x4 := some (.int v)) hk
    rw [mM_123.2.2.1, e1]
    by_cases h : mo_held r (5 - n) = true <;> simp +decide only [mM_123.1, mM_123.2.1, mM_123.2.2.2.1, mM_123.2.2.2.2.1, mM_123.2.2.2.2.2.1, mM_123.2.2.2.2.2.2.1, mM_123.2.2.2.2.2.2.2.1, mM_123.2.2.2.2.2.2.2.2.1, mM_123.2.2.2.2.2.2.2.2.2.1, mM_123.2.2.2.2.2.2.2.2.2.2.1, mM_123.2.2.2.2.2.2.2.2.2.2.2, cR, cH, hb.1, hb.2, cX hv, cV6 hv, e2, hc, ih1, ih2, mo_pd, h, cB0, cB1, mm_up_s, mm_up_up, mm_up_self, Int32.add_zero, and_true, true_and, and_false, false_and, or_true, true_or, or_false, false_or, not_true_eq_false, not_false_eq_true, decide_eq_true_eq, decide_true, decide_false, Bool.not_true, Bool.not_false, Bool.and_true, Bool.true_and, Bool.and_false, Bool.false_and, Bool.false_eq_true, eq_self, ↓reduceIte]
theorem c123_m {b : Nat} (hb : mm_isW b) {d c : Int32} (hd : ¬ d = 0) (n : Nat) : ∀ (hn : n ≤ 6) {x4 : Option Value}, mm_C (123, mm_blk 123 1, [some (.ref b), some (.int d), some (.int c), some (.int (nI (6 - n))), x4], [], (hp sc I o t)) Q ↔ Q (.inl (some (.int c))) (hp sc (mm_up I b (mm_up (I b) 150 1)) o t) := by
  induction n with
  | zero =>
    intro hn x4
    rw [mM_123.2.2.1]
    simp +decide only [mM_123.1, mM_123.2.1, mM_123.2.2.2.1, mM_123.2.2.2.2.1, mM_123.2.2.2.2.2.1, mM_123.2.2.2.2.2.2.1, mM_123.2.2.2.2.2.2.2.1, mM_123.2.2.2.2.2.2.2.2.1, mM_123.2.2.2.2.2.2.2.2.2.1, mM_123.2.2.2.2.2.2.2.2.2.2.1, mM_123.2.2.2.2.2.2.2.2.2.2.2, cR, cH, hb.1, hb.2, cQ, Nat.sub_zero, cV66, hd, mm_up_s, mm_up_up, ↓reduceIte]
  | succ n ih =>
    intro hn x4
    have hv : 5 - n < 6 := by omega
    have e1 : 6 - (n + 1) = 5 - n := by omega
    have e2 : 5 - n + 1 = 6 - n := by omega
    have ih2 := fun (v : Int32) => ih (by omega) (x4 := some (.int v))
    rw [mM_123.2.2.1, e1]
    simp +decide only [mM_123.1, mM_123.2.1, mM_123.2.2.2.1, mM_123.2.2.2.2.1, mM_123.2.2.2.2.2.1, mM_123.2.2.2.2.2.2.1, mM_123.2.2.2.2.2.2.2.1, mM_123.2.2.2.2.2.2.2.2.1, mM_123.2.2.2.2.2.2.2.2.2.1, mM_123.2.2.2.2.2.2.2.2.2.2.1, mM_123.2.2.2.2.2.2.2.2.2.2.2, cR, cH, hb.1, hb.2, cX hv, cV6 hv, e2, ih2, hd, mm_up_s, mm_up_up, mm_up_self, Int32.add_zero, and_true, true_and, and_false, false_and, or_true, true_or, or_false, false_or, not_true_eq_false, not_false_eq_true, decide_eq_true_eq, decide_true, decide_false, Bool.not_true, Bool.not_false, Bool.and_true, Bool.true_and, Bool.and_false, Bool.false_and, Bool.false_eq_true, eq_self, ↓reduceIte]
def mo_pedal (r : Nat → Int32) (d : Int32) : Int32 × (Nat → Int32) := if d = 0 then ((mo_pd 6 r 0).1, mm_up (mo_pd 6 r 0).2 150 0) else (0, mm_up r 150 1)
theorem c123 {b : Nat} (hb : mm_isW b) {d : Int32} (hk : mo_kok (I b)) : mm_C (mm_entry 123 [.ref b, .int d] (hp sc I o t)) Q ↔ Q (.inl (some (.int (mo_pedal (I b) d).1))) (hp sc (mm_up I b (mo_pedal (I b) d).2) o t) := by
  have e2 : nI (6 - 6) = 0 := rfl
  unfold mo_pedal
  by_cases hd : d = 0
  · subst hd
    have hc := c123_n (sc := sc) (o := o) (t := t) (Q := Q) (I := I) hb 6 (by omega) (r := I b) (c := 0) (x4 := none) hk
    rw [e2, mm_up_self] at hc
    simp +decide only [mM_123.1, mM_123.2.1, mM_123.2.2.2.1, mM_123.2.2.2.2.1, mM_123.2.2.2.2.2.1, mM_123.2.2.2.2.2.2.1, mM_123.2.2.2.2.2.2.2.1, mM_123.2.2.2.2.2.2.2.2.1, mM_123.2.2.2.2.2.2.2.2.2.1, mM_123.2.2.2.2.2.2.2.2.2.2.1, mM_123.2.2.2.2.2.2.2.2.2.2.2, cR, cH, hc, ↓reduceIte]
  · have hc := c123_m (sc := sc) (o := o) (t := t) (Q := Q) (I := I) hb (c := 0) hd 6 (by omega) (x4 := none)
    rw [e2] at hc
    simp +decide only [mM_123.1, mM_123.2.1, mM_123.2.2.2.1, mM_123.2.2.2.2.1, mM_123.2.2.2.2.2.1, mM_123.2.2.2.2.2.2.1, mM_123.2.2.2.2.2.2.2.1, mM_123.2.2.2.2.2.2.2.2.1, mM_123.2.2.2.2.2.2.2.2.2.1, mM_123.2.2.2.2.2.2.2.2.2.2.1, mM_123.2.2.2.2.2.2.2.2.2.2.2, cR, cH, hc, hd, ↓reduceIte]
end WH
