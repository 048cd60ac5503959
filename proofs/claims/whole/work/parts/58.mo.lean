/-! the reference: a tick, ticks, the book -/
section WI
variable {sc : Nat × (Nat → Int32)} {I : Nat → Nat → Int32} {o : Int64} {t : Nat} {Q : mm_Q}
theorem mo_ends_c (r : Nat → Int32) (v : Nat) : mo_ends r v = 0 ∨ mo_ends r v = 1 := by
  unfold mo_ends
  split
  · split
    · exact Or.inl rfl
    · exact Or.inr rfl
  · exact Or.inl rfl
def mo_tk : Nat → (Nat → Int32) → Int32 → Int32 × (Nat → Int32)
  | 0, r, c => (c, r)
  | n + 1, r, c => mo_tk n (mo_sound r (5 - n)) (c + mo_ends r (5 - n))
def mo_lt (r : Nat → Int32) : Int32 := mo_late r 60 (-1)
theorem mo_late_c (r : Nat → Int32) (n : Nat) (hn : n ≤ 60) : ∀ (b : Int32), (b = -1 ∨ ∃ j, j < 60 ∧ b = nI j) → mo_late r n b = -1 ∨ ∃ j, j < 60 ∧ mo_late r n b = nI j := by
  induction n with
  | zero => intro b h; exact h
  | succ n ih =>
    intro b h
    unfold mo_late
    split
    · exact ih (by omega) _ (Or.inr ⟨59 - n, by omega, rfl⟩)
    · exact ih (by omega) _ h
theorem mo_lt_c (r : Nat → Int32) : mo_lt r = -1 ∨ ∃ j, j < 60 ∧ mo_lt r = nI j := mo_late_c r 60 (by omega) _ (Or.inl rfl)
def mo_goes (r : Nat → Int32) : Prop := r 151 = 1 ∧ ¬ mo_lt r = -1 ∧ ¬ mo_free r = -1
theorem mo_goes_dec (r : Nat → Int32) : mo_goes r ∨ ¬ mo_goes r := Classical.em _
noncomputable def mo_br : Nat → (Nat → Int32) → (Nat → Int32)
  | 0, r => r
  | n + 1, r => if r 151 = 1 ∧ ¬ mo_lt r = -1 ∧ ¬ mo_free r = -1 then mo_br n (mo_start r (mo_free r).toNatClampNeg (mo_lt r).toNatClampNeg) else r
/-- how many of the first n voices are free -/
def mo_fc (r : Nat → Int32) : Nat → Nat
  | 0 => 0
  | n + 1 => mo_fc r n + (if r (5 * n) = 0 then 1 else 0)
theorem mo_start_p (r : Nat → Int32) {v k j : Nat} (hv : v < 6) (hj : j < 6) : mo_start r v k (5 * j) = if j = v then 1 else r (5 * j) := by
  unfold mo_start mm_up
  simp only [show ¬ 5 * j = 158 by omega, show ¬ 5 * j = 5 * v + 4 by omega, show ¬ 5 * j = 157 by omega, show ¬ 5 * j = 5 * v + 3 by omega, show ¬ 5 * j = 5 * v + 2 by omega, show ¬ 5 * j = 5 * v + 1 by omega, if_false]
  by_cases h : j = v
  · subst h; simp
  · simp only [h, show ¬ 5 * j = 5 * v by omega, if_false]
theorem mo_fc_start (r : Nat → Int32) {v k : Nat} (hv : v < 6) (h0 : r (5 * v) = 0) (n : Nat) : n ≤ 6 → mo_fc (mo_start r v k) n + (if v < n then 1 else 0) = mo_fc r n := by
  induction n with
  | zero => intro _; simp [mo_fc]
  | succ n ih =>
    intro hn
    have h1 := ih (by omega)
    simp only [mo_fc]
    rw [mo_start_p r hv (show n < 6 by omega)]
    by_cases e : n = v
    · subst e
      rw [if_pos rfl, if_pos h0]
      rw [if_neg (show ¬ n < n by omega)] at h1
      rw [if_pos (show n < n + 1 by omega), if_neg (show ¬ (1 : Int32) = 0 by decide)]
      omega
    · rw [if_neg e]
      by_cases e2 : v < n
      · rw [if_pos e2] at h1
        rw [if_pos (show v < n + 1 by omega)]
        omega
      · rw [if_neg e2] at h1
        rw [if_neg (show ¬ v < n + 1 by omega)]
        omega
theorem mo_fc_pos (r : Nat → Int32) {v : Nat} (h0 : r (5 * v) = 0) (n : Nat) : v < n → 0 < mo_fc r n := by
  induction n with
  | zero => intro h; omega
  | succ n ih =>
    intro h
    simp only [mo_fc]
    by_cases e : v = n
    · subst e
      rw [if_pos h0]
      omega
    · have := ih (by omega)
      omega
theorem mo_fc_le (r : Nat → Int32) (n : Nat) : mo_fc r n ≤ n := by
  induction n with
  | zero => exact Nat.le_refl _
  | succ n ih =>
    simp only [mo_fc]
    split <;> omega
theorem mo_free_c (r : Nat → Int32) : mo_free r = -1 ∨ ∃ j, j < 6 ∧ mo_free r = nI j ∧ r (5 * j) = 0 := by
  rcases sy_find_c (fun v => decide (r (5 * v) = 0)) 6 (by omega) with h | ⟨j, hj, h, h2⟩
  · exact Or.inl h
  · exact Or.inr ⟨j, hj, h, of_decide_eq_true h2⟩
theorem mo_br_stop (n : Nat) : ∀ r : Nat → Int32, mo_fc r 6 ≤ n → ¬ mo_goes (mo_br n r) := by
  induction n with
  | zero =>
    intro r h hg
    obtain ⟨-, -, h3⟩ := hg
    rcases mo_free_c r with e | ⟨j, hj, -, e⟩
    · exact h3 e
    · have := mo_fc_pos r e 6 hj
      omega
  | succ n ih =>
    intro r h
    unfold mo_br
    by_cases hg : r 151 = 1 ∧ ¬ mo_lt r = -1 ∧ ¬ mo_free r = -1
    · rw [if_pos hg]
      refine ih _ ?_
      rcases mo_free_c r with e | ⟨j, hj, e2, e⟩
      · exact absurd e hg.2.2
      · rw [e2, (cV hj).2.1]
        have := mo_fc_start r (k := (mo_lt r).toNatClampNeg) hj e 6 (by omega)
        rw [if_pos hj] at this
        omega
    · rw [if_neg hg]
      exact hg
theorem c127_w {b : Nat} (hb : mm_isW b) (n : Nat) : ∀ {r : Nat → Int32} {c : Int32} {x3 : Option Value} (hs : ¬ mo_goes (mo_br n r)), mm_C (127, mm_blk 127 5, [some (.ref b), some (.int c), some (.int (mo_lt r)), x3], [], (hp sc (mm_up I b r) o t)) Q ↔ Q (.inl (some (.int c))) (hp sc (mm_up I b (mm_up (mo_br n r) 162 (mo_br n r 162 + 1))) o t) := by
  have stop : ∀ {r : Nat → Int32} {c : Int32} {x3 : Option Value} (hs : ¬ (r 151 = 1 ∧ ¬ mo_lt r = -1 ∧ ¬ mo_free r = -1)), mm_C (127, mm_blk 127 5, [some (.ref b), some (.int c), some (.int (mo_lt r)), x3], [], (hp sc (mm_up I b r) o t)) Q ↔ Q (.inl (some (.int c))) (hp sc (mm_up I b (mm_up r 162 (r 162 + 1))) o t) := by
    intro r c x3 hs
    rw [mM_127.2.2.2.2.2.2.1]
    by_cases h1 : r 151 = 1
    · by_cases h2 : mo_lt r = -1
      · simp +decide only [mM_127.1, mM_127.2.1, mM_127.2.2.1, mM_127.2.2.2.1, mM_127.2.2.2.2.1, mM_127.2.2.2.2.2.1, mM_127.2.2.2.2.2.2.2, cR, cH, hb.1, hb.2, cQ, h1, h2, mm_up_s, mm_up_up, and_true, true_and, and_false, false_and, or_true, true_or, or_false, false_or, not_true_eq_false, not_false_eq_true, decide_eq_true_eq, decide_true, decide_false, Bool.not_true, Bool.not_false, Bool.and_true, Bool.true_and, Bool.and_false, Bool.false_and, Bool.false_eq_true, eq_self, ↓reduceIte]
      · have h3 : mo_free r = -1 := Classical.byContradiction fun h3 => hs ⟨h1, h2, h3⟩
        simp +decide only [mM_127.1, mM_127.2.1, mM_127.2.2.1, mM_127.2.2.2.1, mM_127.2.2.2.2.1, mM_127.2.2.2.2.2.1, mM_127.2.2.2.2.2.2.2, cR, cH, hb.1, hb.2, cQ, c116 hb, h1, h2, h3, mm_up_s, mm_up_up, and_true, true_and, and_false, false_and, or_true, true_or, or_false, false_or, not_true_eq_false, not_false_eq_true, decide_eq_true_eq, decide_true, decide_false, Bool.not_true, Bool.not_false, Bool.and_true, Bool.true_and, Bool.and_false, Bool.false_and, Bool.false_eq_true, eq_self, ↓reduceIte]
    · simp +decide only [mM_127.1, mM_127.2.1, mM_127.2.2.1, mM_127.2.2.2.1, mM_127.2.2.2.2.1, mM_127.2.2.2.2.2.1, mM_127.2.2.2.2.2.2.2, cR, cH, hb.1, hb.2, cQ, h1, mm_up_s, mm_up_up, and_true, true_and, and_false, false_and, or_true, true_or, or_false, false_or, not_true_eq_false, not_false_eq_true, decide_eq_true_eq, decide_true, decide_false, Bool.not_true, Bool.not_false, Bool.and_true, Bool.true_and, Bool.and_false, Bool.false_and, Bool.false_eq_true, eq_self, ↓reduceIte]
  induction n with
  | zero => intro r c x3 hs; exact stop hs
  | succ n ih =>
    intro r c x3 hs
    unfold mo_br at hs ⊢
    by_cases hg : r 151 = 1 ∧ ¬ mo_lt r = -1 ∧ ¬ mo_free r = -1
    · rw [if_pos hg] at hs ⊢
      have h1 := hg.1
      have h2 := hg.2.1
      have h3 := hg.2.2
      rcases mo_free_c r with e | ⟨j, hj, ej, -⟩
      · exact absurd e h3
      rcases mo_lt_c r with e | ⟨k, hk, ek⟩
      · exact absurd e h2
      rw [ej, ek, (cV hj).2.1, (cK hk).2.1] at hs ⊢
      have e0 : mo_late (mo_start r j k) 60 (-1) = mo_lt (mo_start r j k) := rfl
      have ih1 := ih (c := c) (x3 := some (.int (nI j))) hs
      rw [mM_127.2.2.2.2.2.2.1]
      simp +decide only [mM_127.1, mM_127.2.1, mM_127.2.2.1, mM_127.2.2.2.1, mM_127.2.2.2.2.1, mM_127.2.2.2.2.2.1, mM_127.2.2.2.2.2.2.2, cR, cH, hb.1, hb.2, cQ, cV hj, cK hk, c116 hb, c120 hb hj hk, c125 hb, e0, h1, ej, ek, ih1, mm_up_s, mm_up_up, and_true, true_and, and_false, false_and, or_true, true_or, or_false, false_or, not_true_eq_false, not_false_eq_true, decide_eq_true_eq, decide_true, decide_false, Bool.not_true, Bool.not_false, Bool.and_true, Bool.true_and, Bool.and_false, Bool.false_and, Bool.false_eq_true, eq_self, ↓reduceIte]
    · rw [if_neg hg] at hs ⊢
      exact stop hg
noncomputable def mo_tick (r : Nat → Int32) : Int32 × (Nat → Int32) := ((mo_tk 6 r 0).1, mm_up (mo_br 6 (mo_tk 6 r 0).2) 162 (mo_br 6 (mo_tk 6 r 0).2 162 + 1))
theorem c127_n {b : Nat} (hb : mm_isW b) (n : Nat) : ∀ (hn : n ≤ 6) {r : Nat → Int32} {c : Int32}, mm_C (127, mm_blk 127 1, [some (.ref b), some (.int c), some (.int (nI (6 - n))), none], [], (hp sc (mm_up I b r) o t)) Q ↔ Q (.inl (some (.int (mo_tk n r c).1))) (hp sc (mm_up I b (mm_up (mo_br 6 (mo_tk n r c).2) 162 (mo_br 6 (mo_tk n r c).2 162 + 1))) o t) := by
  induction n with
  | zero =>
    intro hn r c
    have hw := c127_w (sc := sc) (o := o) (t := t) (Q := Q) (I := I) hb 6 (r := r) (c := c) (x3 := none) (mo_br_stop 6 r (mo_fc_le r 6))
    have e0 : mo_late r 60 (-1) = mo_lt r := rfl
    rw [mM_127.2.2.1]
    simp +decide only [mM_127.1, mM_127.2.1, mM_127.2.2.2.1, mM_127.2.2.2.2.1, mM_127.2.2.2.2.2.1, mM_127.2.2.2.2.2.2.2, cR, cH, hb.1, hb.2, cQ, Nat.sub_zero, cV66, c125 hb, e0, hw, mo_tk, mm_up_s, mm_up_up, ↓reduceIte]
  | succ n ih =>
    intro hn r c
    have hk : 5 - n < 6 := by omega
    have e1 : 6 - (n + 1) = 5 - n := by omega
    have e2 : 5 - n + 1 = 6 - n := by omega
    rw [mM_127.2.2.1, e1]
    rcases mo_ends_c r (5 - n) with h | h <;> simp +decide only [mM_127.1, mM_127.2.1, mM_127.2.2.2.1, mM_127.2.2.2.2.1, mM_127.2.2.2.2.2.1, mM_127.2.2.2.2.2.2.2, cR, cH, hb.1, hb.2, cV6 hk, e2, c126 hb hk, h, ih (by omega), mo_tk, mm_up_s, mm_up_up, and_true, true_and, and_false, false_and, or_true, true_or, or_false, false_or, not_true_eq_false, not_false_eq_true, decide_eq_true_eq, decide_true, decide_false, Bool.not_true, Bool.not_false, Bool.and_true, Bool.true_and, Bool.and_false, Bool.false_and, Bool.false_eq_true, eq_self, ↓reduceIte]
theorem c127 {b : Nat} (hb : mm_isW b) : mm_C (mm_entry 127 [.ref b] (hp sc I o t)) Q ↔ Q (.inl (some (.int (mo_tick (I b)).1))) (hp sc (mm_up I b (mo_tick (I b)).2) o t) := by
  have e1 := c127_n (sc := sc) (o := o) (t := t) (Q := Q) (I := I) hb 6 (by omega) (r := I b) (c := 0)
  have e2 : nI (6 - 6) = 0 := rfl
  rw [e2, mm_up_self] at e1
  simp +decide only [mM_127.1, mM_127.2.1, mM_127.2.2.2.1, mM_127.2.2.2.2.1, mM_127.2.2.2.2.2.1, mM_127.2.2.2.2.2.2.2, cR, cH, e1, mo_tick]
noncomputable def mo_rn : Nat → (Nat → Int32) → Int32 → Int32 × (Nat → Int32)
  | 0, r, c => (c, r)
  | n + 1, r, c => mo_rn n (mo_tick r).2 (c + (mo_tick r).1)
theorem c128_n {b m : Nat} (hb : mm_isW b) (hm : m ≤ 99) {c0 : Int32} (n : Nat) : ∀ (hn : n ≤ m) {r : Nat → Int32} {c : Int32}, mm_C (128, mm_blk 128 1, [some (.ref b), some (.int (nI m)), some (.int c0), some (.int c), some (.int (nI (m - n)))], [], (hp sc (mm_up I b r) o t)) Q ↔ Q (.inl (some (.int (mo_rn n r c).1))) (hp sc (mm_up I b (mo_rn n r c).2) o t) := by
  induction n with
  | zero =>
    intro hn r c
    rw [mM_128.2.2.1]
    simp +decide only [mM_128.1, mM_128.2.1, mM_128.2.2.2, cR, cH, Nat.sub_zero, cM0, mo_rn, ↓reduceIte]
  | succ n ih =>
    intro hn r c
    have hk : m - (n + 1) < m := by omega
    have e2 : m - (n + 1) + 1 = m - n := by omega
    rw [mM_128.2.2.1]
    simp +decide only [mM_128.1, mM_128.2.1, mM_128.2.2.2, cR, cH, cM hk hm, e2, c127 hb, ih (by omega), mo_rn, mm_up_s, mm_up_up, ↓reduceIte]
theorem c128 {b m : Nat} (hb : mm_isW b) (hm : m ≤ 99) {c : Int32} : mm_C (mm_entry 128 [.ref b, .int (nI m), .int c] (hp sc I o t)) Q ↔ Q (.inl (some (.int (mo_rn m (I b) c).1))) (hp sc (mm_up I b (mo_rn m (I b) c).2) o t) := by
  have e1 := c128_n (sc := sc) (o := o) (t := t) (Q := Q) (I := I) hb hm (c0 := c) m (Nat.le_refl _) (r := I b) (c := c)
  have e2 : nI (m - m) = 0 := by rw [Nat.sub_self]; rfl
  rw [e2, mm_up_self] at e1
  simp +decide only [mM_128.1, mM_128.2.1, mM_128.2.2.2, cR, cH, e1]
/-- the book shifted by one row, up to the place k -/
def mo_sh (f : Nat → Int32) (k : Nat) : Nat → Int32 := fun j => if j < k then f (163 + j) else f j
theorem mo_sh_s (f : Nat → Int32) (k : Nat) : mm_up (mo_sh f k) k (mo_sh f k (163 + k)) = mo_sh f (k + 1) := by
  funext j
  unfold mm_up mo_sh
  by_cases h : j = k
  · subst h
    rw [if_pos rfl, if_neg (show ¬ 163 + j < j by omega), if_pos (show j < j + 1 by omega)]
  · rw [if_neg h]
    by_cases h2 : j < k
    · rw [if_pos h2, if_pos (show j < k + 1 by omega)]
    · rw [if_neg h2, if_neg (show ¬ j < k + 1 by omega)]
theorem mo_sh_0 (f : Nat → Int32) : mo_sh f 0 = f := by
  funext j
  unfold mo_sh
  rw [if_neg (Nat.not_lt_zero j)]
/-- a row into the book at the place p, up to its place k -/
def mo_ins (f r : Nat → Int32) (p k : Nat) : Nat → Int32 := fun j => if p ≤ j ∧ j < p + k then r (j - p) else f j
theorem mo_ins_s (f r : Nat → Int32) (p k : Nat) : mm_up (mo_ins f r p k) (p + k) (r k) = mo_ins f r p (k + 1) := by
  funext j
  unfold mm_up mo_ins
  by_cases h : j = p + k
  · subst h
    rw [if_pos rfl, if_pos (show p ≤ p + k ∧ p + k < p + (k + 1) by omega), Nat.add_sub_cancel_left]
  · rw [if_neg h]
    by_cases h2 : p ≤ j ∧ j < p + k
    · rw [if_pos h2, if_pos (show p ≤ j ∧ j < p + (k + 1) by omega)]
    · rw [if_neg h2, if_neg (show ¬ (p ≤ j ∧ j < p + (k + 1)) by omega)]
theorem mo_ins_0 (f r : Nat → Int32) (p : Nat) : mo_ins f r p 0 = f := by
  funext j
  unfold mo_ins
  rw [if_neg (show ¬ (p ≤ j ∧ j < p + 0) by omega)]
theorem cBk {k : Nat} (h : k < 2119) : mm_in (nI k) 2282 = true ∧ (nI k).toNatClampNeg = k ∧ mm_in (163 + nI k) 2282 = true ∧ (163 + nI k).toNatClampNeg = 163 + k ∧ (nI k < 2119) = True ∧ nI k + 1 = nI (k + 1) := by
  have e : (163 : Int32) + nI k = nI (163 + k) := nI_add 163 k
  have e2 : (2119 : Int32) = nI 2119 := rfl
  rw [e, e2]
  exact ⟨nJ_in (by omega) (by omega), nI_clamp (by omega), nJ_in (by omega) (by omega), nI_clamp (by omega), eq_true (nI_lt h (by omega)), nI_1 k⟩
theorem cBk' : nI 2119 = 2119 ∧ ((2119 : Int32) < 2119) = False := ⟨rfl, by decide⟩
theorem cBs {s k : Nat} (hs : s < 14) (h : k < 163) : mm_in (163 * nI s + nI k) 2282 = true ∧ (163 * nI s + nI k).toNatClampNeg = 163 * s + k := by
  have e : (163 : Int32) * nI s + nI k = nI (163 * s + k) := by
    rw [show (163 : Int32) = nI 163 from rfl, nJ_mul, nI_add]
  rw [e]
  exact ⟨nJ_in (by omega) (by omega), nI_clamp (by omega)⟩
theorem c131_b {s : Nat} (hs : s < 14) (n : Nat) : ∀ (hn : n ≤ 163) {I : Nat → Nat → Int32} (h5 : I 206 5 = nI s) {g : Nat → Int32}, mm_C (131, mm_blk 131 4, [some (.ref 206), some (.int (nI (163 - n)))], [], (hp sc (mm_up I 210 (mo_ins g (I 207) (163 * s) (163 - n))) o t)) Q ↔ Q (.inl none) (hp sc (mm_up (mm_up I 210 (mo_ins g (I 207) (163 * s) 163)) 206 (mm_up (I 206) 5 (nI (s + 1)))) o t) := by
  induction n with
  | zero =>
    intro hn I h5 g
    rw [mM_131.2.2.2.2.2.1]
    simp +decide only [mM_131.1, mM_131.2.1, mM_131.2.2.2.1, mM_131.2.2.2.2.1, mM_131.2.2.2.2.2.2, cR, cH, mm_fixM, mm_fixN, Nat.sub_zero, cR163', h5, nI_1, mm_up_s, mm_up_n, mm_up_up, ↓reduceIte]
  | succ n ih =>
    intro hn I h5 g
    have hk : 162 - n < 163 := by omega
    have e1 : 163 - (n + 1) = 162 - n := by omega
    have e2 : 162 - n + 1 = 163 - n := by omega
    have e3 := mo_ins_s g (I 207) (163 * s) (162 - n)
    have ih1 := ih (by omega) (I := I) h5 (g := g)
    rw [mM_131.2.2.2.2.2.1, e1]
    simp +decide only [mM_131.1, mM_131.2.1, mM_131.2.2.2.1, mM_131.2.2.2.2.1, mM_131.2.2.2.2.2.2, cR, cH, mm_fixM, mm_fixN, cR163 hk, cBs hs hk, e2, e3, ih1, h5, mm_up_s, mm_up_n, mm_up_up, ↓reduceIte]
theorem c131_a (n : Nat) : ∀ (hn : n ≤ 2119) {I : Nat → Nat → Int32}, mm_C (131, mm_blk 131 1, [some (.ref 206), some (.int (nI (2119 - n)))], [], (hp sc (mm_up I 210 (mo_sh (I 210) (2119 - n))) o t)) Q ↔ mm_C (131, mm_blk 131 2, [some (.ref 206), some (.int 2119)], [], (hp sc (mm_up I 210 (mo_sh (I 210) 2119)) o t)) Q := by
  induction n with
  | zero =>
    intro hn I
    rw [mM_131.2.2.1]
    simp +decide only [mM_131.1, mM_131.2.1, mM_131.2.2.2.2.1, mM_131.2.2.2.2.2.2, cR, cH, Nat.sub_zero, cBk', ↓reduceIte]
  | succ n ih =>
    intro hn I
    have hk : 2118 - n < 2119 := by omega
    have e1 : 2119 - (n + 1) = 2118 - n := by omega
    have e2 : 2118 - n + 1 = 2119 - n := by omega
    have e3 := mo_sh_s (I 210) (2118 - n)
    have ih1 := ih (by omega) (I := I)
    rw [mM_131.2.2.1, e1]
    simp +decide only [mM_131.1, mM_131.2.1, mM_131.2.2.2.2.1, mM_131.2.2.2.2.2.2, cR, cH, mm_fixM, mm_fixN, cBk hk, e2, e3, ih1, mm_up_s, mm_up_n, mm_up_up, ↓reduceIte]
def mo_rem (I : Nat → Nat → Int32) (s : Nat) : Nat → Nat → Int32 := if s = 14 then mm_up (mm_up I 210 (mo_ins (mo_sh (I 210) 2119) (I 207) (163 * 13) 163)) 206 (mm_up (I 206) 5 14) else mm_up (mm_up I 210 (mo_ins (I 210) (I 207) (163 * s) 163)) 206 (mm_up (I 206) 5 (nI (s + 1)))
theorem cS14 {s : Nat} (h : s < 14) : (nI s = 14) = False := by
  have h2 : ∀ s, s < 14 → ¬ nI s = 14 := by decide
  exact eq_false (h2 s h)
theorem c131 {s : Nat} (hs : s ≤ 14) (h5 : I 206 5 = nI s) : mm_C (mm_entry 131 [.ref 206] (hp sc I o t)) Q ↔ Q (.inl none) (hp sc (mo_rem I s) o t) := by
  unfold mo_rem
  by_cases h : s = 14
  · subst h
    have h5 : I 206 5 = 14 := h5
    rw [if_pos rfl]
    have ha := c131_a (sc := sc) (o := o) (t := t) (Q := Q) 2119 (Nat.le_refl _) (I := I)
    have e0 : nI (2119 - 2119) = 0 := rfl
    rw [e0, Nat.sub_self, mo_sh_0, mm_up_self] at ha
    have hb := c131_b (sc := sc) (o := o) (t := t) (Q := Q) (s := 13) (by omega) 163 (Nat.le_refl _) (I := mm_up (mm_up I 210 (mo_sh (I 210) 2119)) 206 (mm_up (I 206) 5 13)) (by rw [mm_up_s, mm_up_s]; rfl) (g := mo_sh (I 210) 2119)
    have e1 : nI (163 - 163) = 0 := rfl
    have e3 : ∀ f : Nat → Int32, mm_up (mm_up (mm_up I 210 (mo_sh (I 210) 2119)) 206 f) 210 (mo_sh (I 210) 2119) = mm_up (mm_up I 210 (mo_sh (I 210) 2119)) 206 f := fun f => by
      rw [mm_up_comm _ _ _ (show (206 : Nat) ≠ 210 by decide), mm_up_up]
    rw [e1, Nat.sub_self, mo_ins_0, e3] at hb
    have e4 : ∀ f h g : Nat → Int32, mm_up (mm_up (mm_up (mm_up I 210 (mo_sh (I 210) 2119)) 206 f) 210 h) 206 g = mm_up (mm_up I 210 h) 206 g := fun f h g => by
      rw [mm_up_comm _ _ _ (show (206 : Nat) ≠ 210 by decide), mm_up_up, mm_up_up]
    have e5 : nI (13 + 1) = 14 := rfl
    simp +decide only [e4, e5, mm_up_s, mm_up_n, mm_up_up] at hb
    have e6 : (14 : Int32) - 1 = 13 := by decide
    simp +decide only [mM_131.1, mM_131.2.1, mM_131.2.2.2.1, mM_131.2.2.2.2.1, mM_131.2.2.2.2.2.2, cR, cH, mm_fixM, mm_fixN, h5, ha, hb, e6, mm_up_s, mm_up_n, mm_up_up, ↓reduceIte]
  · rw [if_neg h]
    have hb := c131_b (sc := sc) (o := o) (t := t) (Q := Q) (s := s) (by omega) 163 (Nat.le_refl _) (I := I) h5 (g := I 210)
    have e1 : nI (163 - 163) = 0 := rfl
    rw [e1, Nat.sub_self, mo_ins_0, mm_up_self] at hb
    simp +decide only [mM_131.1, mM_131.2.1, mM_131.2.2.2.1, mM_131.2.2.2.2.1, mM_131.2.2.2.2.2.2, cR, cH, mm_fixM, mm_fixN, h5, cS14 (show s < 14 by omega), hb, ↓reduceIte]
end WI
