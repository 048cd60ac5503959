/-! the reference: the text -/
section WQ
variable {sc : Nat × (Nat → Int32)} {I : Nat → Nat → Int32} {o : Int64} {t : Nat} {Q : mm_Q}
def gb (g : Bool) : Int32 := if g = true then 1 else 0
theorem gb_1 : gb true = 1 := rfl
theorem gb_0 : gb false = 0 := rfl
/-- the reader's place, its word, what it left out -/
def tx (f : Nat → Int32) (p g l : Int32) : Nat → Int32 := mm_up (mm_up (mm_up f 10 p) 11 g) 12 l
theorem tx_r (f : Nat → Int32) (p g l : Int32) : tx f p g l 10 = p ∧ tx f p g l 11 = g ∧ tx f p g l 12 = l ∧ tx f p g l 9 = f 9 ∧ tx f p g l 0 = f 0 ∧ tx f p g l 5 = f 5 := ⟨rfl, rfl, rfl, rfl, rfl, rfl⟩
theorem tx_10 (f : Nat → Int32) (p g l v : Int32) : mm_up (tx f p g l) 10 v = tx f v g l := by
  funext j
  by_cases h : j = 10
  · subst h; rfl
  · rw [mm_up_n _ _ h]
    simp [tx, mm_up, h]
theorem tx_11 (f : Nat → Int32) (p g l v : Int32) : mm_up (tx f p g l) 11 v = tx f p v l := by
  funext j
  by_cases h : j = 11
  · subst h; rfl
  · rw [mm_up_n _ _ h]
    simp [tx, mm_up, h]
theorem tx_12 (f : Nat → Int32) (p g l v : Int32) : mm_up (tx f p g l) 12 v = tx f p g v := mm_up_up _ _ _ _
theorem tx_self (f : Nat → Int32) : tx f (f 10) (f 11) (f 12) = f := by
  unfold tx
  rw [mm_up_self]
  have e1 : f 11 = f 11 := rfl
  rw [mm_up_self, mm_up_self]
def td (T : Nat → Int32) (L : Nat) (lo hi : Int32) (s : Nat × Bool) : Int32 × Nat × Bool := if (s.2 && dg T L s.1 lo hi) = true then (T s.1 - 48, s.1 + 1, true) else (lo, s.1, false)
theorem cG : (if (1 : Int32) = 0 then (0 : Int32) else 1) = 1 := rfl
theorem c135 {f : Nat → Int32} {L p : Nat} {g l : Int32} (hL : f 9 = nI L) (hL2 : L ≤ 120) (hpp : p ≤ 200) : mm_C (mm_entry 135 [.ref 206] (hp sc (mm_up I 206 (tx f (nI p) g l)) o t)) Q ↔ Q (.inl (some (.int (if p < L then I 213 p else -1)))) (hp sc (mm_up I 206 (tx f (nI p) g l)) o t) := by
  have e := nJ_lt (a := p) (b := L) (by omega) (by omega)
  by_cases h : p < L
  · simp +decide only [mM_135.1, mM_135.2.1, mM_135.2.2.1, mM_135.2.2.2, cR, cH, mm_fixM, mm_fixN, mm_up_s, mm_up_n, tx_r, hL, e, h, nJ_in (show p < 120 by omega) (by decide), nI_clamp (show p < 2 ^ 31 by omega), ↓reduceIte]
  · simp +decide only [mM_135.1, mM_135.2.1, mM_135.2.2.1, mM_135.2.2.2, cR, cH, mm_fixM, mm_fixN, mm_up_s, mm_up_n, tx_r, hL, e, h, ↓reduceIte]
theorem c136_y {f : Nat → Int32} {p : Nat} {l : Int32} : mm_C (mm_entry 136 [.ref 206, .int 1] (hp sc (mm_up I 206 (tx f (nI p) 1 l)) o t)) Q ↔ Q (.inl none) (hp sc (mm_up I 206 (tx f (nI (p + 1)) 1 l)) o t) := by
  simp +decide only [mM_136.1, mM_136.2.1, mM_136.2.2.1, mM_136.2.2.2.1, mM_136.2.2.2.2.1, mM_136.2.2.2.2.2, cR, cH, mm_fixM, mm_fixN, mm_up_s, mm_up_up, tx_r, tx_10, tx_11, cb01, nI_1, ↓reduceIte]
theorem c136_n {f : Nat → Int32} {p : Nat} {a g l : Int32} (h : g = 0 ∨ a = 0) : mm_C (mm_entry 136 [.ref 206, .int a] (hp sc (mm_up I 206 (tx f (nI p) g l)) o t)) Q ↔ Q (.inl none) (hp sc (mm_up I 206 (tx f (nI p) 0 l)) o t) := by
  by_cases h1 : g = 0
  · simp +decide only [mM_136.1, mM_136.2.1, mM_136.2.2.1, mM_136.2.2.2.1, mM_136.2.2.2.2.1, mM_136.2.2.2.2.2, cR, cH, mm_fixM, mm_fixN, mm_up_s, mm_up_up, tx_r, tx_10, tx_11, cb01, h1, Int32.add_zero, ↓reduceIte]
  · have h2 : a = 0 := h.resolve_left h1
    simp +decide only [mM_136.1, mM_136.2.1, mM_136.2.2.1, mM_136.2.2.2.1, mM_136.2.2.2.2.1, mM_136.2.2.2.2.2, cR, cH, mm_fixM, mm_fixN, mm_up_s, mm_up_up, tx_r, tx_10, tx_11, cb01, h1, h2, Int32.add_zero, ↓reduceIte]
theorem cLL (x y : Int32) : (x.toInt64 < y.toInt64) = (x < y) := by
  rw [Int64.lt_iff_toInt_lt, Int32.toInt_toInt64, Int32.toInt_toInt64, Int32.lt_iff_toInt_lt]
theorem c137 {f : Nat → Int32} {L p : Nat} {g : Bool} {l lo hi : Int32} (hL : f 9 = nI L) (hL2 : L ≤ 120) (hpp : p ≤ 200) (hlo : lo = 0 ∨ lo = 1) : mm_C (mm_entry 137 [.ref 206, .int lo, .int hi] (hp sc (mm_up I 206 (tx f (nI p) (gb g) l)) o t)) Q ↔ Q (.inl (some (.int (td (I 213) L lo hi (p, g)).1))) (hp sc (mm_up I 206 (tx f (nI (td (I 213) L lo hi (p, g)).2.1) (gb (td (I 213) L lo hi (p, g)).2.2) l)) o t) := by
  have h135 := fun (Q : mm_Q) (g l : Int32) => c135 (sc := sc) (o := o) (t := t) (Q := Q) (I := I) (f := f) (g := g) (l := l) hL hL2 hpp
  have m1 : ¬ (-1 : Int32) - 48 < lo → False := fun h => by rcases hlo with rfl | rfl <;> exact absurd h (by decide)
  unfold td
  cases g with
  | false =>
    simp +decide only [Bool.false_and, gb_0, mM_137.1, mM_137.2.1, mM_137.2.2.1, mM_137.2.2.2.1, mM_137.2.2.2.2.1, mM_137.2.2.2.2.2, cR, cH, mm_fixM, mm_fixN, mm_up_s, tx_r, h135, c136_n (f := f) (p := p) (l := l) (g := 0) (Or.inl rfl), Bool.false_eq_true, ↓reduceIte]
  | true =>
    by_cases h : dg (I 213) L p lo hi = true
    · obtain ⟨h1, h2, h3⟩ := dg_p h
      simp +decide only [Bool.true_and, h, gb_1, mM_137.1, mM_137.2.1, mM_137.2.2.1, mM_137.2.2.2.1, mM_137.2.2.2.2.1, mM_137.2.2.2.2.2, cR, cH, mm_fixM, mm_fixN, mm_up_s, tx_r, h135, h1, h2, h3, c109, cLL, c136_y, and_true, true_and, and_false, false_and, or_true, true_or, or_false, false_or, not_true_eq_false, not_false_eq_true, decide_eq_true_eq, decide_true, decide_false, Bool.not_true, Bool.not_false, Bool.and_true, Bool.true_and, Bool.and_false, Bool.false_and, Bool.false_eq_true, eq_self, ↓reduceIte]
    · by_cases h1 : p < L
      · by_cases h2 : I 213 p - 48 < lo
        · simp +decide only [Bool.true_and, h, gb_1, gb_0, mM_137.1, mM_137.2.1, mM_137.2.2.1, mM_137.2.2.2.1, mM_137.2.2.2.2.1, mM_137.2.2.2.2.2, cR, cH, mm_fixM, mm_fixN, mm_up_s, tx_r, h135, h1, h2, c109, cLL, c136_n (f := f) (p := p) (l := l) (g := 1) (a := 0) (Or.inr rfl), and_true, true_and, and_false, false_and, or_true, true_or, or_false, false_or, not_true_eq_false, not_false_eq_true, decide_eq_true_eq, decide_true, decide_false, Bool.not_true, Bool.not_false, Bool.and_true, Bool.true_and, Bool.and_false, Bool.false_and, Bool.false_eq_true, eq_self, ↓reduceIte]
        · have h3 : hi < I 213 p - 48 := Classical.byContradiction fun h3 => h (decide_eq_true ⟨h1, h2, h3⟩)
          simp +decide only [Bool.true_and, h, gb_1, gb_0, mM_137.1, mM_137.2.1, mM_137.2.2.1, mM_137.2.2.2.1, mM_137.2.2.2.2.1, mM_137.2.2.2.2.2, cR, cH, mm_fixM, mm_fixN, mm_up_s, tx_r, h135, h1, h2, h3, c109, cLL, c136_n (f := f) (p := p) (l := l) (g := 1) (a := 0) (Or.inr rfl), and_true, true_and, and_false, false_and, or_true, true_or, or_false, false_or, not_true_eq_false, not_false_eq_true, decide_eq_true_eq, decide_true, decide_false, Bool.not_true, Bool.not_false, Bool.and_true, Bool.true_and, Bool.and_false, Bool.false_and, Bool.false_eq_true, eq_self, ↓reduceIte]
      · have h2 : (-1 : Int32) - 48 < lo := Classical.byContradiction m1
        simp +decide only [Bool.true_and, h, gb_1, gb_0, mM_137.1, mM_137.2.1, mM_137.2.2.1, mM_137.2.2.2.1, mM_137.2.2.2.2.1, mM_137.2.2.2.2.2, cR, cH, mm_fixM, mm_fixN, mm_up_s, tx_r, h135, h1, h2, c109, cLL, c136_n (f := f) (p := p) (l := l) (g := 1) (a := 0) (Or.inr rfl), and_true, true_and, and_false, false_and, or_true, true_or, or_false, false_or, not_true_eq_false, not_false_eq_true, decide_eq_true_eq, decide_true, decide_false, Bool.not_true, Bool.not_false, Bool.and_true, Bool.true_and, Bool.and_false, Bool.false_and, Bool.false_eq_true, eq_self, ↓reduceIte]
theorem td_le (T : Nat → Int32) (L : Nat) (lo hi : Int32) (s : Nat × Bool) : (td T L lo hi s).2.1 ≤ s.1 + 1 := by
  unfold td
  split
  · exact Nat.le_refl _
  · exact Nat.le_succ _
def tkey (T : Nat → Int32) (L : Nat) (s : Nat × Bool) : Int32 × Nat × Bool := (10 * (td T L 0 5 s).1 + (td T L 0 9 (td T L 0 5 s).2).1, (td T L 0 9 (td T L 0 5 s).2).2)
theorem c139 {f : Nat → Int32} {L p : Nat} {g : Bool} {l : Int32} (hL : f 9 = nI L) (hL2 : L ≤ 120) (hpp : p ≤ 190) : mm_C (mm_entry 139 [.ref 206] (hp sc (mm_up I 206 (tx f (nI p) (gb g) l)) o t)) Q ↔ Q (.inl (some (.int (tkey (I 213) L (p, g)).1))) (hp sc (mm_up I 206 (tx f (nI (tkey (I 213) L (p, g)).2.1) (gb (tkey (I 213) L (p, g)).2.2) l)) o t) := by
  have b1 := td_le (I 213) L 0 5 (p, g)
  have k1 := fun (Q : mm_Q) => c137 (sc := sc) (o := o) (t := t) (Q := Q) (I := I) (f := f) (p := p) (g := g) (l := l) (lo := 0) (hi := 5) hL hL2 (by omega) (Or.inl rfl)
  have k2 := fun (Q : mm_Q) => c137 (sc := sc) (o := o) (t := t) (Q := Q) (I := I) (f := f) (p := (td (I 213) L 0 5 (p, g)).2.1) (g := (td (I 213) L 0 5 (p, g)).2.2) (l := l) (lo := 0) (hi := 9) hL hL2 (by have : (p, g).1 = p := rfl; omega) (Or.inl rfl)
  simp +decide only [mM_139.1, mM_139.2, cR, cH, mm_fixM, mm_fixN, k1, k2, tkey]
def tf1 (T : Nat → Int32) (L : Nat) (s : Nat × Bool) : Int32 × Nat × Bool := td T L 0 1 s
def tf2 (T : Nat → Int32) (L : Nat) (s : Nat × Bool) : Int32 × Nat × Bool := td T L 0 (if (tf1 T L s).1 = 1 then 0 else 9) (tf1 T L s).2
def tf3 (T : Nat → Int32) (L : Nat) (s : Nat × Bool) : Int32 × Nat × Bool := td T L (if (tf1 T L s).1 + (tf2 T L s).1 = 0 then 1 else 0) (if (tf1 T L s).1 = 1 then 0 else 9) (tf2 T L s).2
def tforce (T : Nat → Int32) (L : Nat) (s : Nat × Bool) : Int32 × Nat × Bool := (100 * (tf1 T L s).1 + 10 * (tf2 T L s).1 + (tf3 T L s).1, (tf3 T L s).2)
theorem c138 {f : Nat → Int32} {L p : Nat} {g : Bool} {l : Int32} (hL : f 9 = nI L) (hL2 : L ≤ 120) (hpp : p ≤ 190) : mm_C (mm_entry 138 [.ref 206] (hp sc (mm_up I 206 (tx f (nI p) (gb g) l)) o t)) Q ↔ Q (.inl (some (.int (tforce (I 213) L (p, g)).1))) (hp sc (mm_up I 206 (tx f (nI (tforce (I 213) L (p, g)).2.1) (gb (tforce (I 213) L (p, g)).2.2) l)) o t) := by
  have e0 : (p, g).1 = p := rfl
  have b1 : (tf1 (I 213) L (p, g)).2.1 ≤ p + 1 := td_le (I 213) L 0 1 (p, g)
  have b2 : (tf2 (I 213) L (p, g)).2.1 ≤ (tf1 (I 213) L (p, g)).2.1 + 1 := td_le _ _ _ _ _
  have k1 := fun (Q : mm_Q) => c137 (sc := sc) (o := o) (t := t) (Q := Q) (I := I) (f := f) (p := p) (g := g) (l := l) (lo := 0) (hi := 1) hL hL2 (by omega) (Or.inl rfl)
  have k2 := fun (Q : mm_Q) (x : Int32) => c137 (sc := sc) (o := o) (t := t) (Q := Q) (I := I) (f := f) (p := (tf1 (I 213) L (p, g)).2.1) (g := (tf1 (I 213) L (p, g)).2.2) (l := l) (lo := 0) (hi := x) hL hL2 (by omega) (Or.inl rfl)
  have k3 := fun (Q : mm_Q) (x : Int32) => c137 (sc := sc) (o := o) (t := t) (Q := Q) (I := I) (f := f) (p := (tf2 (I 213) L (p, g)).2.1) (g := (tf2 (I 213) L (p, g)).2.2) (l := l) (lo := if (tf1 (I 213) L (p, g)).1 + (tf2 (I 213) L (p, g)).1 = 0 then 1 else 0) (hi := x) hL hL2 (by omega) (by split; exact Or.inr rfl; exact Or.inl rfl)
  have q1 : td (I 213) L 0 1 (p, g) = tf1 (I 213) L (p, g) := rfl
  have q2 : td (I 213) L 0 (if (tf1 (I 213) L (p, g)).1 = 1 then 0 else 9) (tf1 (I 213) L (p, g)).2 = tf2 (I 213) L (p, g) := rfl
  have q2' : ∀ x, td (I 213) L 0 x ((tf1 (I 213) L (p, g)).2.1, (tf1 (I 213) L (p, g)).2.2) = td (I 213) L 0 x (tf1 (I 213) L (p, g)).2 := fun _ => rfl
  have q3 : td (I 213) L (if (tf1 (I 213) L (p, g)).1 + (tf2 (I 213) L (p, g)).1 = 0 then 1 else 0) (if (tf1 (I 213) L (p, g)).1 = 1 then 0 else 9) (tf2 (I 213) L (p, g)).2 = tf3 (I 213) L (p, g) := rfl
  have q3' : ∀ x y, td (I 213) L y x ((tf2 (I 213) L (p, g)).2.1, (tf2 (I 213) L (p, g)).2.2) = td (I 213) L y x (tf2 (I 213) L (p, g)).2 := fun _ _ => rfl
  unfold tforce
  rw [q1] at k1
  simp only [q2'] at k2
  simp only [q3'] at k3
  by_cases h1 : (tf1 (I 213) L (p, g)).1 = 1 <;> by_cases h2 : (tf1 (I 213) L (p, g)).1 + (tf2 (I 213) L (p, g)).1 = 0
  · rw [if_pos h1] at q2 q3
    rw [if_pos h2] at q3
    simp only [if_pos h2] at k3
    simp only [h1] at h2
    simp +decide only [mM_138.1, mM_138.2.1, mM_138.2.2.1, mM_138.2.2.2.1, mM_138.2.2.2.2.1, mM_138.2.2.2.2.2.1, mM_138.2.2.2.2.2.2.1, mM_138.2.2.2.2.2.2.2, cR, cH, mm_fixM, mm_fixN, k1, k2, k3, q2, q3, h1, h2, ↓reduceIte]
  · rw [if_pos h1] at q2 q3
    rw [if_neg h2] at q3
    simp only [if_neg h2] at k3
    simp only [h1] at h2
    simp +decide only [mM_138.1, mM_138.2.1, mM_138.2.2.1, mM_138.2.2.2.1, mM_138.2.2.2.2.1, mM_138.2.2.2.2.2.1, mM_138.2.2.2.2.2.2.1, mM_138.2.2.2.2.2.2.2, cR, cH, mm_fixM, mm_fixN, k1, k2, k3, q2, q3, h1, h2, ↓reduceIte]
  · rw [if_neg h1] at q2 q3
    rw [if_pos h2] at q3
    simp only [if_pos h2] at k3
    simp +decide only [mM_138.1, mM_138.2.1, mM_138.2.2.1, mM_138.2.2.2.1, mM_138.2.2.2.2.1, mM_138.2.2.2.2.2.1, mM_138.2.2.2.2.2.2.1, mM_138.2.2.2.2.2.2.2, cR, cH, mm_fixM, mm_fixN, k1, k2, k3, q2, q3, h1, h2, ↓reduceIte]
  · rw [if_neg h1] at q2 q3
    rw [if_neg h2] at q3
    simp only [if_neg h2] at k3
    simp +decide only [mM_138.1, mM_138.2.1, mM_138.2.2.1, mM_138.2.2.2.1, mM_138.2.2.2.2.1, mM_138.2.2.2.2.2.1, mM_138.2.2.2.2.2.2.1, mM_138.2.2.2.2.2.2.2, cR, cH, mm_fixM, mm_fixN, k1, k2, k3, q2, q3, h1, h2, ↓reduceIte]
theorem c140_1 {f : Nat → Int32} {p : Nat} {l : Int32} : mm_C (mm_entry 140 [.ref 206, .int 1] (hp sc (mm_up I 206 (tx f (nI p) 1 l)) o t)) Q ↔ Q (.inl (some (.int 1))) (hp sc (mm_up I 206 (tx f (nI p) 1 l)) o t) := by
  simp +decide only [mM_140.1, mM_140.2.1, mM_140.2.2.1, mM_140.2.2.2.1, mM_140.2.2.2.2.1, mM_140.2.2.2.2.2, cR, cH, mm_fixM, mm_fixN, mm_up_s, mm_up_up, tx_r, tx_12, Int32.add_zero, ↓reduceIte]
theorem c140_0 {f : Nat → Int32} {p : Nat} {l : Int32} : mm_C (mm_entry 140 [.ref 206, .int 0] (hp sc (mm_up I 206 (tx f (nI p) 1 l)) o t)) Q ↔ Q (.inl (some (.int 0))) (hp sc (mm_up I 206 (tx f (nI p) 1 (l + 1))) o t) := by
  simp +decide only [mM_140.1, mM_140.2.1, mM_140.2.2.1, mM_140.2.2.2.1, mM_140.2.2.2.2.1, mM_140.2.2.2.2.2, cR, cH, mm_fixM, mm_fixN, mm_up_s, mm_up_up, tx_r, tx_12, ↓reduceIte]
theorem c140_n {f : Nat → Int32} {p : Nat} {l a : Int32} : mm_C (mm_entry 140 [.ref 206, .int a] (hp sc (mm_up I 206 (tx f (nI p) 0 l)) o t)) Q ↔ Q (.inl (some (.int 0))) (hp sc (mm_up I 206 (tx f (nI p) 0 l)) o t) := by
  simp +decide only [mM_140.1, mM_140.2.1, mM_140.2.2.1, mM_140.2.2.2.1, mM_140.2.2.2.2.1, mM_140.2.2.2.2.2, cR, cH, mm_fixM, mm_fixN, mm_up_s, mm_up_up, tx_r, tx_12, Int32.add_zero, ↓reduceIte]
end WQ
