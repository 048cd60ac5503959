/-! the law's own questions: now, loudestAfter, draw, in -/
section XN
variable {sc : Nat × (Nat → Int32)} {I : Nat → Nat → Int32} {o : Int64} {t : Nat} {Q : mm_Q} {B : Nat} {r : Nat → Int32}
def nw_v (r : Nat → Int32) : Nat → Int64 → Int64
  | 0, v => v
  | n + 1, v => nw_v r n (Int64.ofNat 31 * v + (r (5 * (5 - n))).toInt64 + Int64.ofNat 10 * (r (5 * (5 - n) + 1)).toInt64 + Int64.ofNat 1000 * (r (5 * (5 - n) + 3)).toInt64)
def nw_k (r : Nat → Int32) : Nat → Int64 → Int64
  | 0, v => v
  | n + 1, v => nw_k r n (Int64.ofNat 31 * v + bJ (0 < r (30 + 2 * (59 - n))))
def nw_0 (r : Nat → Int32) : Int64 := Int64.ofNat 337 + (r 162).toInt64 + (if r 150 = 0 then Int64.ofNat 0 else Int64.ofNat 100000)
def nw_e (r : Nat → Int32) (v : Int64) : Int64 := Int64.ofNat 31 * (Int64.ofNat 31 * v + (r 158).toInt64 + Int64.ofNat 1000 * (r 160).toInt64 + Int64.ofNat 1000000 * (r 161).toInt64) + (r 152).toInt64 + Int64.ofNat 10 * (mo_lt r).toInt64 + Int64.ofNat 1000 * (mo_old r 1 6 (-1)).toInt64
def nowR (r : Nat → Int32) : Int64 := nw_e r (nw_k r 60 (nw_v r 6 (nw_0 r)))
theorem e131_6 (h : SX 0 0 B I 3 r) {v : Int64} {x3 : Option Value} : mm_C (131, mm_blk 131 6, [some (.ref 0), some (.long v), none, x3], [], (hp sc I o t)) Q ↔ Q (.inl (some (.long (nw_e r v)))) (hp sc I o t) := by
  rw [mM_131.2.2.2.2.2.2.2]
  simp +decide only [cR, cH, mm_fixA, g75 h, g77 h, g78 h, g80 h, g73 h, g66 h, ↓reduceIte]
  rfl
theorem e131_k (h : SX 0 0 B I 3 r) (n : Nat) : n ≤ 60 → ∀ {v : Int64}, mm_C (131, mm_blk 131 5, [some (.ref 0), some (.long v), none, some (.int (nI (60 - n)))], [], (hp sc I o t)) Q ↔ Q (.inl (some (.long (nw_e r (nw_k r n v))))) (hp sc I o t) := by
  induction n with
  | zero =>
    intro hn v
    rw [mM_131.2.2.2.2.2.2.1]
    simp +decide only [cR, cH, Nat.sub_zero, cK60, e131_6 h, nw_k, ↓reduceIte]
  | succ n ih =>
    intro hn v
    have hk : 59 - n < 60 := by omega
    have e1 : 60 - (n + 1) = 59 - n := by omega
    have e2 : 59 - n + 1 = 60 - n := by omega
    rw [mM_131.2.2.2.2.2.2.1, e1]
    simp +decide only [cR, cH, mm_fixA, cK hk, e2, e114 h hk, ih (by omega), nw_k, ↓reduceIte]
theorem e131_v (h : SX 0 0 B I 3 r) (n : Nat) : n ≤ 6 → ∀ {v : Int64}, mm_C (131, mm_blk 131 3, [some (.ref 0), some (.long v), none, some (.int (nI (6 - n)))], [], (hp sc I o t)) Q ↔ Q (.inl (some (.long (nw_e r (nw_k r 60 (nw_v r n v)))))) (hp sc I o t) := by
  induction n with
  | zero =>
    intro hn v
    have e0 := fun (v : Int64) (Q : mm_Q) => e131_k (sc := sc) (o := o) (t := t) (Q := Q) h 60 (Nat.le_refl _) (v := v)
    have e2 : nI (60 - 60) = 0 := rfl
    rw [e2] at e0
    rw [mM_131.2.2.2.2.1]
    simp +decide only [mM_131.2.2.2.2.2.1, cR, cH, Nat.sub_zero, cV66, e0, nw_v, ↓reduceIte]
  | succ n ih =>
    intro hn v
    have hk : 5 - n < 6 := by omega
    have e1 : 6 - (n + 1) = 5 - n := by omega
    have e2 : 5 - n + 1 = 6 - n := by omega
    rw [mM_131.2.2.2.2.1, e1]
    simp +decide only [cR, cH, mm_fixA, cV6 hk, e2, e110 h hk, e111 h hk, e112 h hk, ih (by omega), nw_v, ↓reduceIte]
theorem e131 (h : SX 0 0 B I 3 r) : mm_C (mm_entry 131 [.ref 0] (hp sc I o t)) Q ↔ Q (.inl (some (.long (nowR r)))) (hp sc I o t) := by
  have e0 := fun (v : Int64) (Q : mm_Q) => e131_v (sc := sc) (o := o) (t := t) (Q := Q) h 6 (Nat.le_refl _) (v := v)
  have e2 : nI (6 - 6) = 0 := rfl
  rw [e2] at e0
  unfold nowR nw_0
  by_cases c : r 150 = 0 <;> simp +decide only [mM_131.1, mM_131.2.1, mM_131.2.2.1, mM_131.2.2.2.1, cR, cH, mm_fixA, g79 h, g74 h, c, e0, ↓reduceIte]
def la_v (r : Nat → Int32) : Nat → Int64 → Int64
  | 0, v => v
  | n + 1, v => la_v r n (v + (r (5 * (5 - n) + 3)).toInt64)
theorem e135_v (h : SX 0 0 B I 3 r) (n : Nat) : n ≤ 6 → ∀ {v : Int64}, mm_C (135, mm_blk 135 1, [some (.ref 0), some (.long v), none, some (.int (nI (6 - n)))], [], (hp sc I o t)) Q ↔ Q (.inl (some (.long (la_v r n v)))) (hp sc I o t) := by
  induction n with
  | zero =>
    intro hn v
    rw [mM_135.2.2.1]
    simp +decide only [mM_135.2.2.2, cR, cH, Nat.sub_zero, cV66, la_v, ↓reduceIte]
  | succ n ih =>
    intro hn v
    have hk : 5 - n < 6 := by omega
    have e1 : 6 - (n + 1) = 5 - n := by omega
    have e2 : 5 - n + 1 = 6 - n := by omega
    rw [mM_135.2.2.1, e1]
    simp +decide only [cR, cH, mm_fixA, cV6 hk, e2, e112 h hk, ih (by omega), la_v, ↓reduceIte]
theorem e135 (h : SX 0 0 B I 3 r) : mm_C (mm_entry 135 [.ref 0] (hp sc I o t)) Q ↔ Q (.inl (some (.long (la_v r 6 (Int64.ofNat 0))))) (hp sc I o t) := by
  have e0 := fun (v : Int64) (Q : mm_Q) => e135_v (sc := sc) (o := o) (t := t) (Q := Q) h 6 (Nat.le_refl _) (v := v)
  have e2 : nI (6 - 6) = 0 := rfl
  rw [e2] at e0
  simp +decide only [mM_135.1, mM_135.2.1, cR, cH, e0, ↓reduceIte]
/-- loudestAfter is the loudness -/
theorem la_loud (h : SX 0 0 B I 3 r) : la_v r 6 (Int64.ofNat 0) = (mo_loud r).toInt64 := by
  have h1 : ∀ n, n ≤ 6 → ∀ (m : Nat) (v : Int64) (c : Int32), m ≤ 1000 * (6 - n) → v = Int64.ofNat m → c = nI m → la_v r n v = (sy_fold (fun v c => c + r (5 * v + 3)) n c).toInt64 := by
    intro n
    induction n with
    | zero =>
      intro _ m v c hm hv hc
      show v = c.toInt64
      rw [hv, hc, nI_l (by omega)]
      rfl
    | succ n ih =>
      intro hn m v c hm hv hc
      obtain ⟨l, hl, el⟩ := VR_lvl (h.1 (5 - n) (by omega))
      have el : r (5 * (5 - n) + 3) = nI l := by rw [(h.1 (5 - n) (by omega)).2.2.1]; exact el
      refine ih (by omega) (m + l) _ _ (by omega) ?_ ?_
      · rw [hv, el, nI_l (by omega)]
        exact (Int64.ofNat_add m l).symm
      · show c + r (5 * (5 - n) + 3) = _
        rw [hc, el, nI_add]
  exact h1 6 (by omega) 0 _ _ (by omega) rfl rfl
theorem e107 {v a b : Int64} : mm_C (mm_entry 107 [.long v, .long a, .long b] (hp sc I o t)) Q ↔ Q (.inl (some (.int (if a ≤ v ∧ v ≤ b then 1 else 0)))) (hp sc I o t) := by
  have n1 : (v < a) = ¬ a ≤ v := by rw [Int64.not_le]
  have n2 : (b < v) = ¬ v ≤ b := by rw [Int64.not_le]
  by_cases c3 : v = b
  · have c3 := eq_true c3
    by_cases c1 : a ≤ v <;> by_cases c2 : v ≤ b <;> simp +decide only [mM_107.1, mM_107.1, mM_107.2.1, mM_107.2.2.1, mM_107.2.2.2, cR, cH, ↓kL, kLi, kM, kN9, n1, n2, c1, c2, c3, and_true, true_and, and_false, false_and, or_true, true_or, or_false, false_or, not_true_eq_false, not_false_eq_true, decide_eq_true_eq, decide_true, decide_false, Bool.not_true, Bool.not_false, Bool.and_true, Bool.true_and, Bool.and_false, Bool.false_and, Bool.false_eq_true, eq_self, ↓reduceIte]
  · have c3 := eq_false c3
    by_cases c1 : a ≤ v <;> by_cases c2 : v ≤ b <;> simp +decide only [mM_107.1, mM_107.1, mM_107.2.1, mM_107.2.2.1, mM_107.2.2.2, cR, cH, ↓kL, kLi, kM, kN9, n1, n2, c1, c2, c3, and_true, true_and, and_false, false_and, or_true, true_or, or_false, false_or, not_true_eq_false, not_false_eq_true, decide_eq_true_eq, decide_true, decide_false, Bool.not_true, Bool.not_false, Bool.and_true, Bool.true_and, Bool.and_false, Bool.false_and, Bool.false_eq_true, eq_self, ↓reduceIte]
end XN
