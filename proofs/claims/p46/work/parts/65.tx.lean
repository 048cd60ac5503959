/-! the class: the commands of the text -/
section WP
variable {sc : Nat × (Nat → Int32)} {I : Nat → Nat → Int32} {o : Int64} {t : Nat} {Q : mm_Q}
theorem sw_all {x v : Int32} {ax : List Nat} {d : Nat} (h : ∀ j : Nat, j + 1 < ax.length → ¬ v.toInt = x.toInt + j ∨ ax.getD (j + 1) 0 = d) (h0 : ax.getD 0 0 = d) : mm_sw x ax v = d := by
  unfold mm_sw
  split
  · next hc =>
    have h1 := Int32.le_iff_toInt_le.mp hc.1
    rcases h _ hc.2 with h2 | h2
    · omega
    · exact h2
  · exact h0
def pe_cmd (T : Nat → Int32) (L p : Nat) : Int32 := if T p = 112 then (if pe_key T L (p + 1) = -1 then pe_force T L (p + 3) else pe_key T L (p + 1)) else if T p = 114 then pe_key T L (p + 1) else if T p = 116 then pe_tick T L (p + 1) else if T p = 115 then pe_rule T L (p + 1) else if T p = 100 ∨ T p = 117 then -1 else nI p
theorem sw_t {v : Int32} {n : Nat} (hn : n < 2 ^ 31) (h : ¬ v = nI n) : ¬ v.toInt = n := fun e => h (Int32.toInt_inj.mp (by rw [nI_toInt hn]; exact e))
theorem c11_sw : mm_sw 100 [8, 7, 8, 8, 8, 8, 8, 8, 8, 8, 8, 8, 8, 1, 8, 4, 6, 5, 7] 112 = 1 ∧ mm_sw 100 [8, 7, 8, 8, 8, 8, 8, 8, 8, 8, 8, 8, 8, 1, 8, 4, 6, 5, 7] 114 = 4 ∧ mm_sw 100 [8, 7, 8, 8, 8, 8, 8, 8, 8, 8, 8, 8, 8, 1, 8, 4, 6, 5, 7] 116 = 5 ∧ mm_sw 100 [8, 7, 8, 8, 8, 8, 8, 8, 8, 8, 8, 8, 8, 1, 8, 4, 6, 5, 7] 115 = 6 ∧ mm_sw 100 [8, 7, 8, 8, 8, 8, 8, 8, 8, 8, 8, 8, 8, 1, 8, 4, 6, 5, 7] 100 = 7 ∧ mm_sw 100 [8, 7, 8, 8, 8, 8, 8, 8, 8, 8, 8, 8, 8, 1, 8, 4, 6, 5, 7] 117 = 7 := by decide
theorem c11_df {v : Int32} (h1 : ¬ v = 112) (h2 : ¬ v = 114) (h3 : ¬ v = 116) (h4 : ¬ v = 115) (h5 : ¬ v = 100) (h6 : ¬ v = 117) : mm_sw 100 [8, 7, 8, 8, 8, 8, 8, 8, 8, 8, 8, 8, 8, 1, 8, 4, 6, 5, 7] v = 8 := by
  refine sw_all (fun j hj => ?_) rfl
  have e : (100 : Int32).toInt = 100 := by decide
  rw [e]
  have hj : j < 18 := by simp at hj; omega
  have a1 := sw_t (n := 112) (by omega) h1
  have a2 := sw_t (n := 114) (by omega) h2
  have a3 := sw_t (n := 116) (by omega) h3
  have a4 := sw_t (n := 115) (by omega) h4
  have a5 := sw_t (n := 100) (by omega) h5
  have a6 := sw_t (n := 117) (by omega) h6
  match j, hj with
  | 0, _ => exact Or.inl (by omega)
  | 1, _ => exact Or.inr rfl
  | 2, _ => exact Or.inr rfl
  | 3, _ => exact Or.inr rfl
  | 4, _ => exact Or.inr rfl
  | 5, _ => exact Or.inr rfl
  | 6, _ => exact Or.inr rfl
  | 7, _ => exact Or.inr rfl
  | 8, _ => exact Or.inr rfl
  | 9, _ => exact Or.inr rfl
  | 10, _ => exact Or.inr rfl
  | 11, _ => exact Or.inr rfl
  | 12, _ => exact Or.inl (by omega)
  | 13, _ => exact Or.inr rfl
  | 14, _ => exact Or.inl (by omega)
  | 15, _ => exact Or.inl (by omega)
  | 16, _ => exact Or.inl (by omega)
  | 17, _ => exact Or.inl (by omega)
  | n + 18, h => exact absurd h (by omega)
theorem pe_key_ok {T : Nat → Int32} {L p : Nat} (hpp : p ≤ 200) (h : pe_key T L p = -1) : dg T L p 0 5 = true ∧ dg T L (p + 1) 0 9 = true := by
  have hn : ∀ n, n < 1000 → ¬ nI n = -1 := fun n hn e => by
    have := congrArg Int32.toInt e
    rw [nI_toInt (by omega), show (-1 : Int32).toInt = -1 by decide] at this
    omega
  unfold pe_key at h
  by_cases h1 : dg T L p 0 5 = true
  · rw [if_pos h1] at h
    by_cases h2 : dg T L (p + 1) 0 9 = true
    · exact ⟨h1, h2⟩
    · rw [if_neg h2] at h
      exact absurd h (hn _ (by omega))
  · rw [if_neg h1] at h
    exact absurd h (hn _ (by omega))
theorem cN3 (p : Nat) : nI p + 1 = nI (p + 1) ∧ nI p + 3 = nI (p + 3) := ⟨nI_1 p, nI_add p 3⟩
theorem c11 (hch : ∀ j, j < 120 → ((I 2 j).toUInt32 % 65536).toInt32 = I 2 j) {L : Nat} (hL : I 1 1 = nI L) (hL2 : L ≤ 120) {p : Nat} (hpp : p < L) : mm_C (mm_entry 11 [.ref 1, .int (nI p)] (hp sc I o t)) Q ↔ Q (.inl (some (.int (pe_cmd (I 2) L p)))) (hp sc I o t) := by
  unfold pe_cmd
  by_cases h1 : I 2 p = 112
  · by_cases h2 : pe_key (I 2) L (p + 1) = -1
    · have hp2 := (dg_p (pe_key_ok (by omega) h2).2).1
      simp +decide only [mM_11.1, mM_11.2.1, mM_11.2.2.1, mM_11.2.2.2.1, mM_11.2.2.2.2.1, mM_11.2.2.2.2.2.1, mM_11.2.2.2.2.2.2.1, mM_11.2.2.2.2.2.2.2.1, mM_11.2.2.2.2.2.2.2.2.1, mM_11.2.2.2.2.2.2.2.2.2, cR, cH, mm_fixA, c8' hch hL hL2 hpp, h1, c11_sw, cN3, c12_key hch hL hL2 (show p + 1 ≤ L by omega), h2, c12_force hch hL hL2 (show p + 3 ≤ L by omega), ↓reduceIte]
    · simp +decide only [mM_11.1, mM_11.2.1, mM_11.2.2.1, mM_11.2.2.2.1, mM_11.2.2.2.2.1, mM_11.2.2.2.2.2.1, mM_11.2.2.2.2.2.2.1, mM_11.2.2.2.2.2.2.2.1, mM_11.2.2.2.2.2.2.2.2.1, mM_11.2.2.2.2.2.2.2.2.2, cR, cH, mm_fixA, c8' hch hL hL2 hpp, h1, c11_sw, cN3, c12_key hch hL hL2 (show p + 1 ≤ L by omega), h2, ↓reduceIte]
  by_cases h2 : I 2 p = 114
  · simp +decide only [mM_11.1, mM_11.2.1, mM_11.2.2.1, mM_11.2.2.2.1, mM_11.2.2.2.2.1, mM_11.2.2.2.2.2.1, mM_11.2.2.2.2.2.2.1, mM_11.2.2.2.2.2.2.2.1, mM_11.2.2.2.2.2.2.2.2.1, mM_11.2.2.2.2.2.2.2.2.2, cR, cH, mm_fixA, c8' hch hL hL2 hpp, h2, c11_sw, cN3, c12_key hch hL hL2 (show p + 1 ≤ L by omega), ↓reduceIte]
  by_cases h3 : I 2 p = 116
  · simp +decide only [mM_11.1, mM_11.2.1, mM_11.2.2.1, mM_11.2.2.2.1, mM_11.2.2.2.2.1, mM_11.2.2.2.2.2.1, mM_11.2.2.2.2.2.2.1, mM_11.2.2.2.2.2.2.2.1, mM_11.2.2.2.2.2.2.2.2.1, mM_11.2.2.2.2.2.2.2.2.2, cR, cH, mm_fixA, c8' hch hL hL2 hpp, h3, c11_sw, cN3, c12_tick hch hL hL2 (show p + 1 ≤ L by omega), ↓reduceIte]
  by_cases h4 : I 2 p = 115
  · simp +decide only [mM_11.1, mM_11.2.1, mM_11.2.2.1, mM_11.2.2.2.1, mM_11.2.2.2.2.1, mM_11.2.2.2.2.2.1, mM_11.2.2.2.2.2.2.1, mM_11.2.2.2.2.2.2.2.1, mM_11.2.2.2.2.2.2.2.2.1, mM_11.2.2.2.2.2.2.2.2.2, cR, cH, mm_fixA, c8' hch hL hL2 hpp, h4, c11_sw, cN3, c12_rule hch hL hL2 (show p + 1 ≤ L by omega), ↓reduceIte]
  by_cases h5 : I 2 p = 100
  · simp +decide only [mM_11.1, mM_11.2.1, mM_11.2.2.1, mM_11.2.2.2.1, mM_11.2.2.2.2.1, mM_11.2.2.2.2.2.1, mM_11.2.2.2.2.2.2.1, mM_11.2.2.2.2.2.2.2.1, mM_11.2.2.2.2.2.2.2.2.1, mM_11.2.2.2.2.2.2.2.2.2, cR, cH, mm_fixA, c8' hch hL hL2 hpp, h5, c11_sw, true_or, ↓reduceIte]
  by_cases h6 : I 2 p = 117
  · simp +decide only [mM_11.1, mM_11.2.1, mM_11.2.2.1, mM_11.2.2.2.1, mM_11.2.2.2.2.1, mM_11.2.2.2.2.2.1, mM_11.2.2.2.2.2.2.1, mM_11.2.2.2.2.2.2.2.1, mM_11.2.2.2.2.2.2.2.2.1, mM_11.2.2.2.2.2.2.2.2.2, cR, cH, mm_fixA, c8' hch hL hL2 hpp, h6, c11_sw, or_true, ↓reduceIte]
  · simp +decide only [mM_11.1, mM_11.2.1, mM_11.2.2.1, mM_11.2.2.2.1, mM_11.2.2.2.2.1, mM_11.2.2.2.2.2.1, mM_11.2.2.2.2.2.2.1, mM_11.2.2.2.2.2.2.2.1, mM_11.2.2.2.2.2.2.2.2.1, mM_11.2.2.2.2.2.2.2.2.2, cR, cH, mm_fixA, c8' hch hL hL2 hpp, h1, h2, h3, h4, h5, h6, c11_df h1 h2 h3 h4 h5 h6, or_false, ↓reduceIte]
/-- the first error from a place on -/
def pc_ln (c : Int32) : Nat := if c = 112 then 6 else if c = 114 then 3 else if c = 116 then 3 else if c = 115 then 2 else 1
theorem pc_ln_c (c : Int32) : pc_len c = nI (pc_ln c) ∧ 1 ≤ pc_ln c ∧ pc_ln c ≤ 6 := by
  unfold pc_len pc_ln
  split
  · exact ⟨rfl, by decide⟩
  · split
    · exact ⟨rfl, by decide⟩
    · split
      · exact ⟨rfl, by decide⟩
      · split
        · exact ⟨rfl, by decide⟩
        · exact ⟨rfl, by decide⟩
def pe_all (T : Nat → Int32) (L : Nat) : Nat → Nat → Int32
  | 0, _ => -1
  | n + 1, p => if p < L then (if pe_cmd T L p = -1 then pe_all T L n (p + pc_ln (T p)) else pe_cmd T L p) else -1
theorem c9_n (hch : ∀ j, j < 120 → ((I 2 j).toUInt32 % 65536).toInt32 = I 2 j) {L : Nat} (hL : I 1 1 = nI L) (hL2 : L ≤ 120) (n : Nat) : ∀ (hn : n ≤ 120) {p : Nat} {x3 : Option Value} (hpp : p ≤ 1000 - 6 * n), mm_C (9, mm_blk 9 2, [some (.ref 1), some (.int (nI p)), some (.int (nI (120 - n))), x3], [], (hp sc I o t)) Q ↔ Q (.inl (some (.int (pe_all (I 2) L n p)))) (hp sc I o t) := by
  induction n with
  | zero =>
    intro hn p x3 hpp
    rw [mM_9.2.2.2.1]
    have e : nI 120 = 120 := rfl
    simp +decide only [mM_9.1, mM_9.2.1, mM_9.2.2.1, mM_9.2.2.2.2.1, mM_9.2.2.2.2.2, cR, cH, Nat.sub_zero, e, pe_all, ↓reduceIte]
  | succ n ih =>
    intro hn p x3 hpp
    have e1 : 120 - (n + 1) = 119 - n := by omega
    have e2 : nI (119 - n) + 1 = nI (120 - n) := by rw [nI_1]; congr 1; omega
    have e3 : nI (119 - n) < 120 := nI_lt (b := 120) (by omega) (by omega)
    rw [mM_9.2.2.2.1, e1]
    unfold pe_all
    by_cases h1 : p < L
    · have h2 : nI p < nI L := nI_lt h1 (by omega)
      obtain ⟨l1, l2, l3⟩ := pc_ln_c (I 2 p)
      have ih1 := fun (w : Int32) => ih (by omega) (p := p + pc_ln (I 2 p)) (x3 := some (.int w)) (by omega)
      by_cases h3 : pe_cmd (I 2) L p = -1 <;> simp +decide only [mM_9.1, mM_9.2.1, mM_9.2.2.1, mM_9.2.2.2.2.1, mM_9.2.2.2.2.2, cR, cH, mm_fixA, mm_fixB, e2, e3, hL, h1, h2, c11 hch hL hL2 h1, c10' hch hL hL2 h1, l1, nI_add, h3, ih1, ↓reduceIte]
    · have h2 : ¬ nI p < nI L := nI_nlt (by omega) (by omega)
      simp +decide only [mM_9.1, mM_9.2.1, mM_9.2.2.1, mM_9.2.2.2.2.1, mM_9.2.2.2.2.2, cR, cH, mm_fixA, mm_fixB, e2, e3, hL, h1, h2, ↓reduceIte]
def pe_err (T : Nat → Int32) (L : Nat) : Int32 := if 0 < L ∧ T 0 = 86 then pe_all T L 120 1 else 0
theorem c9 (hch : ∀ j, j < 120 → ((I 2 j).toUInt32 % 65536).toInt32 = I 2 j) {L : Nat} (hL : I 1 1 = nI L) (hL2 : L ≤ 120) : mm_C (mm_entry 9 [.ref 1] (hp sc I o t)) Q ↔ Q (.inl (some (.int (pe_err (I 2) L)))) (hp sc I o t) := by
  have e0 : nI 0 = 0 := rfl
  have e9 : nI 1 = 1 := rfl
  unfold pe_err
  by_cases h0 : 0 < L
  · have h8 := fun (Q : mm_Q) => c8' (sc := sc) (o := o) (t := t) (Q := Q) hch hL hL2 h0
    rw [e0] at h8
    by_cases h1 : I 2 0 = 86
    · have hc := c9_n (sc := sc) (o := o) (t := t) (Q := Q) hch hL hL2 120 (Nat.le_refl _) (p := 1) (x3 := none) (by omega)
      rw [Nat.sub_self, e0, e9] at hc
      simp +decide only [mM_9.1, mM_9.2.1, mM_9.2.2.1, mM_9.2.2.2.2.1, mM_9.2.2.2.2.2, cR, cH, mm_fixA, h8, h1, h0, hc, and_self, ↓reduceIte]
    · simp +decide only [mM_9.1, mM_9.2.1, mM_9.2.2.1, mM_9.2.2.2.2.1, mM_9.2.2.2.2.2, cR, cH, mm_fixA, h8, h1, h0, and_false, ↓reduceIte]
  · have e : pc_at I 0 = 0 := by
      unfold pc_at
      rw [if_neg]
      rw [hL, show L = 0 by omega]
      decide
    simp +decide only [mM_9.1, mM_9.2.1, mM_9.2.2.1, mM_9.2.2.2.2.1, mM_9.2.2.2.2.2, cR, cH, mm_fixA, c8 hch, e, h0, false_and, ↓reduceIte]
theorem c58 (hch : ∀ j, j < 120 → ((I 2 j).toUInt32 % 65536).toInt32 = I 2 j) {L : Nat} (hL : I 1 1 = nI L) (hL2 : L ≤ 120) : mm_C (mm_entry 58 [.ref 0] (hp sc I o t)) Q ↔ Q (.inl (some (.int (pe_err (I 2) L)))) (hp sc I o t) := by
  simp +decide only [mM_58.1, mM_58.2, cR, cH, mm_fixA, mm_fixB, c9 hch hL hL2]
/-- numbers of the text -/
theorem c13_1 (hch : ∀ j, j < 120 → ((I 2 j).toUInt32 % 65536).toInt32 = I 2 j) {L : Nat} (hL : I 1 1 = nI L) (hL2 : L ≤ 120) {p : Nat} (hpp : p < L) : mm_C (mm_entry 13 [.ref 1, .int (nI p), .int 1] (hp sc I o t)) Q ↔ Q (.inl (some (.int (10 * 0 + (I 2 p - 48))))) (hp sc I o t) := by
  have d1 : (nI p < nI p + 1) = True := by rw [show (1 : Int32) = nI 1 from rfl, cEn (by omega) (by omega) (by omega)]; exact eq_true (by omega)
  have d2 : (nI (p + 1) < nI p + 1) = False := by rw [show (1 : Int32) = nI 1 from rfl, cEn (by omega) (by omega) (by omega)]; exact eq_false (by omega)
  have e0 : ∀ x : Int32, mm_C (13, mm_blk 13 1, [some (.ref 1), some (.int (nI p)), some (.int 1), some (.int x), some (.int (nI (p + 1)))], [], (hp sc I o t)) Q ↔ Q (.inl (some (.int x))) (hp sc I o t) := fun x => by
    rw [mM_13.2.2.1]
    simp +decide only [mM_13.1, mM_13.2.1, mM_13.2.2.2, cR, cH, d2, ↓reduceIte]
  have e1 : mm_C (13, mm_blk 13 1, [some (.ref 1), some (.int (nI p)), some (.int 1), some (.int 0), some (.int (nI p))], [], (hp sc I o t)) Q ↔ Q (.inl (some (.int (10 * 0 + (I 2 p - 48))))) (hp sc I o t) := by
    rw [mM_13.2.2.1]
    have e9 : nI p + 1 = nI (p + 1) := nI_1 p
    simp +decide only [d1, cR, cH, mm_fixA, c8' hch hL hL2 hpp, ↓reduceIte]
    simp +decide only [e9, e0]
  simp +decide only [mM_13.1, mM_13.2.1, mM_13.2.2.2, cR, cH, e1]
theorem c13_2 (hch : ∀ j, j < 120 → ((I 2 j).toUInt32 % 65536).toInt32 = I 2 j) {L : Nat} (hL : I 1 1 = nI L) (hL2 : L ≤ 120) {p : Nat} (hpp : p + 1 < L) : mm_C (mm_entry 13 [.ref 1, .int (nI p), .int 2] (hp sc I o t)) Q ↔ Q (.inl (some (.int (10 * (10 * 0 + (I 2 p - 48)) + (I 2 (p + 1) - 48))))) (hp sc I o t) := by
  have d1 : (nI p < nI p + 2) = True := by rw [show (2 : Int32) = nI 2 from rfl, cEn (by omega) (by omega) (by omega)]; exact eq_true (by omega)
  have d2 : (nI (p + 1) < nI p + 2) = True := by rw [show (2 : Int32) = nI 2 from rfl, cEn (by omega) (by omega) (by omega)]; exact eq_true (by omega)
  have d3 : (nI (p + 2) < nI p + 2) = False := by rw [show (2 : Int32) = nI 2 from rfl, cEn (by omega) (by omega) (by omega)]; exact eq_false (by omega)
  have e0 : ∀ x : Int32, mm_C (13, mm_blk 13 1, [some (.ref 1), some (.int (nI p)), some (.int 2), some (.int x), some (.int (nI (p + 2)))], [], (hp sc I o t)) Q ↔ Q (.inl (some (.int x))) (hp sc I o t) := fun x => by
    rw [mM_13.2.2.1]
    simp +decide only [mM_13.1, mM_13.2.1, mM_13.2.2.2, cR, cH, d3, ↓reduceIte]
  have e1 : ∀ x : Int32, mm_C (13, mm_blk 13 1, [some (.ref 1), some (.int (nI p)), some (.int 2), some (.int x), some (.int (nI (p + 1)))], [], (hp sc I o t)) Q ↔ Q (.inl (some (.int (10 * x + (I 2 (p + 1) - 48))))) (hp sc I o t) := fun x => by
    rw [mM_13.2.2.1]
    have e9 : nI (p + 1) + 1 = nI (p + 2) := nI_1 (p + 1)
    simp +decide only [d2, cR, cH, mm_fixA, c8' hch hL hL2 hpp, ↓reduceIte]
    simp +decide only [e9, e0]
  have e2 : ∀ x : Int32, mm_C (13, mm_blk 13 1, [some (.ref 1), some (.int (nI p)), some (.int 2), some (.int x), some (.int (nI p))], [], (hp sc I o t)) Q ↔ Q (.inl (some (.int (10 * (10 * x + (I 2 p - 48)) + (I 2 (p + 1) - 48))))) (hp sc I o t) := fun x => by
    rw [mM_13.2.2.1]
    have e9 : nI p + 1 = nI (p + 1) := nI_1 p
    simp +decide only [d1, cR, cH, mm_fixA, c8' hch hL hL2 (show p < L by omega), ↓reduceIte]
    simp +decide only [e9, e1]
  simp +decide only [mM_13.1, mM_13.2.1, mM_13.2.2.2, cR, cH, e2]
theorem c13_3 (hch : ∀ j, j < 120 → ((I 2 j).toUInt32 % 65536).toInt32 = I 2 j) {L : Nat} (hL : I 1 1 = nI L) (hL2 : L ≤ 120) {p : Nat} (hpp : p + 2 < L) : mm_C (mm_entry 13 [.ref 1, .int (nI p), .int 3] (hp sc I o t)) Q ↔ Q (.inl (some (.int (10 * (10 * (10 * 0 + (I 2 p - 48)) + (I 2 (p + 1) - 48)) + (I 2 (p + 2) - 48))))) (hp sc I o t) := by
  have d1 : (nI p < nI p + 3) = True := by rw [show (3 : Int32) = nI 3 from rfl, cEn (by omega) (by omega) (by omega)]; exact eq_true (by omega)
  have d2 : (nI (p + 1) < nI p + 3) = True := by rw [show (3 : Int32) = nI 3 from rfl, cEn (by omega) (by omega) (by omega)]; exact eq_true (by omega)
  have d3 : (nI (p + 2) < nI p + 3) = True := by rw [show (3 : Int32) = nI 3 from rfl, cEn (by omega) (by omega) (by omega)]; exact eq_true (by omega)
  have d4 : (nI (p + 3) < nI p + 3) = False := by rw [show (3 : Int32) = nI 3 from rfl, cEn (by omega) (by omega) (by omega)]; exact eq_false (by omega)
  have e0 : ∀ x : Int32, mm_C (13, mm_blk 13 1, [some (.ref 1), some (.int (nI p)), some (.int 3), some (.int x), some (.int (nI (p + 3)))], [], (hp sc I o t)) Q ↔ Q (.inl (some (.int x))) (hp sc I o t) := fun x => by
    rw [mM_13.2.2.1]
    simp +decide only [mM_13.1, mM_13.2.1, mM_13.2.2.2, cR, cH, d4, ↓reduceIte]
  have e1 : ∀ x : Int32, mm_C (13, mm_blk 13 1, [some (.ref 1), some (.int (nI p)), some (.int 3), some (.int x), some (.int (nI (p + 2)))], [], (hp sc I o t)) Q ↔ Q (.inl (some (.int (10 * x + (I 2 (p + 2) - 48))))) (hp sc I o t) := fun x => by
    rw [mM_13.2.2.1]
    have e9 : nI (p + 2) + 1 = nI (p + 3) := nI_1 (p + 2)
    simp +decide only [d3, cR, cH, mm_fixA, c8' hch hL hL2 hpp, ↓reduceIte]
    simp +decide only [e9, e0]
  have e2 : ∀ x : Int32, mm_C (13, mm_blk 13 1, [some (.ref 1), some (.int (nI p)), some (.int 3), some (.int x), some (.int (nI (p + 1)))], [], (hp sc I o t)) Q ↔ Q (.inl (some (.int (10 * (10 * x + (I 2 (p + 1) - 48)) + (I 2 (p + 2) - 48))))) (hp sc I o t) := fun x => by
    rw [mM_13.2.2.1]
    have e9 : nI (p + 1) + 1 = nI (p + 2) := nI_1 (p + 1)
    simp +decide only [d2, cR, cH, mm_fixA, c8' hch hL hL2 (show p + 1 < L by omega), ↓reduceIte]
    simp +decide only [e9, e1]
  have e3 : ∀ x : Int32, mm_C (13, mm_blk 13 1, [some (.ref 1), some (.int (nI p)), some (.int 3), some (.int x), some (.int (nI p))], [], (hp sc I o t)) Q ↔ Q (.inl (some (.int (10 * (10 * (10 * x + (I 2 p - 48)) + (I 2 (p + 1) - 48)) + (I 2 (p + 2) - 48))))) (hp sc I o t) := fun x => by
    rw [mM_13.2.2.1]
    have e9 : nI p + 1 = nI (p + 1) := nI_1 p
    simp +decide only [d1, cR, cH, mm_fixA, c8' hch hL hL2 (show p < L by omega), ↓reduceIte]
    simp +decide only [e9, e2]
  simp +decide only [mM_13.1, mM_13.2.1, mM_13.2.2.2, cR, cH, e3]
end WP
