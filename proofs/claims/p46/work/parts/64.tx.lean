/-! the class: the text -/
section WO
variable {sc : Nat × (Nat → Int32)} {I : Nat → Nat → Int32} {o : Int64} {t : Nat} {Q : mm_Q}
/-- a digit of a number of the text -/
def dg (T : Nat → Int32) (L p : Nat) (lo hi : Int32) : Bool := decide (p < L ∧ ¬ T p - 48 < lo ∧ ¬ hi < T p - 48)
theorem dg_p {T : Nat → Int32} {L p : Nat} {lo hi : Int32} (h : dg T L p lo hi = true) : p < L ∧ ¬ T p - 48 < lo ∧ ¬ hi < T p - 48 := of_decide_eq_true h
theorem dg_j {T : Nat → Int32} {L p : Nat} {lo hi : Int32} (h : dg T L p lo hi = true) (h0 : lo = 0 ∨ lo = 1) {n : Nat} (hn : n < 10) (hh : hi = nI n) : ∃ j, j ≤ n ∧ T p - 48 = nI j := by
  obtain ⟨-, h1, h2⟩ := dg_p h
  have h3 : ¬ T p - 48 < 0 := fun h => by
    have a1 := Int32.lt_iff_toInt_lt.mp h
    have a2 : ¬ (T p - 48).toInt < lo.toInt := fun h => h1 (Int32.lt_iff_toInt_lt.mpr h)
    have e0 : (0 : Int32).toInt = 0 := by decide
    have e1 : (1 : Int32).toInt = 1 := by decide
    rcases h0 with rfl | rfl <;> omega
  have h4 : T p - 48 < nI (n + 1) := by
    rw [hh] at h2
    have a2 : ¬ (nI n).toInt < (T p - 48).toInt := fun h => h2 (Int32.lt_iff_toInt_lt.mpr h)
    rw [nI_toInt (by omega)] at a2
    rw [Int32.lt_iff_toInt_lt, nI_toInt (by omega)]
    omega
  obtain ⟨j, hj, e⟩ := cJ (n := n + 1) (by omega) h3 h4
  exact ⟨j, by omega, e⟩
theorem dg_step {T : Nat → Int32} {L p : Nat} {lo hi : Int32} {c : Prop} [Decidable c] {A : Nat → Prop} {X : Prop} (hpp : p ≤ L) (hc : ∀ j, j < 10 → T p - 48 = nI j → (c ↔ (nI j < lo ∨ hi < nI j))) (hlo : ∀ x : Int32, x < 0 → x < lo) (hhi : ∀ x : Int32, 9 < x → hi < x) :
    (if p < L then (if T p - 48 < 0 ∨ 9 < T p - 48 then A p else if c then A p else X) else A L) ↔ (if dg T L p lo hi = true then X else A p) := by
  by_cases h1 : p < L
  · rw [if_pos h1]
    by_cases h2 : T p - 48 < 0 ∨ 9 < T p - 48
    · rw [if_pos h2, if_neg]
      intro h
      obtain ⟨-, b1, b2⟩ := dg_p h
      rcases h2 with h2 | h2
      · exact b1 (hlo _ h2)
      · exact b2 (hhi _ h2)
    · rw [if_neg h2]
      have h4 : ¬ T p - 48 < 0 := fun h => h2 (Or.inl h)
      have h5 : T p - 48 < nI 10 := by
        have h6 : ¬ (9 : Int32) < T p - 48 := fun h => h2 (Or.inr h)
        have a2 : ¬ (9 : Int32).toInt < (T p - 48).toInt := fun h => h6 (Int32.lt_iff_toInt_lt.mpr h)
        have e9 : (9 : Int32).toInt = 9 := by decide
        rw [Int32.lt_iff_toInt_lt, nI_toInt (by omega)]
        omega
      obtain ⟨j, hj, e⟩ := cJ (n := 10) (by omega) h4 h5
      have h7 := hc j hj e
      by_cases h8 : c
      · rw [if_pos h8, if_neg]
        intro h
        obtain ⟨-, b1, b2⟩ := dg_p h
        rw [e] at b1 b2
        rcases h7.mp h8 with h | h
        · exact b1 h
        · exact b2 h
      · rw [if_neg h8, if_pos]
        refine decide_eq_true ⟨h1, ?_, ?_⟩
        · rw [e]; exact fun h => h8 (h7.mpr (Or.inl h))
        · rw [e]; exact fun h => h8 (h7.mpr (Or.inr h))
  · rw [if_neg h1]
    have e : p = L := by omega
    rw [if_neg, e]
    intro h
    exact h1 (dg_p h).1
theorem ite_Q {α : Type} {c : Prop} [Decidable c] (f : α → Prop) {a b : α} : (if c then f a else f b) ↔ f (if c then a else b) := by split <;> rfl
theorem c8' (hch : ∀ j, j < 120 → ((I 2 j).toUInt32 % 65536).toInt32 = I 2 j) {L : Nat} (hL : I 1 1 = nI L) (hL2 : L ≤ 120) {p : Nat} (hpp : p < L) : mm_C (mm_entry 8 [.ref 1, .int (nI p)] (hp sc I o t)) Q ↔ Q (.inl (some (.int (I 2 p)))) (hp sc I o t) := by
  rw [c8 hch]
  have e : pc_at I (nI p) = I 2 p := by
    unfold pc_at
    rw [if_pos, nI_clamp (by omega)]
    rw [hL]
    exact ⟨nI_pos (by omega), nI_lt hpp (by omega), nI_lt (b := 120) (by omega) (by omega)⟩
  rw [e]
theorem c10' (hch : ∀ j, j < 120 → ((I 2 j).toUInt32 % 65536).toInt32 = I 2 j) {L : Nat} (hL : I 1 1 = nI L) (hL2 : L ≤ 120) {p : Nat} (hpp : p < L) : mm_C (mm_entry 10 [.ref 1, .int (nI p)] (hp sc I o t)) Q ↔ Q (.inl (some (.int (pc_len (I 2 p))))) (hp sc I o t) := by
  rw [c10 hch]
  have e : pc_at I (nI p) = I 2 p := by
    unfold pc_at
    rw [if_pos, nI_clamp (by omega)]
    rw [hL]
    exact ⟨nI_pos (by omega), nI_lt hpp (by omega), nI_lt (b := 120) (by omega) (by omega)⟩
  rw [e]
theorem c12_it (hch : ∀ j, j < 120 → ((I 2 j).toUInt32 % 65536).toInt32 = I 2 j) {L : Nat} (hL : I 1 1 = nI L) (hL2 : L ≤ 120) {p : Nat} (hpp : p ≤ L) {f d l m lo sp : Int32} {x8 : Option Value} (he : nI p < f + d) : mm_C (12, mm_blk 12 3, [some (.ref 1), some (.int f), some (.int d), some (.int l), some (.int m), some (.int lo), some (.int sp), some (.int (nI p)), x8], [], (hp sc I o t)) Q ↔
    if p < L then (if I 2 p - 48 < 0 ∨ 9 < I 2 p - 48 then Q (.inl (some (.int (nI p)))) (hp sc I o t) else if m < lo + (I 2 p - 48) * (sp / 10) ∨ lo + (I 2 p - 48) * (sp / 10) + sp / 10 - 1 < l then Q (.inl (some (.int (nI p)))) (hp sc I o t) else mm_C (12, mm_blk 12 3, [some (.ref 1), some (.int f), some (.int d), some (.int l), some (.int m), some (.int (lo + (I 2 p - 48) * (sp / 10))), some (.int (sp / 10)), some (.int (nI (p + 1))), some (.int (I 2 p - 48))], [], (hp sc I o t)) Q) else Q (.inl (some (.int (nI L)))) (hp sc I o t) := by
  generalize hX : mm_C (12, mm_blk 12 3, [some (.ref 1), some (.int f), some (.int d), some (.int l), some (.int m), some (.int (lo + (I 2 p - 48) * (sp / 10))), some (.int (sp / 10)), some (.int (nI (p + 1))), some (.int (I 2 p - 48))], [], (hp sc I o t)) Q = X
  by_cases h1 : p < L
  · have h2 : nI p < nI L := nI_lt h1 (by omega)
    rw [if_pos h1, mM_12.2.2.2.2.1]
    by_cases h3 : I 2 p - 48 < 0
    · rw [if_pos (Or.inl h3)]
      simp +decide only [mM_12.1, mM_12.2.1, mM_12.2.2.1, mM_12.2.2.2.1, mM_12.2.2.2.2.2.1, mM_12.2.2.2.2.2.2.1, mM_12.2.2.2.2.2.2.2.1, mM_12.2.2.2.2.2.2.2.2.1, mM_12.2.2.2.2.2.2.2.2.2.1, mM_12.2.2.2.2.2.2.2.2.2.2, cR, cH, mm_fixA, mm_fixB, he, hL, h2, c8' hch hL hL2 h1, h3, ↓reduceIte]
    by_cases h4 : 9 < I 2 p - 48
    · rw [if_pos (Or.inr h4)]
      simp +decide only [mM_12.1, mM_12.2.1, mM_12.2.2.1, mM_12.2.2.2.1, mM_12.2.2.2.2.2.1, mM_12.2.2.2.2.2.2.1, mM_12.2.2.2.2.2.2.2.1, mM_12.2.2.2.2.2.2.2.2.1, mM_12.2.2.2.2.2.2.2.2.2.1, mM_12.2.2.2.2.2.2.2.2.2.2, cR, cH, mm_fixA, mm_fixB, he, hL, h2, c8' hch hL hL2 h1, h3, h4, ↓reduceIte]
    rw [if_neg (fun h => h.elim h3 h4)]
    by_cases h5 : m < lo + (I 2 p - 48) * (sp / 10)
    · rw [if_pos (Or.inl h5)]
      simp +decide only [mM_12.1, mM_12.2.1, mM_12.2.2.1, mM_12.2.2.2.1, mM_12.2.2.2.2.2.1, mM_12.2.2.2.2.2.2.1, mM_12.2.2.2.2.2.2.2.1, mM_12.2.2.2.2.2.2.2.2.1, mM_12.2.2.2.2.2.2.2.2.2.1, mM_12.2.2.2.2.2.2.2.2.2.2, cR, cH, mm_fixA, mm_fixB, he, hL, h2, c8' hch hL hL2 h1, h3, h4, h5, ↓reduceIte]
    by_cases h6 : lo + (I 2 p - 48) * (sp / 10) + sp / 10 - 1 < l
    · rw [if_pos (Or.inr h6)]
      simp +decide only [mM_12.1, mM_12.2.1, mM_12.2.2.1, mM_12.2.2.2.1, mM_12.2.2.2.2.2.1, mM_12.2.2.2.2.2.2.1, mM_12.2.2.2.2.2.2.2.1, mM_12.2.2.2.2.2.2.2.2.1, mM_12.2.2.2.2.2.2.2.2.2.1, mM_12.2.2.2.2.2.2.2.2.2.2, cR, cH, mm_fixA, mm_fixB, he, hL, h2, c8' hch hL hL2 h1, h3, h4, h5, h6, ↓reduceIte]
    rw [if_neg (fun h => h.elim h5 h6)]
    have e0 : nI p + 1 = nI (p + 1) := nI_1 p
    simp +decide only [mM_12.1, mM_12.2.1, mM_12.2.2.1, mM_12.2.2.2.1, mM_12.2.2.2.2.2.1, mM_12.2.2.2.2.2.2.1, mM_12.2.2.2.2.2.2.2.1, mM_12.2.2.2.2.2.2.2.2.1, mM_12.2.2.2.2.2.2.2.2.2.1, mM_12.2.2.2.2.2.2.2.2.2.2, cR, cH, mm_fixA, mm_fixB, he, hL, h2, c8' hch hL hL2 h1, h3, h4, h5, h6, e0, hX, ↓reduceIte]
  · have h2 : ¬ nI p < nI L := nI_nlt (by omega) (by omega)
    rw [if_neg h1, mM_12.2.2.2.2.1]
    simp +decide only [mM_12.1, mM_12.2.1, mM_12.2.2.1, mM_12.2.2.2.1, mM_12.2.2.2.2.2.1, mM_12.2.2.2.2.2.2.1, mM_12.2.2.2.2.2.2.2.1, mM_12.2.2.2.2.2.2.2.2.1, mM_12.2.2.2.2.2.2.2.2.2.1, mM_12.2.2.2.2.2.2.2.2.2.2, cR, cH, mm_fixA, mm_fixB, he, hL, h2, ↓reduceIte]
theorem c12_end {f d l m lo sp q : Int32} {x8 : Option Value} (he : ¬ q < f + d) : mm_C (12, mm_blk 12 3, [some (.ref 1), some (.int f), some (.int d), some (.int l), some (.int m), some (.int lo), some (.int sp), some (.int q), x8], [], (hp sc I o t)) Q ↔ Q (.inl (some (.int (-1)))) (hp sc I o t) := by
  rw [mM_12.2.2.2.2.1]
  simp +decide only [mM_12.1, mM_12.2.1, mM_12.2.2.1, mM_12.2.2.2.1, mM_12.2.2.2.2.2.1, mM_12.2.2.2.2.2.2.1, mM_12.2.2.2.2.2.2.2.1, mM_12.2.2.2.2.2.2.2.2.1, mM_12.2.2.2.2.2.2.2.2.2.1, mM_12.2.2.2.2.2.2.2.2.2.2, cR, cH, he, ↓reduceIte]
theorem cT3 : (0 : Int32) + 1 = 1 ∧ (1 : Int32) + 1 = 2 ∧ (2 : Int32) + 1 = 3 ∧ (1 : Int32) * 10 = 10 ∧ (10 : Int32) * 10 = 100 ∧ (100 : Int32) * 10 = 1000 := by decide
theorem cT4 : (1000 : Int32) / 10 = 100 ∧ (100 : Int32) / 10 = 10 ∧ (10 : Int32) / 10 = 1 := by decide
theorem c12_2 {f l m : Int32} : mm_C (mm_entry 12 [.ref 1, .int f, .int 2, .int l, .int m] (hp sc I o t)) Q ↔ mm_C (12, mm_blk 12 3, [some (.ref 1), some (.int f), some (.int 2), some (.int l), some (.int m), some (.int 0), some (.int 100), some (.int f), none], [], (hp sc I o t)) Q := by
  simp +decide only [mM_12.1, mM_12.2.1, mM_12.2.2.1, mM_12.2.2.2.1, mM_12.2.2.2.2.2.1, mM_12.2.2.2.2.2.2.1, mM_12.2.2.2.2.2.2.2.1, mM_12.2.2.2.2.2.2.2.2.1, mM_12.2.2.2.2.2.2.2.2.2.1, mM_12.2.2.2.2.2.2.2.2.2.2, cR, cH, cT3, ↓reduceIte]
theorem c12_3 {f l m : Int32} : mm_C (mm_entry 12 [.ref 1, .int f, .int 3, .int l, .int m] (hp sc I o t)) Q ↔ mm_C (12, mm_blk 12 3, [some (.ref 1), some (.int f), some (.int 3), some (.int l), some (.int m), some (.int 0), some (.int 1000), some (.int f), none], [], (hp sc I o t)) Q := by
  simp +decide only [mM_12.1, mM_12.2.1, mM_12.2.2.1, mM_12.2.2.2.1, mM_12.2.2.2.2.2.1, mM_12.2.2.2.2.2.2.1, mM_12.2.2.2.2.2.2.2.1, mM_12.2.2.2.2.2.2.2.2.1, mM_12.2.2.2.2.2.2.2.2.2.1, mM_12.2.2.2.2.2.2.2.2.2.2, cR, cH, cT3, ↓reduceIte]
theorem c12_1 {f l m : Int32} : mm_C (mm_entry 12 [.ref 1, .int f, .int 1, .int l, .int m] (hp sc I o t)) Q ↔ mm_C (12, mm_blk 12 3, [some (.ref 1), some (.int f), some (.int 1), some (.int l), some (.int m), some (.int 0), some (.int 10), some (.int f), none], [], (hp sc I o t)) Q := by
  simp +decide only [mM_12.1, mM_12.2.1, mM_12.2.2.1, mM_12.2.2.2.1, mM_12.2.2.2.2.2.1, mM_12.2.2.2.2.2.2.1, mM_12.2.2.2.2.2.2.2.1, mM_12.2.2.2.2.2.2.2.2.1, mM_12.2.2.2.2.2.2.2.2.2.1, mM_12.2.2.2.2.2.2.2.2.2.2, cR, cH, cT3, ↓reduceIte]
theorem cEn {p i n : Nat} (hpp : p ≤ 130) (hi : i ≤ 130) (hn : n ≤ 3) : (nI p < nI i + nI n) = (p < i + n) := by
  rw [nI_add, nJ_lt (by omega) (by omega)]
def pe_key (T : Nat → Int32) (L p : Nat) : Int32 := if dg T L p 0 5 = true then (if dg T L (p + 1) 0 9 = true then -1 else nI (p + 1)) else nI p
def pe_tick (T : Nat → Int32) (L p : Nat) : Int32 := if dg T L p 0 9 = true then (if dg T L (p + 1) (if T p - 48 = 0 then 1 else 0) 9 = true then -1 else nI (p + 1)) else nI p
def pe_rule (T : Nat → Int32) (L p : Nat) : Int32 := if dg T L p 0 3 = true then -1 else nI p
def pe_force (T : Nat → Int32) (L p : Nat) : Int32 := if dg T L p 0 1 = true then (if dg T L (p + 1) 0 (if T p - 48 = 1 then 0 else 9) = true then (if dg T L (p + 1 + 1) (if (T p - 48) + (T (p + 1) - 48) = 0 then 1 else 0) (if T p - 48 = 1 then 0 else 9) = true then -1 else nI (p + 1 + 1)) else nI (p + 1)) else nI p
theorem lo0 : ∀ x : Int32, x < 0 → x < 0 := fun _ h => h
theorem lo1 : ∀ x : Int32, x < 0 → x < 1 := fun x h => by
  have a := Int32.lt_iff_toInt_lt.mp h
  have e0 : (0 : Int32).toInt = 0 := by decide
  have e1 : (1 : Int32).toInt = 1 := by decide
  rw [Int32.lt_iff_toInt_lt]; omega
theorem hiN {n : Nat} (hn : n ≤ 9) : ∀ x : Int32, 9 < x → nI n < x := fun x h => by
  have a := Int32.lt_iff_toInt_lt.mp h
  have e9 : (9 : Int32).toInt = 9 := by decide
  rw [Int32.lt_iff_toInt_lt, nI_toInt (by omega)]; omega
theorem c12_rule (hch : ∀ j, j < 120 → ((I 2 j).toUInt32 % 65536).toInt32 = I 2 j) {L : Nat} (hL : I 1 1 = nI L) (hL2 : L ≤ 120) {p : Nat} (hpp : p ≤ L) : mm_C (mm_entry 12 [.ref 1, .int (nI p), .int 1, .int 0, .int 3] (hp sc I o t)) Q ↔ Q (.inl (some (.int (pe_rule (I 2) L p)))) (hp sc I o t) := by
  have d1 : nI p < nI p + 1 := by rw [show (1 : Int32) = nI 1 from rfl, cEn (by omega) (by omega) (by omega)]; omega
  have d2 : ¬ nI (p + 1) < nI p + 1 := by rw [show (1 : Int32) = nI 1 from rfl, cEn (by omega) (by omega) (by omega)]; omega
  rw [c12_1, c12_it hch hL hL2 hpp d1, c12_end d2, dg_step (lo := 0) (hi := 3) (A := fun p => Q (.inl (some (.int (nI p)))) (hp sc I o t)) hpp ?_ lo0 (hiN (n := 3) (by omega))]
  · exact ite_Q (fun x : Int32 => Q (.inl (some (.int x))) (hp sc I o t))
  · intro j hj e
    rw [e]
    simp only [cT4]
    have h : ∀ j, j < 10 → (3 < 0 + nI j * 1 ∨ 0 + nI j * 1 + 1 - 1 < 0 ↔ nI j < 0 ∨ 3 < nI j) := by decide +kernel
    exact h j hj
theorem c12_key (hch : ∀ j, j < 120 → ((I 2 j).toUInt32 % 65536).toInt32 = I 2 j) {L : Nat} (hL : I 1 1 = nI L) (hL2 : L ≤ 120) {p : Nat} (hpp : p ≤ L) : mm_C (mm_entry 12 [.ref 1, .int (nI p), .int 2, .int 0, .int 59] (hp sc I o t)) Q ↔ Q (.inl (some (.int (pe_key (I 2) L p)))) (hp sc I o t) := by
  have d1 : nI p < nI p + 2 := by rw [show (2 : Int32) = nI 2 from rfl, cEn (by omega) (by omega) (by omega)]; omega
  have d2 : nI (p + 1) < nI p + 2 := by rw [show (2 : Int32) = nI 2 from rfl, cEn (by omega) (by omega) (by omega)]; omega
  have d3 : ¬ nI (p + 1 + 1) < nI p + 2 := by rw [show (2 : Int32) = nI 2 from rfl, cEn (by omega) (by omega) (by omega)]; omega
  unfold pe_key
  rw [c12_2, c12_it hch hL hL2 hpp d1, dg_step (lo := 0) (hi := 5) (A := fun p => Q (.inl (some (.int (nI p)))) (hp sc I o t)) hpp ?_ lo0 (hiN (n := 5) (by omega))]
  · by_cases h1 : dg (I 2) L p 0 5 = true
    · rw [if_pos h1, if_pos h1]
      obtain ⟨j, hj, e⟩ := dg_j h1 (Or.inl rfl) (n := 5) (by omega) rfl
      have hp1 := (dg_p h1).1
      rw [c12_it hch hL hL2 (show p + 1 ≤ L by omega) d2, c12_end d3, dg_step (lo := 0) (hi := 9) (A := fun p => Q (.inl (some (.int (nI p)))) (hp sc I o t)) (show p + 1 ≤ L by omega) ?_ lo0 (hiN (n := 9) (by omega))]
      · exact ite_Q (fun x : Int32 => Q (.inl (some (.int x))) (hp sc I o t))
      · intro i hi e2
        rw [e, e2]
        simp only [cT4]
        have h : ∀ j, j < 6 → ∀ i, i < 10 → (59 < 0 + nI j * 10 + nI i * 1 ∨ 0 + nI j * 10 + nI i * 1 + 1 - 1 < 0 ↔ nI i < 0 ∨ 9 < nI i) := by decide +kernel
        exact h j (by omega) i hi
    · rw [if_neg h1, if_neg h1]
  · intro j hj e
    rw [e]
    simp only [cT4]
    have h : ∀ j, j < 10 → (59 < 0 + nI j * 10 ∨ 0 + nI j * 10 + 10 - 1 < 0 ↔ nI j < 0 ∨ 5 < nI j) := by decide +kernel
    exact h j hj
theorem c12_tick (hch : ∀ j, j < 120 → ((I 2 j).toUInt32 % 65536).toInt32 = I 2 j) {L : Nat} (hL : I 1 1 = nI L) (hL2 : L ≤ 120) {p : Nat} (hpp : p ≤ L) : mm_C (mm_entry 12 [.ref 1, .int (nI p), .int 2, .int 1, .int 99] (hp sc I o t)) Q ↔ Q (.inl (some (.int (pe_tick (I 2) L p)))) (hp sc I o t) := by
  have d1 : nI p < nI p + 2 := by rw [show (2 : Int32) = nI 2 from rfl, cEn (by omega) (by omega) (by omega)]; omega
  have d2 : nI (p + 1) < nI p + 2 := by rw [show (2 : Int32) = nI 2 from rfl, cEn (by omega) (by omega) (by omega)]; omega
  have d3 : ¬ nI (p + 1 + 1) < nI p + 2 := by rw [show (2 : Int32) = nI 2 from rfl, cEn (by omega) (by omega) (by omega)]; omega
  unfold pe_tick
  rw [c12_2, c12_it hch hL hL2 hpp d1, dg_step (lo := 0) (hi := 9) (A := fun p => Q (.inl (some (.int (nI p)))) (hp sc I o t)) hpp ?_ lo0 (hiN (n := 9) (by omega))]
  · by_cases h1 : dg (I 2) L p 0 9 = true
    · rw [if_pos h1, if_pos h1]
      obtain ⟨j, hj, e⟩ := dg_j h1 (Or.inl rfl) (n := 9) (by omega) rfl
      have hp1 := (dg_p h1).1
      rw [c12_it hch hL hL2 (show p + 1 ≤ L by omega) d2, c12_end d3, dg_step (lo := if I 2 p - 48 = 0 then 1 else 0) (hi := 9) (A := fun p => Q (.inl (some (.int (nI p)))) (hp sc I o t)) (show p + 1 ≤ L by omega) ?_ ?_ (hiN (n := 9) (by omega))]
      · exact ite_Q (fun x : Int32 => Q (.inl (some (.int x))) (hp sc I o t))
      · intro i hi e2
        rw [e, e2]
        simp only [cT4]
        have h : ∀ j, j < 10 → ∀ i, i < 10 → (99 < 0 + nI j * 10 + nI i * 1 ∨ 0 + nI j * 10 + nI i * 1 + 1 - 1 < 1 ↔ nI i < (if nI j = 0 then 1 else 0) ∨ 9 < nI i) := by decide +kernel
        exact h j (by omega) i hi
      · split
        · exact lo1
        · exact lo0
    · rw [if_neg h1, if_neg h1]
  · intro j hj e
    rw [e]
    simp only [cT4]
    have h : ∀ j, j < 10 → (99 < 0 + nI j * 10 ∨ 0 + nI j * 10 + 10 - 1 < 1 ↔ nI j < 0 ∨ 9 < nI j) := by decide +kernel
    exact h j hj
theorem c12_force (hch : ∀ j, j < 120 → ((I 2 j).toUInt32 % 65536).toInt32 = I 2 j) {L : Nat} (hL : I 1 1 = nI L) (hL2 : L ≤ 120) {p : Nat} (hpp : p ≤ L) : mm_C (mm_entry 12 [.ref 1, .int (nI p), .int 3, .int 1, .int 100] (hp sc I o t)) Q ↔ Q (.inl (some (.int (pe_force (I 2) L p)))) (hp sc I o t) := by
  have d1 : nI p < nI p + 3 := by rw [show (3 : Int32) = nI 3 from rfl, cEn (by omega) (by omega) (by omega)]; omega
  have d2 : nI (p + 1) < nI p + 3 := by rw [show (3 : Int32) = nI 3 from rfl, cEn (by omega) (by omega) (by omega)]; omega
  have d3 : nI (p + 2) < nI p + 3 := by rw [show (3 : Int32) = nI 3 from rfl, cEn (by omega) (by omega) (by omega)]; omega
  have d4 : ¬ nI (p + 2 + 1) < nI p + 3 := by rw [show (3 : Int32) = nI 3 from rfl, cEn (by omega) (by omega) (by omega)]; omega
  unfold pe_force
  rw [c12_3, c12_it hch hL hL2 hpp d1, dg_step (lo := 0) (hi := 1) (A := fun p => Q (.inl (some (.int (nI p)))) (hp sc I o t)) hpp ?_ lo0 (hiN (n := 1) (by omega))]
  · by_cases h1 : dg (I 2) L p 0 1 = true
    · rw [if_pos h1, if_pos h1]
      obtain ⟨j, hj, e⟩ := dg_j h1 (Or.inl rfl) (n := 1) (by omega) rfl
      have hp1 := (dg_p h1).1
      rw [c12_it hch hL hL2 (show p + 1 ≤ L by omega) d2, dg_step (lo := 0) (hi := if I 2 p - 48 = 1 then 0 else 9) (A := fun p => Q (.inl (some (.int (nI p)))) (hp sc I o t)) (show p + 1 ≤ L by omega) ?_ lo0 ?_]
      · by_cases h2 : dg (I 2) L (p + 1) 0 (if I 2 p - 48 = 1 then 0 else 9) = true
        · rw [if_pos h2, if_pos h2]
          have hp2 := (dg_p h2).1
          obtain ⟨i, hji, e2⟩ : ∃ i, (j = 1 → i = 0) ∧ i < 10 ∧ I 2 (p + 1) - 48 = nI i := by
            by_cases hj1 : I 2 p - 48 = 1
            · rw [if_pos hj1] at h2
              obtain ⟨i, hi, e2⟩ := dg_j h2 (Or.inl rfl) (n := 0) (by omega) rfl
              exact ⟨i, fun _ => by omega, by omega, e2⟩
            · rw [if_neg hj1] at h2
              obtain ⟨i, hi, e2⟩ := dg_j h2 (Or.inl rfl) (n := 9) (by omega) rfl
              exact ⟨i, fun h => absurd (by rw [e, h]; rfl) hj1, by omega, e2⟩
          obtain ⟨hi, e2⟩ := e2
          rw [c12_it hch hL hL2 (show p + 1 + 1 ≤ L by omega) d3, c12_end d4, dg_step (lo := if (I 2 p - 48) + (I 2 (p + 1) - 48) = 0 then 1 else 0) (hi := if I 2 p - 48 = 1 then 0 else 9) (A := fun p => Q (.inl (some (.int (nI p)))) (hp sc I o t)) (show p + 1 + 1 ≤ L by omega) ?_ ?_ ?_]
          · exact ite_Q (fun x : Int32 => Q (.inl (some (.int x))) (hp sc I o t))
          · intro u hu e3
            rw [e, e2, e3]
            simp only [cT4]
            have g0 : ∀ i, i < 10 → ∀ u, u < 10 → (100 < 0 + nI 0 * 100 + nI i * 10 + nI u * 1 ∨ 0 + nI 0 * 100 + nI i * 10 + nI u * 1 + 1 - 1 < 1 ↔ nI u < (if nI 0 + nI i = 0 then 1 else 0) ∨ (if nI 0 = 1 then (0 : Int32) else 9) < nI u) := by decide +kernel
            have g1 : ∀ u, u < 10 → (100 < 0 + nI 1 * 100 + nI 0 * 10 + nI u * 1 ∨ 0 + nI 1 * 100 + nI 0 * 10 + nI u * 1 + 1 - 1 < 1 ↔ nI u < (if nI 1 + nI 0 = 0 then 1 else 0) ∨ (if nI 1 = 1 then (0 : Int32) else 9) < nI u) := by decide +kernel
            by_cases hj1 : j = 1
            · have hi0 : i = 0 := hji hj1
              subst hj1
              subst hi0
              exact g1 u hu
            · have hj0 : j = 0 := by omega
              subst hj0
              exact g0 i hi u hu
          · split
            · exact lo1
            · exact lo0
          · split
            · exact hiN (n := 0) (by omega)
            · exact hiN (n := 9) (by omega)
        · rw [if_neg h2, if_neg h2]
      · intro i hi e2
        rw [e, e2]
        simp only [cT4]
        have h : ∀ j, j < 2 → ∀ i, i < 10 → (100 < 0 + nI j * 100 + nI i * 10 ∨ 0 + nI j * 100 + nI i * 10 + 10 - 1 < 1 ↔ nI i < 0 ∨ (if nI j = 1 then (0 : Int32) else 9) < nI i) := by decide +kernel
        exact h j (by omega) i hi
      · split
        · exact hiN (n := 0) (by omega)
        · exact hiN (n := 9) (by omega)
    · rw [if_neg h1, if_neg h1]
  · intro j hj e
    rw [e]
    simp only [cT4]
    have h : ∀ j, j < 10 → (100 < 0 + nI j * 100 ∨ 0 + nI j * 100 + 100 - 1 < 1 ↔ nI j < 0 ∨ 1 < nI j) := by decide +kernel
    exact h j hj
end WO
