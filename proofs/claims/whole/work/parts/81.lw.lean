/-! the law's blocks -/
section XI
variable {sc : Nat × (Nat → Int32)} {I : Nat → Nat → Int32} {o : Int64} {t : Nat} {Q : mm_Q}
variable {n : Nat} {x5 x6 : Option Value}
theorem cS {n L : Nat} (h : n + 3 < L) (hL : L ≤ 2048) : (mm_in (nI n) L = true ∧ mm_in (nI n + 1) L = true ∧ mm_in (nI n + 2) L = true ∧ mm_in (nI n + 3) L = true) ∧ ((nI n).toNatClampNeg = n ∧ (nI n + 1).toNatClampNeg = n + 1 ∧ (nI n + 2).toNatClampNeg = n + 2 ∧ (nI n + 3).toNatClampNeg = n + 3) := by
  have e1 : nI n + 1 = nI (n + 1) := nI_add n 1
  have e2 : nI n + 2 = nI (n + 2) := nI_add n 2
  have e3 : nI n + 3 = nI (n + 3) := nI_add n 3
  rw [e1, e2, e3]
  exact ⟨⟨nJ_in (by omega) (by omega), nJ_in (by omega) (by omega), nJ_in (by omega) (by omega), nJ_in (by omega) (by omega)⟩, nI_clamp (by omega), nI_clamp (by omega), nI_clamp (by omega), nI_clamp (by omega)⟩
theorem cLc (x : Int64) : (x < x) = False := eq_false fun h => by
  have := Int64.lt_iff_toInt_lt.mp h
  omega
theorem lwo0 (hL : sc.1 ≤ 2048) (hn : n + 3 < sc.1) {A : Int32} {J1 J2 : Nat → Nat → Int32} (hw : ∀ Q, mm_C (mm_entry 190 [.ref 0, .int (sc.2 (n + 1)), .ref 214] (hp sc I o t)) Q ↔ Q (.inl (some (.int 0))) (hp sc J1 A.toInt64 t)) (hr : ∀ Q : mm_Q, Q (.inl (some (.int A))) (hp sc J2 A.toInt64 t) → mm_C (mm_entry 133 [.ref 206, .int (sc.2 (n + 1))] (hp sc J1 A.toInt64 t)) Q) (h0 : J2 206 0 = 0) (hK : mm_C (213, mm_blk 213 103, [some (.float 0), some (.ref 0), some (.ref 206), some (.ref 214), some (.int (nI n)), some (.int 0), some (.int A)], [], (hp sc J2 A.toInt64 t)) Q) : mm_C (213, mm_blk 213 2, [some (.float 0), some (.ref 0), some (.ref 206), some (.ref 214), some (.int (nI n)), x5, x6], [], (hp sc I o t)) Q := by
  rw [mM_213.2.2.2.1]
  simp +decide only [cR, cH, mm_fixA, mm_fixM, mm_fixO, cS hn hL, hw, ↓reduceIte]
  refine hr _ ?_
  simp +decide only [cR, cH, mm_fixM, mm_fixO, c107, h0, mM_213.2.2.2.2.1, mM_213.2.2.2.2.2.1, cLc, ↓reduceIte]
  exact hK
theorem lwt0 (hL : sc.1 ≤ 2048) (hn : n + 3 < sc.1) {k A : Int32} {J2 : Nat → Nat → Int32} (hk : ¬ k = 0) (hw : ∀ Q, mm_C (mm_entry 190 [.ref 0, .int (sc.2 (n + 1)), .ref 214] (hp sc I o t)) Q ↔ Q (.inl (some (.int k))) (hp sc I o (t + 1))) (hr : ∀ Q : mm_Q, Q (.inl (some (.int A))) (hp sc J2 o (t + 1)) → mm_C (mm_entry 133 [.ref 206, .int (sc.2 (n + 1))] (hp sc I o (t + 1))) Q) (h0 : J2 206 0 = k) (hK : mm_C (213, mm_blk 213 103, [some (.float 0), some (.ref 0), some (.ref 206), some (.ref 214), some (.int (nI n)), some (.int k), some (.int A)], [], (hp sc J2 o (t + 1))) Q) : mm_C (213, mm_blk 213 2, [some (.float 0), some (.ref 0), some (.ref 206), some (.ref 214), some (.int (nI n)), x5, x6], [], (hp sc I o t)) Q := by
  rw [mM_213.2.2.2.1]
  simp +decide only [cR, cH, mm_fixA, mm_fixM, mm_fixO, cS hn hL, hw, ↓reduceIte]
  refine hr _ ?_
  simp +decide only [cR, cH, mm_fixM, mm_fixO, c107, h0, hk, mM_213.2.2.2.2.1, mM_213.2.2.2.2.2.1, ↓reduceIte]
  exact hK
theorem lwa1 {A : Int32} {J1 J2 : Nat → Nat → Int32} (hc : ∀ Q, mm_C (mm_entry 57 [.ref 0] (hp sc I o t)) Q ↔ Q (.inl (some (.int A))) (hp sc J1 o t)) (hr : ∀ Q : mm_Q, Q (.inl (some (.int A))) (hp sc J2 o t) → mm_C (mm_entry 134 [.ref 206] (hp sc J1 o t)) Q) (hK : mm_C (213, mm_blk 213 103, [some (.float 0), some (.ref 0), some (.ref 206), some (.ref 214), some (.int (nI n)), x5, x6], [], (hp sc J2 o t)) Q) : mm_C (213, mm_blk 213 5, [some (.float 0), some (.ref 0), some (.ref 206), some (.ref 214), some (.int (nI n)), x5, x6], [], (hp sc I o t)) Q := by
  rw [mM_213.2.2.2.2.2.2.1]
  simp +decide only [cR, cH, mm_fixA, mm_fixM, hc, ↓reduceIte]
  refine hr _ ?_
  simp +decide only [cR, eq_self, ↓reduceIte]
  exact hK
theorem lwa2 {A : Int32} {J1 J2 : Nat → Nat → Int32} (hc : ∀ Q, mm_C (mm_entry 58 [.ref 0] (hp sc I o t)) Q ↔ Q (.inl (some (.int A))) (hp sc J1 o t)) (hr : ∀ Q : mm_Q, Q (.inl (some (.int A))) (hp sc J2 o t) → mm_C (mm_entry 143 [.ref 206] (hp sc J1 o t)) Q) (hK : mm_C (213, mm_blk 213 103, [some (.float 0), some (.ref 0), some (.ref 206), some (.ref 214), some (.int (nI n)), x5, x6], [], (hp sc J2 o t)) Q) : mm_C (213, mm_blk 213 6, [some (.float 0), some (.ref 0), some (.ref 206), some (.ref 214), some (.int (nI n)), x5, x6], [], (hp sc I o t)) Q := by
  rw [mM_213.2.2.2.2.2.2.2.1]
  simp +decide only [cR, cH, mm_fixA, mm_fixM, hc, ↓reduceIte]
  refine hr _ ?_
  simp +decide only [cR, eq_self, ↓reduceIte]
  exact hK
theorem lwo3 {A : Int32} {J1 J2 : Nat → Nat → Int32} (hw : ∀ Q, mm_C (mm_entry 191 [.ref 0, .ref 214] (hp sc I o t)) Q ↔ Q (.inl (some (.int 0))) (hp sc J1 A.toInt64 t)) (hr : ∀ Q : mm_Q, Q (.inl (some (.int A))) (hp sc J2 A.toInt64 t) → mm_C (mm_entry 144 [.ref 206] (hp sc J1 A.toInt64 t)) Q) (h0 : J2 206 0 = 0) (hK : mm_C (213, mm_blk 213 103, [some (.float 0), some (.ref 0), some (.ref 206), some (.ref 214), some (.int (nI n)), some (.int 0), some (.int A)], [], (hp sc J2 A.toInt64 t)) Q) : mm_C (213, mm_blk 213 7, [some (.float 0), some (.ref 0), some (.ref 206), some (.ref 214), some (.int (nI n)), x5, x6], [], (hp sc I o t)) Q := by
  rw [mM_213.2.2.2.2.2.2.2.2.1]
  simp +decide only [cR, cH, mm_fixA, mm_fixM, mm_fixO, hw, ↓reduceIte]
  refine hr _ ?_
  simp +decide only [cR, cH, mm_fixM, mm_fixO, c107, h0, mM_213.2.2.2.2.2.2.2.2.2.1, mM_213.2.2.2.2.2.2.2.2.2.2.1, cLc, ↓reduceIte]
  exact hK
theorem lwt3 {k A : Int32} {J2 : Nat → Nat → Int32} (hk : ¬ k = 0) (hw : ∀ Q, mm_C (mm_entry 191 [.ref 0, .ref 214] (hp sc I o t)) Q ↔ Q (.inl (some (.int k))) (hp sc I o (t + 1))) (hr : ∀ Q : mm_Q, Q (.inl (some (.int A))) (hp sc J2 o (t + 1)) → mm_C (mm_entry 144 [.ref 206] (hp sc I o (t + 1))) Q) (h0 : J2 206 0 = k) (hK : mm_C (213, mm_blk 213 103, [some (.float 0), some (.ref 0), some (.ref 206), some (.ref 214), some (.int (nI n)), some (.int k), some (.int A)], [], (hp sc J2 o (t + 1))) Q) : mm_C (213, mm_blk 213 7, [some (.float 0), some (.ref 0), some (.ref 206), some (.ref 214), some (.int (nI n)), x5, x6], [], (hp sc I o t)) Q := by
  rw [mM_213.2.2.2.2.2.2.2.2.1]
  simp +decide only [cR, cH, mm_fixA, mm_fixM, mm_fixO, hw, ↓reduceIte]
  refine hr _ ?_
  simp +decide only [cR, cH, mm_fixM, mm_fixO, c107, h0, hk, mM_213.2.2.2.2.2.2.2.2.2.1, mM_213.2.2.2.2.2.2.2.2.2.2.1, ↓reduceIte]
  exact hK
theorem lwo4 (hL : sc.1 ≤ 2048) (hn : n + 3 < sc.1) {A : Int32} {J1 J2 : Nat → Nat → Int32} (hw : ∀ Q, mm_C (mm_entry 192 [.ref 0, .int (sc.2 (n + 1)), .ref 214] (hp sc I o t)) Q ↔ Q (.inl (some (.int 0))) (hp sc J1 A.toInt64 t)) (hr : ∀ Q : mm_Q, Q (.inl (some (.int A))) (hp sc J2 A.toInt64 t) → mm_C (mm_entry 146 [.ref 206, .int (sc.2 (n + 1))] (hp sc J1 A.toInt64 t)) Q) (h0 : J2 206 0 = 0) (hK : mm_C (213, mm_blk 213 103, [some (.float 0), some (.ref 0), some (.ref 206), some (.ref 214), some (.int (nI n)), some (.int 0), some (.int A)], [], (hp sc J2 A.toInt64 t)) Q) : mm_C (213, mm_blk 213 10, [some (.float 0), some (.ref 0), some (.ref 206), some (.ref 214), some (.int (nI n)), x5, x6], [], (hp sc I o t)) Q := by
  rw [mM_213.2.2.2.2.2.2.2.2.2.2.2.1]
  simp +decide only [cR, cH, mm_fixA, mm_fixM, mm_fixO, cS hn hL, hw, ↓reduceIte]
  refine hr _ ?_
  simp +decide only [cR, cH, mm_fixM, mm_fixO, c107, h0, mM_213.2.2.2.2.2.2.2.2.2.2.2.2.1, mM_213.2.2.2.2.2.2.2.2.2.2.2.2.2.1, cLc, ↓reduceIte]
  exact hK
theorem lwt4 (hL : sc.1 ≤ 2048) (hn : n + 3 < sc.1) {k A : Int32} {J2 : Nat → Nat → Int32} (hk : ¬ k = 0) (hw : ∀ Q, mm_C (mm_entry 192 [.ref 0, .int (sc.2 (n + 1)), .ref 214] (hp sc I o t)) Q ↔ Q (.inl (some (.int k))) (hp sc I o (t + 1))) (hr : ∀ Q : mm_Q, Q (.inl (some (.int A))) (hp sc J2 o (t + 1)) → mm_C (mm_entry 146 [.ref 206, .int (sc.2 (n + 1))] (hp sc I o (t + 1))) Q) (h0 : J2 206 0 = k) (hK : mm_C (213, mm_blk 213 103, [some (.float 0), some (.ref 0), some (.ref 206), some (.ref 214), some (.int (nI n)), some (.int k), some (.int A)], [], (hp sc J2 o (t + 1))) Q) : mm_C (213, mm_blk 213 10, [some (.float 0), some (.ref 0), some (.ref 206), some (.ref 214), some (.int (nI n)), x5, x6], [], (hp sc I o t)) Q := by
  rw [mM_213.2.2.2.2.2.2.2.2.2.2.2.1]
  simp +decide only [cR, cH, mm_fixA, mm_fixM, mm_fixO, cS hn hL, hw, ↓reduceIte]
  refine hr _ ?_
  simp +decide only [cR, cH, mm_fixM, mm_fixO, c107, h0, hk, mM_213.2.2.2.2.2.2.2.2.2.2.2.2.1, mM_213.2.2.2.2.2.2.2.2.2.2.2.2.2.1, ↓reduceIte]
  exact hK
theorem lwo5 (hL : sc.1 ≤ 2048) (hn : n + 3 < sc.1) {A : Int32} {J1 J2 : Nat → Nat → Int32} (hw : ∀ Q, mm_C (mm_entry 193 [.ref 0, .int (sc.2 (n + 1)), .ref 214] (hp sc I o t)) Q ↔ Q (.inl (some (.int 0))) (hp sc J1 A.toInt64 t)) (hr : ∀ Q : mm_Q, Q (.inl (some (.int A))) (hp sc J2 A.toInt64 t) → mm_C (mm_entry 147 [.ref 206, .int (sc.2 (n + 1))] (hp sc J1 A.toInt64 t)) Q) (h0 : J2 206 0 = 0) (hK : mm_C (213, mm_blk 213 103, [some (.float 0), some (.ref 0), some (.ref 206), some (.ref 214), some (.int (nI n)), some (.int 0), some (.int A)], [], (hp sc J2 A.toInt64 t)) Q) : mm_C (213, mm_blk 213 13, [some (.float 0), some (.ref 0), some (.ref 206), some (.ref 214), some (.int (nI n)), x5, x6], [], (hp sc I o t)) Q := by
  rw [mM_213.2.2.2.2.2.2.2.2.2.2.2.2.2.2.1]
  simp +decide only [cR, cH, mm_fixA, mm_fixM, mm_fixO, cS hn hL, hw, ↓reduceIte]
  refine hr _ ?_
  simp +decide only [cR, cH, mm_fixM, mm_fixO, c107, h0, mM_213.2.2.2.2.2.2.2.2.2.2.2.2.2.2.2.1, mM_213.2.2.2.2.2.2.2.2.2.2.2.2.2.2.2.2.1, cLc, ↓reduceIte]
  exact hK
theorem lwt5 (hL : sc.1 ≤ 2048) (hn : n + 3 < sc.1) {k A : Int32} {J2 : Nat → Nat → Int32} (hk : ¬ k = 0) (hw : ∀ Q, mm_C (mm_entry 193 [.ref 0, .int (sc.2 (n + 1)), .ref 214] (hp sc I o t)) Q ↔ Q (.inl (some (.int k))) (hp sc I o (t + 1))) (hr : ∀ Q : mm_Q, Q (.inl (some (.int A))) (hp sc J2 o (t + 1)) → mm_C (mm_entry 147 [.ref 206, .int (sc.2 (n + 1))] (hp sc I o (t + 1))) Q) (h0 : J2 206 0 = k) (hK : mm_C (213, mm_blk 213 103, [some (.float 0), some (.ref 0), some (.ref 206), some (.ref 214), some (.int (nI n)), some (.int k), some (.int A)], [], (hp sc J2 o (t + 1))) Q) : mm_C (213, mm_blk 213 13, [some (.float 0), some (.ref 0), some (.ref 206), some (.ref 214), some (.int (nI n)), x5, x6], [], (hp sc I o t)) Q := by
  rw [mM_213.2.2.2.2.2.2.2.2.2.2.2.2.2.2.1]
  simp +decide only [cR, cH, mm_fixA, mm_fixM, mm_fixO, cS hn hL, hw, ↓reduceIte]
  refine hr _ ?_
  simp +decide only [cR, cH, mm_fixM, mm_fixO, c107, h0, hk, mM_213.2.2.2.2.2.2.2.2.2.2.2.2.2.2.2.1, mM_213.2.2.2.2.2.2.2.2.2.2.2.2.2.2.2.2.1, ↓reduceIte]
  exact hK
theorem lwo6 (hL : sc.1 ≤ 2048) (hn : n + 3 < sc.1) {A : Int32} {J1 J2 : Nat → Nat → Int32} (hw : ∀ Q, mm_C (mm_entry 194 [.ref 0, .int (sc.2 (n + 1)), .ref 214] (hp sc I o t)) Q ↔ Q (.inl (some (.int 0))) (hp sc J1 A.toInt64 t)) (hr : ∀ Q : mm_Q, Q (.inl (some (.int A))) (hp sc J2 A.toInt64 t) → mm_C (mm_entry 148 [.ref 206, .int (sc.2 (n + 1))] (hp sc J1 A.toInt64 t)) Q) (h0 : J2 206 0 = 0) (hK : mm_C (213, mm_blk 213 103, [some (.float 0), some (.ref 0), some (.ref 206), some (.ref 214), some (.int (nI n)), some (.int 0), some (.int A)], [], (hp sc J2 A.toInt64 t)) Q) : mm_C (213, mm_blk 213 16, [some (.float 0), some (.ref 0), some (.ref 206), some (.ref 214), some (.int (nI n)), x5, x6], [], (hp sc I o t)) Q := by
  rw [mM_213.2.2.2.2.2.2.2.2.2.2.2.2.2.2.2.2.2.1]
  simp +decide only [cR, cH, mm_fixA, mm_fixM, mm_fixO, cS hn hL, hw, ↓reduceIte]
  refine hr _ ?_
  simp +decide only [cR, cH, mm_fixM, mm_fixO, c107, h0, mM_213.2.2.2.2.2.2.2.2.2.2.2.2.2.2.2.2.2.2.1, mM_213.2.2.2.2.2.2.2.2.2.2.2.2.2.2.2.2.2.2.2.1, cLc, ↓reduceIte]
  exact hK
theorem lwt6 (hL : sc.1 ≤ 2048) (hn : n + 3 < sc.1) {k A : Int32} {J2 : Nat → Nat → Int32} (hk : ¬ k = 0) (hw : ∀ Q, mm_C (mm_entry 194 [.ref 0, .int (sc.2 (n + 1)), .ref 214] (hp sc I o t)) Q ↔ Q (.inl (some (.int k))) (hp sc I o (t + 1))) (hr : ∀ Q : mm_Q, Q (.inl (some (.int A))) (hp sc J2 o (t + 1)) → mm_C (mm_entry 148 [.ref 206, .int (sc.2 (n + 1))] (hp sc I o (t + 1))) Q) (h0 : J2 206 0 = k) (hK : mm_C (213, mm_blk 213 103, [some (.float 0), some (.ref 0), some (.ref 206), some (.ref 214), some (.int (nI n)), some (.int k), some (.int A)], [], (hp sc J2 o (t + 1))) Q) : mm_C (213, mm_blk 213 16, [some (.float 0), some (.ref 0), some (.ref 206), some (.ref 214), some (.int (nI n)), x5, x6], [], (hp sc I o t)) Q := by
  rw [mM_213.2.2.2.2.2.2.2.2.2.2.2.2.2.2.2.2.2.1]
  simp +decide only [cR, cH, mm_fixA, mm_fixM, mm_fixO, cS hn hL, hw, ↓reduceIte]
  refine hr _ ?_
  simp +decide only [cR, cH, mm_fixM, mm_fixO, c107, h0, hk, mM_213.2.2.2.2.2.2.2.2.2.2.2.2.2.2.2.2.2.2.1, mM_213.2.2.2.2.2.2.2.2.2.2.2.2.2.2.2.2.2.2.2.1, ↓reduceIte]
  exact hK
theorem lwo7_0 (hL : sc.1 ≤ 2048) (hn : n + 3 < sc.1) {J1 J2 : Nat → Nat → Int32} (hw : ∀ Q, mm_C (mm_entry 195 [.ref 0, .int (sc.2 (n + 1)), .ref 214] (hp sc I o t)) Q ↔ Q (.inl (some (.int 0))) (hp sc J1 (Int64.ofNat 0) t)) (hr : ∀ Q : mm_Q, Q (.inl (some (.int 0))) (hp sc J2 (Int64.ofNat 0) t) → mm_C (mm_entry 149 [.ref 206, .int (sc.2 (n + 1))] (hp sc J1 (Int64.ofNat 0) t)) Q) (h0 : J2 206 0 = 0) (hK : mm_C (213, mm_blk 213 103, [some (.float 0), some (.ref 0), some (.ref 206), some (.ref 214), some (.int (nI n)), some (.int 0), some (.int 0)], [], (hp sc J2 (Int64.ofNat 0) t)) Q) : mm_C (213, mm_blk 213 19, [some (.float 0), some (.ref 0), some (.ref 206), some (.ref 214), some (.int (nI n)), x5, x6], [], (hp sc I o t)) Q := by
  rw [mM_213.2.2.2.2.2.2.2.2.2.2.2.2.2.2.2.2.2.2.2.2.1]
  simp +decide only [cR, cH, mm_fixA, mm_fixM, mm_fixO, cS hn hL, hw, ↓reduceIte]
  refine hr _ ?_
  simp +decide only [cR, cH, mm_fixM, mm_fixO, c107, h0, mM_213.2.2.2.2.2.2.2.2.2.2.2.2.2.2.2.2.2.2.2.2.2.1, mM_213.2.2.2.2.2.2.2.2.2.2.2.2.2.2.2.2.2.2.2.2.2.2.1, mM_213.2.2.2.2.2.2.2.2.2.2.2.2.2.2.2.2.2.2.2.2.2.2.2.1, mM_213.2.2.2.2.2.2.2.2.2.2.2.2.2.2.2.2.2.2.2.2.2.2.2.2.1, ↓reduceIte]
  exact hK
theorem lwo7_1 (hL : sc.1 ≤ 2048) (hn : n + 3 < sc.1) {J1 J2 : Nat → Nat → Int32} (hw : ∀ Q, mm_C (mm_entry 195 [.ref 0, .int (sc.2 (n + 1)), .ref 214] (hp sc I o t)) Q ↔ Q (.inl (some (.int 0))) (hp sc J1 (Int64.ofNat 1) t)) (hr : ∀ Q : mm_Q, Q (.inl (some (.int 1))) (hp sc J2 (Int64.ofNat 1) t) → mm_C (mm_entry 149 [.ref 206, .int (sc.2 (n + 1))] (hp sc J1 (Int64.ofNat 1) t)) Q) (h0 : J2 206 0 = 0) (hK : mm_C (213, mm_blk 213 103, [some (.float 0), some (.ref 0), some (.ref 206), some (.ref 214), some (.int (nI n)), some (.int 0), some (.int 1)], [], (hp sc J2 (Int64.ofNat 1) t)) Q) : mm_C (213, mm_blk 213 19, [some (.float 0), some (.ref 0), some (.ref 206), some (.ref 214), some (.int (nI n)), x5, x6], [], (hp sc I o t)) Q := by
  rw [mM_213.2.2.2.2.2.2.2.2.2.2.2.2.2.2.2.2.2.2.2.2.1]
  simp +decide only [cR, cH, mm_fixA, mm_fixM, mm_fixO, cS hn hL, hw, ↓reduceIte]
  refine hr _ ?_
  simp +decide only [cR, cH, mm_fixM, mm_fixO, c107, h0, mM_213.2.2.2.2.2.2.2.2.2.2.2.2.2.2.2.2.2.2.2.2.2.1, mM_213.2.2.2.2.2.2.2.2.2.2.2.2.2.2.2.2.2.2.2.2.2.2.1, mM_213.2.2.2.2.2.2.2.2.2.2.2.2.2.2.2.2.2.2.2.2.2.2.2.1, mM_213.2.2.2.2.2.2.2.2.2.2.2.2.2.2.2.2.2.2.2.2.2.2.2.2.1, ↓reduceIte]
  exact hK
theorem lwt7 (hL : sc.1 ≤ 2048) (hn : n + 3 < sc.1) {k A : Int32} {J2 : Nat → Nat → Int32} (hk : ¬ k = 0) (hw : ∀ Q, mm_C (mm_entry 195 [.ref 0, .int (sc.2 (n + 1)), .ref 214] (hp sc I o t)) Q ↔ Q (.inl (some (.int k))) (hp sc I o (t + 1))) (hr : ∀ Q : mm_Q, Q (.inl (some (.int A))) (hp sc J2 o (t + 1)) → mm_C (mm_entry 149 [.ref 206, .int (sc.2 (n + 1))] (hp sc I o (t + 1))) Q) (h0 : J2 206 0 = k) (hK : mm_C (213, mm_blk 213 103, [some (.float 0), some (.ref 0), some (.ref 206), some (.ref 214), some (.int (nI n)), some (.int k), some (.int A)], [], (hp sc J2 o (t + 1))) Q) : mm_C (213, mm_blk 213 19, [some (.float 0), some (.ref 0), some (.ref 206), some (.ref 214), some (.int (nI n)), x5, x6], [], (hp sc I o t)) Q := by
  rw [mM_213.2.2.2.2.2.2.2.2.2.2.2.2.2.2.2.2.2.2.2.2.1]
  simp +decide only [cR, cH, mm_fixA, mm_fixM, mm_fixO, cS hn hL, hw, ↓reduceIte]
  refine hr _ ?_
  simp +decide only [cR, cH, mm_fixM, mm_fixO, c107, h0, hk, mM_213.2.2.2.2.2.2.2.2.2.2.2.2.2.2.2.2.2.2.2.2.2.1, mM_213.2.2.2.2.2.2.2.2.2.2.2.2.2.2.2.2.2.2.2.2.2.2.2.2.1, ↓reduceIte]
  exact hK
theorem lwa8 {A : Int32} {J1 J2 : Nat → Nat → Int32} (hc : ∀ Q, mm_C (mm_entry 65 [.ref 0] (hp sc I o t)) Q ↔ Q (.inl (some (.int A))) (hp sc J1 o t)) (hr : ∀ Q : mm_Q, Q (.inl (some (.int A))) (hp sc J2 o t) → mm_C (mm_entry 150 [.ref 206] (hp sc J1 o t)) Q) (hK : mm_C (213, mm_blk 213 103, [some (.float 0), some (.ref 0), some (.ref 206), some (.ref 214), some (.int (nI n)), x5, x6], [], (hp sc J2 o t)) Q) : mm_C (213, mm_blk 213 24, [some (.float 0), some (.ref 0), some (.ref 206), some (.ref 214), some (.int (nI n)), x5, x6], [], (hp sc I o t)) Q := by
  rw [mM_213.2.2.2.2.2.2.2.2.2.2.2.2.2.2.2.2.2.2.2.2.2.2.2.2.2.1]
  simp +decide only [cR, cH, mm_fixA, mm_fixM, hc, ↓reduceIte]
  refine hr _ ?_
  simp +decide only [cR, eq_self, ↓reduceIte]
  exact hK
theorem lwa9 {A : Int32} {J1 J2 : Nat → Nat → Int32} (hc : ∀ Q, mm_C (mm_entry 66 [.ref 0] (hp sc I o t)) Q ↔ Q (.inl (some (.int A))) (hp sc J1 o t)) (hr : ∀ Q : mm_Q, Q (.inl (some (.int A))) (hp sc J2 o t) → mm_C (mm_entry 151 [.ref 206] (hp sc J1 o t)) Q) (hK : mm_C (213, mm_blk 213 103, [some (.float 0), some (.ref 0), some (.ref 206), some (.ref 214), some (.int (nI n)), x5, x6], [], (hp sc J2 o t)) Q) : mm_C (213, mm_blk 213 25, [some (.float 0), some (.ref 0), some (.ref 206), some (.ref 214), some (.int (nI n)), x5, x6], [], (hp sc I o t)) Q := by
  rw [mM_213.2.2.2.2.2.2.2.2.2.2.2.2.2.2.2.2.2.2.2.2.2.2.2.2.2.2.1]
  simp +decide only [cR, cH, mm_fixA, mm_fixM, hc, ↓reduceIte]
  refine hr _ ?_
  simp +decide only [cR, eq_self, ↓reduceIte]
  exact hK
theorem lwa10 {A : Int32} {J1 J2 : Nat → Nat → Int32} (hc : ∀ Q, mm_C (mm_entry 67 [.ref 0] (hp sc I o t)) Q ↔ Q (.inl (some (.int A))) (hp sc J1 o t)) (hr : ∀ Q : mm_Q, Q (.inl (some (.int A))) (hp sc J2 o t) → mm_C (mm_entry 152 [.ref 206] (hp sc J1 o t)) Q) (hK : mm_C (213, mm_blk 213 103, [some (.float 0), some (.ref 0), some (.ref 206), some (.ref 214), some (.int (nI n)), x5, x6], [], (hp sc J2 o t)) Q) : mm_C (213, mm_blk 213 26, [some (.float 0), some (.ref 0), some (.ref 206), some (.ref 214), some (.int (nI n)), x5, x6], [], (hp sc I o t)) Q := by
  rw [mM_213.2.2.2.2.2.2.2.2.2.2.2.2.2.2.2.2.2.2.2.2.2.2.2.2.2.2.2.1]
  simp +decide only [cR, cH, mm_fixA, mm_fixM, hc, ↓reduceIte]
  refine hr _ ?_
  simp +decide only [cR, eq_self, ↓reduceIte]
  exact hK
theorem lwa11 {A : Int32} {J1 J2 : Nat → Nat → Int32} (hc : ∀ Q, mm_C (mm_entry 68 [.ref 0] (hp sc I o t)) Q ↔ Q (.inl (some (.int A))) (hp sc J1 o t)) (hr : ∀ Q : mm_Q, Q (.inl (some (.int A))) (hp sc J2 o t) → mm_C (mm_entry 153 [.ref 206] (hp sc J1 o t)) Q) (hK : mm_C (213, mm_blk 213 103, [some (.float 0), some (.ref 0), some (.ref 206), some (.ref 214), some (.int (nI n)), x5, x6], [], (hp sc J2 o t)) Q) : mm_C (213, mm_blk 213 27, [some (.float 0), some (.ref 0), some (.ref 206), some (.ref 214), some (.int (nI n)), x5, x6], [], (hp sc I o t)) Q := by
  rw [mM_213.2.2.2.2.2.2.2.2.2.2.2.2.2.2.2.2.2.2.2.2.2.2.2.2.2.2.2.2.1]
  simp +decide only [cR, cH, mm_fixA, mm_fixM, hc, ↓reduceIte]
  refine hr _ ?_
  simp +decide only [cR, eq_self, ↓reduceIte]
  exact hK
theorem lwo12_0 (hL : sc.1 ≤ 2048) (hn : n + 3 < sc.1) {J1 J2 : Nat → Nat → Int32} (hw : ∀ Q, mm_C (mm_entry 196 [.ref 0, .int (sc.2 (n + 1)), .ref 214] (hp sc I o t)) Q ↔ Q (.inl (some (.int 0))) (hp sc J1 (Int64.ofNat 0) t)) (hr : ∀ Q : mm_Q, Q (.inl (some (.int 0))) (hp sc J2 (Int64.ofNat 0) t) → mm_C (mm_entry 155 [.ref 206, .int (sc.2 (n + 1))] (hp sc J1 (Int64.ofNat 0) t)) Q) (h0 : J2 206 0 = 0) (hK : mm_C (213, mm_blk 213 103, [some (.float 0), some (.ref 0), some (.ref 206), some (.ref 214), some (.int (nI n)), some (.int 0), some (.int 0)], [], (hp sc J2 (Int64.ofNat 0) t)) Q) : mm_C (213, mm_blk 213 28, [some (.float 0), some (.ref 0), some (.ref 206), some (.ref 214), some (.int (nI n)), x5, x6], [], (hp sc I o t)) Q := by
  rw [mM_213.2.2.2.2.2.2.2.2.2.2.2.2.2.2.2.2.2.2.2.2.2.2.2.2.2.2.2.2.2.1]
  simp +decide only [cR, cH, mm_fixA, mm_fixM, mm_fixO, cS hn hL, hw, ↓reduceIte]
  refine hr _ ?_
  simp +decide only [cR, cH, mm_fixM, mm_fixO, c107, h0, mM_213.2.2.2.2.2.2.2.2.2.2.2.2.2.2.2.2.2.2.2.2.2.2.2.2.2.2.2.2.2.2.1, mM_213.2.2.2.2.2.2.2.2.2.2.2.2.2.2.2.2.2.2.2.2.2.2.2.2.2.2.2.2.2.2.2.1, mM_213.2.2.2.2.2.2.2.2.2.2.2.2.2.2.2.2.2.2.2.2.2.2.2.2.2.2.2.2.2.2.2.2.1, mM_213.2.2.2.2.2.2.2.2.2.2.2.2.2.2.2.2.2.2.2.2.2.2.2.2.2.2.2.2.2.2.2.2.2.1, ↓reduceIte]
  exact hK
theorem lwo12_1 (hL : sc.1 ≤ 2048) (hn : n + 3 < sc.1) {J1 J2 : Nat → Nat → Int32} (hw : ∀ Q, mm_C (mm_entry 196 [.ref 0, .int (sc.2 (n + 1)), .ref 214] (hp sc I o t)) Q ↔ Q (.inl (some (.int 0))) (hp sc J1 (Int64.ofNat 1) t)) (hr : ∀ Q : mm_Q, Q (.inl (some (.int 1))) (hp sc J2 (Int64.ofNat 1) t) → mm_C (mm_entry 155 [.ref 206, .int (sc.2 (n + 1))] (hp sc J1 (Int64.ofNat 1) t)) Q) (h0 : J2 206 0 = 0) (hK : mm_C (213, mm_blk 213 103, [some (.float 0), some (.ref 0), some (.ref 206), some (.ref 214), some (.int (nI n)), some (.int 0), some (.int 1)], [], (hp sc J2 (Int64.ofNat 1) t)) Q) : mm_C (213, mm_blk 213 28, [some (.float 0), some (.ref 0), some (.ref 206), some (.ref 214), some (.int (nI n)), x5, x6], [], (hp sc I o t)) Q := by
  rw [mM_213.2.2.2.2.2.2.2.2.2.2.2.2.2.2.2.2.2.2.2.2.2.2.2.2.2.2.2.2.2.1]
  simp +decide only [cR, cH, mm_fixA, mm_fixM, mm_fixO, cS hn hL, hw, ↓reduceIte]
  refine hr _ ?_
  simp +decide only [cR, cH, mm_fixM, mm_fixO, c107, h0, mM_213.2.2.2.2.2.2.2.2.2.2.2.2.2.2.2.2.2.2.2.2.2.2.2.2.2.2.2.2.2.2.1, mM_213.2.2.2.2.2.2.2.2.2.2.2.2.2.2.2.2.2.2.2.2.2.2.2.2.2.2.2.2.2.2.2.1, mM_213.2.2.2.2.2.2.2.2.2.2.2.2.2.2.2.2.2.2.2.2.2.2.2.2.2.2.2.2.2.2.2.2.1, mM_213.2.2.2.2.2.2.2.2.2.2.2.2.2.2.2.2.2.2.2.2.2.2.2.2.2.2.2.2.2.2.2.2.2.1, ↓reduceIte]
  exact hK
theorem lwt12 (hL : sc.1 ≤ 2048) (hn : n + 3 < sc.1) {k A : Int32} {J2 : Nat → Nat → Int32} (hk : ¬ k = 0) (hw : ∀ Q, mm_C (mm_entry 196 [.ref 0, .int (sc.2 (n + 1)), .ref 214] (hp sc I o t)) Q ↔ Q (.inl (some (.int k))) (hp sc I o (t + 1))) (hr : ∀ Q : mm_Q, Q (.inl (some (.int A))) (hp sc J2 o (t + 1)) → mm_C (mm_entry 155 [.ref 206, .int (sc.2 (n + 1))] (hp sc I o (t + 1))) Q) (h0 : J2 206 0 = k) (hK : mm_C (213, mm_blk 213 103, [some (.float 0), some (.ref 0), some (.ref 206), some (.ref 214), some (.int (nI n)), some (.int k), some (.int A)], [], (hp sc J2 o (t + 1))) Q) : mm_C (213, mm_blk 213 28, [some (.float 0), some (.ref 0), some (.ref 206), some (.ref 214), some (.int (nI n)), x5, x6], [], (hp sc I o t)) Q := by
  rw [mM_213.2.2.2.2.2.2.2.2.2.2.2.2.2.2.2.2.2.2.2.2.2.2.2.2.2.2.2.2.2.1]
  simp +decide only [cR, cH, mm_fixA, mm_fixM, mm_fixO, cS hn hL, hw, ↓reduceIte]
  refine hr _ ?_
  simp +decide only [cR, cH, mm_fixM, mm_fixO, c107, h0, hk, mM_213.2.2.2.2.2.2.2.2.2.2.2.2.2.2.2.2.2.2.2.2.2.2.2.2.2.2.2.2.2.2.1, mM_213.2.2.2.2.2.2.2.2.2.2.2.2.2.2.2.2.2.2.2.2.2.2.2.2.2.2.2.2.2.2.2.2.2.1, ↓reduceIte]
  exact hK
theorem lwo13 (hL : sc.1 ≤ 2048) (hn : n + 3 < sc.1) {A : Int32} {J1 J2 : Nat → Nat → Int32} (hw : ∀ Q, mm_C (mm_entry 197 [.ref 0, .int (sc.2 (n + 1)), .ref 214] (hp sc I o t)) Q ↔ Q (.inl (some (.int 0))) (hp sc J1 A.toInt64 t)) (hr : ∀ Q : mm_Q, Q (.inl (some (.int A))) (hp sc J2 A.toInt64 t) → mm_C (mm_entry 156 [.ref 206, .int (sc.2 (n + 1))] (hp sc J1 A.toInt64 t)) Q) (h0 : J2 206 0 = 0) (hK : mm_C (213, mm_blk 213 103, [some (.float 0), some (.ref 0), some (.ref 206), some (.ref 214), some (.int (nI n)), some (.int 0), some (.int A)], [], (hp sc J2 A.toInt64 t)) Q) : mm_C (213, mm_blk 213 33, [some (.float 0), some (.ref 0), some (.ref 206), some (.ref 214), some (.int (nI n)), x5, x6], [], (hp sc I o t)) Q := by
  rw [mM_213.2.2.2.2.2.2.2.2.2.2.2.2.2.2.2.2.2.2.2.2.2.2.2.2.2.2.2.2.2.2.2.2.2.2.1]
  simp +decide only [cR, cH, mm_fixA, mm_fixM, mm_fixO, cS hn hL, hw, ↓reduceIte]
  refine hr _ ?_
  simp +decide only [cR, cH, mm_fixM, mm_fixO, c107, h0, mM_213.2.2.2.2.2.2.2.2.2.2.2.2.2.2.2.2.2.2.2.2.2.2.2.2.2.2.2.2.2.2.2.2.2.2.2.1, mM_213.2.2.2.2.2.2.2.2.2.2.2.2.2.2.2.2.2.2.2.2.2.2.2.2.2.2.2.2.2.2.2.2.2.2.2.2.1, cLc, ↓reduceIte]
  exact hK
theorem lwt13 (hL : sc.1 ≤ 2048) (hn : n + 3 < sc.1) {k A : Int32} {J2 : Nat → Nat → Int32} (hk : ¬ k = 0) (hw : ∀ Q, mm_C (mm_entry 197 [.ref 0, .int (sc.2 (n + 1)), .ref 214] (hp sc I o t)) Q ↔ Q (.inl (some (.int k))) (hp sc I o (t + 1))) (hr : ∀ Q : mm_Q, Q (.inl (some (.int A))) (hp sc J2 o (t + 1)) → mm_C (mm_entry 156 [.ref 206, .int (sc.2 (n + 1))] (hp sc I o (t + 1))) Q) (h0 : J2 206 0 = k) (hK : mm_C (213, mm_blk 213 103, [some (.float 0), some (.ref 0), some (.ref 206), some (.ref 214), some (.int (nI n)), some (.int k), some (.int A)], [], (hp sc J2 o (t + 1))) Q) : mm_C (213, mm_blk 213 33, [some (.float 0), some (.ref 0), some (.ref 206), some (.ref 214), some (.int (nI n)), x5, x6], [], (hp sc I o t)) Q := by
  rw [mM_213.2.2.2.2.2.2.2.2.2.2.2.2.2.2.2.2.2.2.2.2.2.2.2.2.2.2.2.2.2.2.2.2.2.2.1]
  simp +decide only [cR, cH, mm_fixA, mm_fixM, mm_fixO, cS hn hL, hw, ↓reduceIte]
  refine hr _ ?_
  simp +decide only [cR, cH, mm_fixM, mm_fixO, c107, h0, hk, mM_213.2.2.2.2.2.2.2.2.2.2.2.2.2.2.2.2.2.2.2.2.2.2.2.2.2.2.2.2.2.2.2.2.2.2.2.1, mM_213.2.2.2.2.2.2.2.2.2.2.2.2.2.2.2.2.2.2.2.2.2.2.2.2.2.2.2.2.2.2.2.2.2.2.2.2.1, ↓reduceIte]
  exact hK
theorem lwa14 {A : Int32} {J1 J2 : Nat → Nat → Int32} (hc : ∀ Q, mm_C (mm_entry 71 [.ref 0] (hp sc I o t)) Q ↔ Q (.inl (some (.int A))) (hp sc J1 o t)) (hr : ∀ Q : mm_Q, Q (.inl (some (.int A))) (hp sc J2 o t) → mm_C (mm_entry 157 [.ref 206] (hp sc J1 o t)) Q) (hK : mm_C (213, mm_blk 213 103, [some (.float 0), some (.ref 0), some (.ref 206), some (.ref 214), some (.int (nI n)), x5, x6], [], (hp sc J2 o t)) Q) : mm_C (213, mm_blk 213 36, [some (.float 0), some (.ref 0), some (.ref 206), some (.ref 214), some (.int (nI n)), x5, x6], [], (hp sc I o t)) Q := by
  rw [mM_213.2.2.2.2.2.2.2.2.2.2.2.2.2.2.2.2.2.2.2.2.2.2.2.2.2.2.2.2.2.2.2.2.2.2.2.2.2.1]
  simp +decide only [cR, cH, mm_fixA, mm_fixM, hc, ↓reduceIte]
  refine hr _ ?_
  simp +decide only [cR, eq_self, ↓reduceIte]
  exact hK
theorem lwa15 {A : Int32} {J1 J2 : Nat → Nat → Int32} (hc : ∀ Q, mm_C (mm_entry 72 [.ref 0] (hp sc I o t)) Q ↔ Q (.inl (some (.int A))) (hp sc J1 o t)) (hr : ∀ Q : mm_Q, Q (.inl (some (.int A))) (hp sc J2 o t) → mm_C (mm_entry 158 [.ref 206] (hp sc J1 o t)) Q) (hK : mm_C (213, mm_blk 213 103, [some (.float 0), some (.ref 0), some (.ref 206), some (.ref 214), some (.int (nI n)), x5, x6], [], (hp sc J2 o t)) Q) : mm_C (213, mm_blk 213 37, [some (.float 0), some (.ref 0), some (.ref 206), some (.ref 214), some (.int (nI n)), x5, x6], [], (hp sc I o t)) Q := by
  rw [mM_213.2.2.2.2.2.2.2.2.2.2.2.2.2.2.2.2.2.2.2.2.2.2.2.2.2.2.2.2.2.2.2.2.2.2.2.2.2.2.1]
  simp +decide only [cR, cH, mm_fixA, mm_fixM, hc, ↓reduceIte]
  refine hr _ ?_
  simp +decide only [cR, eq_self, ↓reduceIte]
  exact hK
theorem lwa16 {A : Int32} {J1 J2 : Nat → Nat → Int32} (hc : ∀ Q, mm_C (mm_entry 73 [.ref 0] (hp sc I o t)) Q ↔ Q (.inl (some (.int A))) (hp sc J1 o t)) (hr : ∀ Q : mm_Q, Q (.inl (some (.int A))) (hp sc J2 o t) → mm_C (mm_entry 159 [.ref 206] (hp sc J1 o t)) Q) (hK : mm_C (213, mm_blk 213 103, [some (.float 0), some (.ref 0), some (.ref 206), some (.ref 214), some (.int (nI n)), x5, x6], [], (hp sc J2 o t)) Q) : mm_C (213, mm_blk 213 38, [some (.float 0), some (.ref 0), some (.ref 206), some (.ref 214), some (.int (nI n)), x5, x6], [], (hp sc I o t)) Q := by
  rw [mM_213.2.2.2.2.2.2.2.2.2.2.2.2.2.2.2.2.2.2.2.2.2.2.2.2.2.2.2.2.2.2.2.2.2.2.2.2.2.2.2.1]
  simp +decide only [cR, cH, mm_fixA, mm_fixM, hc, ↓reduceIte]
  refine hr _ ?_
  simp +decide only [cR, eq_self, ↓reduceIte]
  exact hK
theorem lwa17 {A : Int32} {J1 J2 : Nat → Nat → Int32} (hc : ∀ Q, mm_C (mm_entry 74 [.ref 0] (hp sc I o t)) Q ↔ Q (.inl (some (.int A))) (hp sc J1 o t)) (hr : ∀ Q : mm_Q, Q (.inl (some (.int A))) (hp sc J2 o t) → mm_C (mm_entry 160 [.ref 206] (hp sc J1 o t)) Q) (hK : mm_C (213, mm_blk 213 103, [some (.float 0), some (.ref 0), some (.ref 206), some (.ref 214), some (.int (nI n)), x5, x6], [], (hp sc J2 o t)) Q) : mm_C (213, mm_blk 213 39, [some (.float 0), some (.ref 0), some (.ref 206), some (.ref 214), some (.int (nI n)), x5, x6], [], (hp sc I o t)) Q := by
  rw [mM_213.2.2.2.2.2.2.2.2.2.2.2.2.2.2.2.2.2.2.2.2.2.2.2.2.2.2.2.2.2.2.2.2.2.2.2.2.2.2.2.2.1]
  simp +decide only [cR, cH, mm_fixA, mm_fixM, hc, ↓reduceIte]
  refine hr _ ?_
  simp +decide only [cR, eq_self, ↓reduceIte]
  exact hK
theorem lwa18 {A : Int32} {J1 J2 : Nat → Nat → Int32} (hc : ∀ Q, mm_C (mm_entry 75 [.ref 0] (hp sc I o t)) Q ↔ Q (.inl (some (.int A))) (hp sc J1 o t)) (hr : ∀ Q : mm_Q, Q (.inl (some (.int A))) (hp sc J2 o t) → mm_C (mm_entry 162 [.ref 206] (hp sc J1 o t)) Q) (hK : mm_C (213, mm_blk 213 103, [some (.float 0), some (.ref 0), some (.ref 206), some (.ref 214), some (.int (nI n)), x5, x6], [], (hp sc J2 o t)) Q) : mm_C (213, mm_blk 213 40, [some (.float 0), some (.ref 0), some (.ref 206), some (.ref 214), some (.int (nI n)), x5, x6], [], (hp sc I o t)) Q := by
  rw [mM_213.2.2.2.2.2.2.2.2.2.2.2.2.2.2.2.2.2.2.2.2.2.2.2.2.2.2.2.2.2.2.2.2.2.2.2.2.2.2.2.2.2.1]
  simp +decide only [cR, cH, mm_fixA, mm_fixM, hc, ↓reduceIte]
  refine hr _ ?_
  simp +decide only [cR, eq_self, ↓reduceIte]
  exact hK
theorem lwa19 {A : Int32} {J1 J2 : Nat → Nat → Int32} (hc : ∀ Q, mm_C (mm_entry 76 [.ref 0] (hp sc I o t)) Q ↔ Q (.inl (some (.int A))) (hp sc J1 o t)) (hr : ∀ Q : mm_Q, Q (.inl (some (.int A))) (hp sc J2 o t) → mm_C (mm_entry 163 [.ref 206] (hp sc J1 o t)) Q) (hK : mm_C (213, mm_blk 213 103, [some (.float 0), some (.ref 0), some (.ref 206), some (.ref 214), some (.int (nI n)), x5, x6], [], (hp sc J2 o t)) Q) : mm_C (213, mm_blk 213 41, [some (.float 0), some (.ref 0), some (.ref 206), some (.ref 214), some (.int (nI n)), x5, x6], [], (hp sc I o t)) Q := by
  rw [mM_213.2.2.2.2.2.2.2.2.2.2.2.2.2.2.2.2.2.2.2.2.2.2.2.2.2.2.2.2.2.2.2.2.2.2.2.2.2.2.2.2.2.2.1]
  simp +decide only [cR, cH, mm_fixA, mm_fixM, hc, ↓reduceIte]
  refine hr _ ?_
  simp +decide only [cR, eq_self, ↓reduceIte]
  exact hK
theorem lwa20 {A : Int32} {J1 J2 : Nat → Nat → Int32} (hc : ∀ Q, mm_C (mm_entry 77 [.ref 0] (hp sc I o t)) Q ↔ Q (.inl (some (.int A))) (hp sc J1 o t)) (hr : ∀ Q : mm_Q, Q (.inl (some (.int A))) (hp sc J2 o t) → mm_C (mm_entry 164 [.ref 206] (hp sc J1 o t)) Q) (hK : mm_C (213, mm_blk 213 103, [some (.float 0), some (.ref 0), some (.ref 206), some (.ref 214), some (.int (nI n)), x5, x6], [], (hp sc J2 o t)) Q) : mm_C (213, mm_blk 213 42, [some (.float 0), some (.ref 0), some (.ref 206), some (.ref 214), some (.int (nI n)), x5, x6], [], (hp sc I o t)) Q := by
  rw [mM_213.2.2.2.2.2.2.2.2.2.2.2.2.2.2.2.2.2.2.2.2.2.2.2.2.2.2.2.2.2.2.2.2.2.2.2.2.2.2.2.2.2.2.2.1]
  simp +decide only [cR, cH, mm_fixA, mm_fixM, hc, ↓reduceIte]
  refine hr _ ?_
  simp +decide only [cR, eq_self, ↓reduceIte]
  exact hK
theorem lwa21 {A : Int32} {J1 J2 : Nat → Nat → Int32} (hc : ∀ Q, mm_C (mm_entry 78 [.ref 0] (hp sc I o t)) Q ↔ Q (.inl (some (.int A))) (hp sc J1 o t)) (hr : ∀ Q : mm_Q, Q (.inl (some (.int A))) (hp sc J2 o t) → mm_C (mm_entry 165 [.ref 206] (hp sc J1 o t)) Q) (hK : mm_C (213, mm_blk 213 103, [some (.float 0), some (.ref 0), some (.ref 206), some (.ref 214), some (.int (nI n)), x5, x6], [], (hp sc J2 o t)) Q) : mm_C (213, mm_blk 213 43, [some (.float 0), some (.ref 0), some (.ref 206), some (.ref 214), some (.int (nI n)), x5, x6], [], (hp sc I o t)) Q := by
  rw [mM_213.2.2.2.2.2.2.2.2.2.2.2.2.2.2.2.2.2.2.2.2.2.2.2.2.2.2.2.2.2.2.2.2.2.2.2.2.2.2.2.2.2.2.2.2.1]
  simp +decide only [cR, cH, mm_fixA, mm_fixM, hc, ↓reduceIte]
  refine hr _ ?_
  simp +decide only [cR, eq_self, ↓reduceIte]
  exact hK
theorem lwa22 {A : Int32} {J1 J2 : Nat → Nat → Int32} (hc : ∀ Q, mm_C (mm_entry 79 [.ref 0] (hp sc I o t)) Q ↔ Q (.inl (some (.int A))) (hp sc J1 o t)) (hr : ∀ Q : mm_Q, Q (.inl (some (.int A))) (hp sc J2 o t) → mm_C (mm_entry 166 [.ref 206] (hp sc J1 o t)) Q) (hK : mm_C (213, mm_blk 213 103, [some (.float 0), some (.ref 0), some (.ref 206), some (.ref 214), some (.int (nI n)), x5, x6], [], (hp sc J2 o t)) Q) : mm_C (213, mm_blk 213 44, [some (.float 0), some (.ref 0), some (.ref 206), some (.ref 214), some (.int (nI n)), x5, x6], [], (hp sc I o t)) Q := by
  rw [mM_213.2.2.2.2.2.2.2.2.2.2.2.2.2.2.2.2.2.2.2.2.2.2.2.2.2.2.2.2.2.2.2.2.2.2.2.2.2.2.2.2.2.2.2.2.2.1]
  simp +decide only [cR, cH, mm_fixA, mm_fixM, hc, ↓reduceIte]
  refine hr _ ?_
  simp +decide only [cR, eq_self, ↓reduceIte]
  exact hK
theorem lwa23 {A : Int32} {J1 J2 : Nat → Nat → Int32} (hc : ∀ Q, mm_C (mm_entry 80 [.ref 0] (hp sc I o t)) Q ↔ Q (.inl (some (.int A))) (hp sc J1 o t)) (hr : ∀ Q : mm_Q, Q (.inl (some (.int A))) (hp sc J2 o t) → mm_C (mm_entry 167 [.ref 206] (hp sc J1 o t)) Q) (hK : mm_C (213, mm_blk 213 103, [some (.float 0), some (.ref 0), some (.ref 206), some (.ref 214), some (.int (nI n)), x5, x6], [], (hp sc J2 o t)) Q) : mm_C (213, mm_blk 213 45, [some (.float 0), some (.ref 0), some (.ref 206), some (.ref 214), some (.int (nI n)), x5, x6], [], (hp sc I o t)) Q := by
  rw [mM_213.2.2.2.2.2.2.2.2.2.2.2.2.2.2.2.2.2.2.2.2.2.2.2.2.2.2.2.2.2.2.2.2.2.2.2.2.2.2.2.2.2.2.2.2.2.2.1]
  simp +decide only [cR, cH, mm_fixA, mm_fixM, hc, ↓reduceIte]
  refine hr _ ?_
  simp +decide only [cR, eq_self, ↓reduceIte]
  exact hK
theorem lwo24 (hL : sc.1 ≤ 2048) (hn : n + 3 < sc.1) {A : Int32} {J1 J2 : Nat → Nat → Int32} (hw : ∀ Q, mm_C (mm_entry 198 [.ref 0, .int (sc.2 (n + 1)), .int (sc.2 (n + 2)), .ref 214] (hp sc I o t)) Q ↔ Q (.inl (some (.int 0))) (hp sc J1 A.toInt64 t)) (hr : ∀ Q : mm_Q, Q (.inl (some (.int A))) (hp sc J2 A.toInt64 t) → mm_C (mm_entry 168 [.ref 206, .int (sc.2 (n + 1)), .int (sc.2 (n + 2))] (hp sc J1 A.toInt64 t)) Q) (h0 : J2 206 0 = 0) (hK : mm_C (213, mm_blk 213 103, [some (.float 0), some (.ref 0), some (.ref 206), some (.ref 214), some (.int (nI n)), some (.int 0), some (.int A)], [], (hp sc J2 A.toInt64 t)) Q) : mm_C (213, mm_blk 213 46, [some (.float 0), some (.ref 0), some (.ref 206), some (.ref 214), some (.int (nI n)), x5, x6], [], (hp sc I o t)) Q := by
  rw [mM_213.2.2.2.2.2.2.2.2.2.2.2.2.2.2.2.2.2.2.2.2.2.2.2.2.2.2.2.2.2.2.2.2.2.2.2.2.2.2.2.2.2.2.2.2.2.2.2.1]
  simp +decide only [cR, cH, mm_fixA, mm_fixM, mm_fixO, cS hn hL, hw, ↓reduceIte]
  refine hr _ ?_
  simp +decide only [cR, cH, mm_fixM, mm_fixO, c107, h0, mM_213.2.2.2.2.2.2.2.2.2.2.2.2.2.2.2.2.2.2.2.2.2.2.2.2.2.2.2.2.2.2.2.2.2.2.2.2.2.2.2.2.2.2.2.2.2.2.2.2.1, mM_213.2.2.2.2.2.2.2.2.2.2.2.2.2.2.2.2.2.2.2.2.2.2.2.2.2.2.2.2.2.2.2.2.2.2.2.2.2.2.2.2.2.2.2.2.2.2.2.2.2.1, cLc, ↓reduceIte]
  exact hK
theorem lwt24 (hL : sc.1 ≤ 2048) (hn : n + 3 < sc.1) {k A : Int32} {J2 : Nat → Nat → Int32} (hk : ¬ k = 0) (hw : ∀ Q, mm_C (mm_entry 198 [.ref 0, .int (sc.2 (n + 1)), .int (sc.2 (n + 2)), .ref 214] (hp sc I o t)) Q ↔ Q (.inl (some (.int k))) (hp sc I o (t + 1))) (hr : ∀ Q : mm_Q, Q (.inl (some (.int A))) (hp sc J2 o (t + 1)) → mm_C (mm_entry 168 [.ref 206, .int (sc.2 (n + 1)), .int (sc.2 (n + 2))] (hp sc I o (t + 1))) Q) (h0 : J2 206 0 = k) (hK : mm_C (213, mm_blk 213 103, [some (.float 0), some (.ref 0), some (.ref 206), some (.ref 214), some (.int (nI n)), some (.int k), some (.int A)], [], (hp sc J2 o (t + 1))) Q) : mm_C (213, mm_blk 213 46, [some (.float 0), some (.ref 0), some (.ref 206), some (.ref 214), some (.int (nI n)), x5, x6], [], (hp sc I o t)) Q := by
  rw [mM_213.2.2.2.2.2.2.2.2.2.2.2.2.2.2.2.2.2.2.2.2.2.2.2.2.2.2.2.2.2.2.2.2.2.2.2.2.2.2.2.2.2.2.2.2.2.2.2.1]
  simp +decide only [cR, cH, mm_fixA, mm_fixM, mm_fixO, cS hn hL, hw, ↓reduceIte]
  refine hr _ ?_
  simp +decide only [cR, cH, mm_fixM, mm_fixO, c107, h0, hk, mM_213.2.2.2.2.2.2.2.2.2.2.2.2.2.2.2.2.2.2.2.2.2.2.2.2.2.2.2.2.2.2.2.2.2.2.2.2.2.2.2.2.2.2.2.2.2.2.2.2.1, mM_213.2.2.2.2.2.2.2.2.2.2.2.2.2.2.2.2.2.2.2.2.2.2.2.2.2.2.2.2.2.2.2.2.2.2.2.2.2.2.2.2.2.2.2.2.2.2.2.2.2.1, ↓reduceIte]
  exact hK
theorem lwo25 (hL : sc.1 ≤ 2048) (hn : n + 3 < sc.1) {A : Int32} {J1 J2 : Nat → Nat → Int32} (hw : ∀ Q, mm_C (mm_entry 199 [.ref 0, .int (sc.2 (n + 1)), .ref 214] (hp sc I o t)) Q ↔ Q (.inl (some (.int 0))) (hp sc J1 A.toInt64 t)) (hr : ∀ Q : mm_Q, Q (.inl (some (.int A))) (hp sc J2 A.toInt64 t) → mm_C (mm_entry 169 [.ref 206, .int (sc.2 (n + 1))] (hp sc J1 A.toInt64 t)) Q) (h0 : J2 206 0 = 0) (hK : mm_C (213, mm_blk 213 103, [some (.float 0), some (.ref 0), some (.ref 206), some (.ref 214), some (.int (nI n)), some (.int 0), some (.int A)], [], (hp sc J2 A.toInt64 t)) Q) : mm_C (213, mm_blk 213 49, [some (.float 0), some (.ref 0), some (.ref 206), some (.ref 214), some (.int (nI n)), x5, x6], [], (hp sc I o t)) Q := by
  rw [mM_213.2.2.2.2.2.2.2.2.2.2.2.2.2.2.2.2.2.2.2.2.2.2.2.2.2.2.2.2.2.2.2.2.2.2.2.2.2.2.2.2.2.2.2.2.2.2.2.2.2.2.1]
  simp +decide only [cR, cH, mm_fixA, mm_fixM, mm_fixO, cS hn hL, hw, ↓reduceIte]
  refine hr _ ?_
  simp +decide only [cR, cH, mm_fixM, mm_fixO, c107, h0, mM_213.2.2.2.2.2.2.2.2.2.2.2.2.2.2.2.2.2.2.2.2.2.2.2.2.2.2.2.2.2.2.2.2.2.2.2.2.2.2.2.2.2.2.2.2.2.2.2.2.2.2.2.1, mM_213.2.2.2.2.2.2.2.2.2.2.2.2.2.2.2.2.2.2.2.2.2.2.2.2.2.2.2.2.2.2.2.2.2.2.2.2.2.2.2.2.2.2.2.2.2.2.2.2.2.2.2.2.1, cLc, ↓reduceIte]
  exact hK
theorem lwt25 (hL : sc.1 ≤ 2048) (hn : n + 3 < sc.1) {k A : Int32} {J2 : Nat → Nat → Int32} (hk : ¬ k = 0) (hw : ∀ Q, mm_C (mm_entry 199 [.ref 0, .int (sc.2 (n + 1)), .ref 214] (hp sc I o t)) Q ↔ Q (.inl (some (.int k))) (hp sc I o (t + 1))) (hr : ∀ Q : mm_Q, Q (.inl (some (.int A))) (hp sc J2 o (t + 1)) → mm_C (mm_entry 169 [.ref 206, .int (sc.2 (n + 1))] (hp sc I o (t + 1))) Q) (h0 : J2 206 0 = k) (hK : mm_C (213, mm_blk 213 103, [some (.float 0), some (.ref 0), some (.ref 206), some (.ref 214), some (.int (nI n)), some (.int k), some (.int A)], [], (hp sc J2 o (t + 1))) Q) : mm_C (213, mm_blk 213 49, [some (.float 0), some (.ref 0), some (.ref 206), some (.ref 214), some (.int (nI n)), x5, x6], [], (hp sc I o t)) Q := by
  rw [mM_213.2.2.2.2.2.2.2.2.2.2.2.2.2.2.2.2.2.2.2.2.2.2.2.2.2.2.2.2.2.2.2.2.2.2.2.2.2.2.2.2.2.2.2.2.2.2.2.2.2.2.1]
  simp +decide only [cR, cH, mm_fixA, mm_fixM, mm_fixO, cS hn hL, hw, ↓reduceIte]
  refine hr _ ?_
  simp +decide only [cR, cH, mm_fixM, mm_fixO, c107, h0, hk, mM_213.2.2.2.2.2.2.2.2.2.2.2.2.2.2.2.2.2.2.2.2.2.2.2.2.2.2.2.2.2.2.2.2.2.2.2.2.2.2.2.2.2.2.2.2.2.2.2.2.2.2.2.1, mM_213.2.2.2.2.2.2.2.2.2.2.2.2.2.2.2.2.2.2.2.2.2.2.2.2.2.2.2.2.2.2.2.2.2.2.2.2.2.2.2.2.2.2.2.2.2.2.2.2.2.2.2.2.1, ↓reduceIte]
  exact hK
theorem lwa26 (hL : sc.1 ≤ 2048) (hn : n + 3 < sc.1) {A : Int32} {J1 J2 : Nat → Nat → Int32} (hc : ∀ Q, mm_C (mm_entry 83 [.ref 0, .int (if sc.2 (n + 1) = 0 then 0 else 1)] (hp sc I o t)) Q ↔ Q (.inl (some (.int A))) (hp sc J1 o t)) (hr : ∀ Q : mm_Q, Q (.inl (some (.int A))) (hp sc J2 o t) → mm_C (mm_entry 170 [.ref 206, .int (if sc.2 (n + 1) = 0 then 0 else 1)] (hp sc J1 o t)) Q) (hK : mm_C (213, mm_blk 213 103, [some (.float 0), some (.ref 0), some (.ref 206), some (.ref 214), some (.int (nI n)), x5, x6], [], (hp sc J2 o t)) Q) : mm_C (213, mm_blk 213 52, [some (.float 0), some (.ref 0), some (.ref 206), some (.ref 214), some (.int (nI n)), x5, x6], [], (hp sc I o t)) Q := by
  by_cases h : sc.2 (n + 1) = 0
  · rw [if_pos h] at hc hr
    rw [mM_213.2.2.2.2.2.2.2.2.2.2.2.2.2.2.2.2.2.2.2.2.2.2.2.2.2.2.2.2.2.2.2.2.2.2.2.2.2.2.2.2.2.2.2.2.2.2.2.2.2.2.2.2.2.1]
    simp +decide only [cR, cH, mm_fixA, mm_fixM, cS hn hL, h, hc, mM_213.2.2.2.2.2.2.2.2.2.2.2.2.2.2.2.2.2.2.2.2.2.2.2.2.2.2.2.2.2.2.2.2.2.2.2.2.2.2.2.2.2.2.2.2.2.2.2.2.2.2.2.2.2.2.1, mM_213.2.2.2.2.2.2.2.2.2.2.2.2.2.2.2.2.2.2.2.2.2.2.2.2.2.2.2.2.2.2.2.2.2.2.2.2.2.2.2.2.2.2.2.2.2.2.2.2.2.2.2.2.2.2.2.1, mM_213.2.2.2.2.2.2.2.2.2.2.2.2.2.2.2.2.2.2.2.2.2.2.2.2.2.2.2.2.2.2.2.2.2.2.2.2.2.2.2.2.2.2.2.2.2.2.2.2.2.2.2.2.2.2.2.2.1, mM_213.2.2.2.2.2.2.2.2.2.2.2.2.2.2.2.2.2.2.2.2.2.2.2.2.2.2.2.2.2.2.2.2.2.2.2.2.2.2.2.2.2.2.2.2.2.2.2.2.2.2.2.2.2.2.2.2.2.1, ↓reduceIte]
    refine hr _ ?_
    simp +decide only [cR, eq_self, ↓reduceIte]
    exact hK
  · rw [if_neg h] at hc hr
    rw [mM_213.2.2.2.2.2.2.2.2.2.2.2.2.2.2.2.2.2.2.2.2.2.2.2.2.2.2.2.2.2.2.2.2.2.2.2.2.2.2.2.2.2.2.2.2.2.2.2.2.2.2.2.2.2.1]
    simp +decide only [cR, cH, mm_fixA, mm_fixM, cS hn hL, h, hc, mM_213.2.2.2.2.2.2.2.2.2.2.2.2.2.2.2.2.2.2.2.2.2.2.2.2.2.2.2.2.2.2.2.2.2.2.2.2.2.2.2.2.2.2.2.2.2.2.2.2.2.2.2.2.2.2.1, mM_213.2.2.2.2.2.2.2.2.2.2.2.2.2.2.2.2.2.2.2.2.2.2.2.2.2.2.2.2.2.2.2.2.2.2.2.2.2.2.2.2.2.2.2.2.2.2.2.2.2.2.2.2.2.2.2.1, mM_213.2.2.2.2.2.2.2.2.2.2.2.2.2.2.2.2.2.2.2.2.2.2.2.2.2.2.2.2.2.2.2.2.2.2.2.2.2.2.2.2.2.2.2.2.2.2.2.2.2.2.2.2.2.2.2.2.1, mM_213.2.2.2.2.2.2.2.2.2.2.2.2.2.2.2.2.2.2.2.2.2.2.2.2.2.2.2.2.2.2.2.2.2.2.2.2.2.2.2.2.2.2.2.2.2.2.2.2.2.2.2.2.2.2.2.2.2.1, ↓reduceIte]
    refine hr _ ?_
    simp +decide only [cR, eq_self, ↓reduceIte]
    exact hK
theorem lwo27 (hL : sc.1 ≤ 2048) (hn : n + 3 < sc.1) {A : Int32} {J1 J2 : Nat → Nat → Int32} (hw : ∀ Q, mm_C (mm_entry 200 [.ref 0, .int (sc.2 (n + 1)), .int (sc.2 (n + 2)), .ref 214] (hp sc I o t)) Q ↔ Q (.inl (some (.int 0))) (hp sc J1 A.toInt64 t)) (hr : ∀ Q : mm_Q, Q (.inl (some (.int A))) (hp sc J2 A.toInt64 t) → mm_C (mm_entry 171 [.ref 206, .int (sc.2 (n + 1)), .int (sc.2 (n + 2))] (hp sc J1 A.toInt64 t)) Q) (h0 : J2 206 0 = 0) (hK : mm_C (213, mm_blk 213 103, [some (.float 0), some (.ref 0), some (.ref 206), some (.ref 214), some (.int (nI n)), some (.int 0), some (.int A)], [], (hp sc J2 A.toInt64 t)) Q) : mm_C (213, mm_blk 213 57, [some (.float 0), some (.ref 0), some (.ref 206), some (.ref 214), some (.int (nI n)), x5, x6], [], (hp sc I o t)) Q := by
  rw [mM_213.2.2.2.2.2.2.2.2.2.2.2.2.2.2.2.2.2.2.2.2.2.2.2.2.2.2.2.2.2.2.2.2.2.2.2.2.2.2.2.2.2.2.2.2.2.2.2.2.2.2.2.2.2.2.2.2.2.2.1]
  simp +decide only [cR, cH, mm_fixA, mm_fixM, mm_fixO, cS hn hL, hw, ↓reduceIte]
  refine hr _ ?_
  simp +decide only [cR, cH, mm_fixM, mm_fixO, c107, h0, mM_213.2.2.2.2.2.2.2.2.2.2.2.2.2.2.2.2.2.2.2.2.2.2.2.2.2.2.2.2.2.2.2.2.2.2.2.2.2.2.2.2.2.2.2.2.2.2.2.2.2.2.2.2.2.2.2.2.2.2.2.1, mM_213.2.2.2.2.2.2.2.2.2.2.2.2.2.2.2.2.2.2.2.2.2.2.2.2.2.2.2.2.2.2.2.2.2.2.2.2.2.2.2.2.2.2.2.2.2.2.2.2.2.2.2.2.2.2.2.2.2.2.2.2.1, cLc, ↓reduceIte]
  exact hK
theorem lwt27 (hL : sc.1 ≤ 2048) (hn : n + 3 < sc.1) {k A : Int32} {J2 : Nat → Nat → Int32} (hk : ¬ k = 0) (hw : ∀ Q, mm_C (mm_entry 200 [.ref 0, .int (sc.2 (n + 1)), .int (sc.2 (n + 2)), .ref 214] (hp sc I o t)) Q ↔ Q (.inl (some (.int k))) (hp sc I o (t + 1))) (hr : ∀ Q : mm_Q, Q (.inl (some (.int A))) (hp sc J2 o (t + 1)) → mm_C (mm_entry 171 [.ref 206, .int (sc.2 (n + 1)), .int (sc.2 (n + 2))] (hp sc I o (t + 1))) Q) (h0 : J2 206 0 = k) (hK : mm_C (213, mm_blk 213 103, [some (.float 0), some (.ref 0), some (.ref 206), some (.ref 214), some (.int (nI n)), some (.int k), some (.int A)], [], (hp sc J2 o (t + 1))) Q) : mm_C (213, mm_blk 213 57, [some (.float 0), some (.ref 0), some (.ref 206), some (.ref 214), some (.int (nI n)), x5, x6], [], (hp sc I o t)) Q := by
  rw [mM_213.2.2.2.2.2.2.2.2.2.2.2.2.2.2.2.2.2.2.2.2.2.2.2.2.2.2.2.2.2.2.2.2.2.2.2.2.2.2.2.2.2.2.2.2.2.2.2.2.2.2.2.2.2.2.2.2.2.2.1]
  simp +decide only [cR, cH, mm_fixA, mm_fixM, mm_fixO, cS hn hL, hw, ↓reduceIte]
  refine hr _ ?_
  simp +decide only [cR, cH, mm_fixM, mm_fixO, c107, h0, hk, mM_213.2.2.2.2.2.2.2.2.2.2.2.2.2.2.2.2.2.2.2.2.2.2.2.2.2.2.2.2.2.2.2.2.2.2.2.2.2.2.2.2.2.2.2.2.2.2.2.2.2.2.2.2.2.2.2.2.2.2.2.1, mM_213.2.2.2.2.2.2.2.2.2.2.2.2.2.2.2.2.2.2.2.2.2.2.2.2.2.2.2.2.2.2.2.2.2.2.2.2.2.2.2.2.2.2.2.2.2.2.2.2.2.2.2.2.2.2.2.2.2.2.2.2.1, ↓reduceIte]
  exact hK
theorem lwo28 (hL : sc.1 ≤ 2048) (hn : n + 3 < sc.1) {A : Int32} {J1 J2 : Nat → Nat → Int32} (hw : ∀ Q, mm_C (mm_entry 201 [.ref 0, .int (sc.2 (n + 1)), .int (sc.2 (n + 2)), .ref 214] (hp sc I o t)) Q ↔ Q (.inl (some (.int 0))) (hp sc J1 A.toInt64 t)) (hr : ∀ Q : mm_Q, Q (.inl (some (.int A))) (hp sc J2 A.toInt64 t) → mm_C (mm_entry 172 [.ref 206, .int (sc.2 (n + 1)), .int (sc.2 (n + 2))] (hp sc J1 A.toInt64 t)) Q) (h0 : J2 206 0 = 0) (hK : mm_C (213, mm_blk 213 103, [some (.float 0), some (.ref 0), some (.ref 206), some (.ref 214), some (.int (nI n)), some (.int 0), some (.int A)], [], (hp sc J2 A.toInt64 t)) Q) : mm_C (213, mm_blk 213 60, [some (.float 0), some (.ref 0), some (.ref 206), some (.ref 214), some (.int (nI n)), x5, x6], [], (hp sc I o t)) Q := by
  rw [mM_213.2.2.2.2.2.2.2.2.2.2.2.2.2.2.2.2.2.2.2.2.2.2.2.2.2.2.2.2.2.2.2.2.2.2.2.2.2.2.2.2.2.2.2.2.2.2.2.2.2.2.2.2.2.2.2.2.2.2.2.2.2.1]
  simp +decide only [cR, cH, mm_fixA, mm_fixM, mm_fixO, cS hn hL, hw, ↓reduceIte]
  refine hr _ ?_
  simp +decide only [cR, cH, mm_fixM, mm_fixO, c107, h0, mM_213.2.2.2.2.2.2.2.2.2.2.2.2.2.2.2.2.2.2.2.2.2.2.2.2.2.2.2.2.2.2.2.2.2.2.2.2.2.2.2.2.2.2.2.2.2.2.2.2.2.2.2.2.2.2.2.2.2.2.2.2.2.2.1, mM_213.2.2.2.2.2.2.2.2.2.2.2.2.2.2.2.2.2.2.2.2.2.2.2.2.2.2.2.2.2.2.2.2.2.2.2.2.2.2.2.2.2.2.2.2.2.2.2.2.2.2.2.2.2.2.2.2.2.2.2.2.2.2.2.1, cLc, ↓reduceIte]
  exact hK
theorem lwt28 (hL : sc.1 ≤ 2048) (hn : n + 3 < sc.1) {k A : Int32} {J2 : Nat → Nat → Int32} (hk : ¬ k = 0) (hw : ∀ Q, mm_C (mm_entry 201 [.ref 0, .int (sc.2 (n + 1)), .int (sc.2 (n + 2)), .ref 214] (hp sc I o t)) Q ↔ Q (.inl (some (.int k))) (hp sc I o (t + 1))) (hr : ∀ Q : mm_Q, Q (.inl (some (.int A))) (hp sc J2 o (t + 1)) → mm_C (mm_entry 172 [.ref 206, .int (sc.2 (n + 1)), .int (sc.2 (n + 2))] (hp sc I o (t + 1))) Q) (h0 : J2 206 0 = k) (hK : mm_C (213, mm_blk 213 103, [some (.float 0), some (.ref 0), some (.ref 206), some (.ref 214), some (.int (nI n)), some (.int k), some (.int A)], [], (hp sc J2 o (t + 1))) Q) : mm_C (213, mm_blk 213 60, [some (.float 0), some (.ref 0), some (.ref 206), some (.ref 214), some (.int (nI n)), x5, x6], [], (hp sc I o t)) Q := by
  rw [mM_213.2.2.2.2.2.2.2.2.2.2.2.2.2.2.2.2.2.2.2.2.2.2.2.2.2.2.2.2.2.2.2.2.2.2.2.2.2.2.2.2.2.2.2.2.2.2.2.2.2.2.2.2.2.2.2.2.2.2.2.2.2.1]
  simp +decide only [cR, cH, mm_fixA, mm_fixM, mm_fixO, cS hn hL, hw, ↓reduceIte]
  refine hr _ ?_
  simp +decide only [cR, cH, mm_fixM, mm_fixO, c107, h0, hk, mM_213.2.2.2.2.2.2.2.2.2.2.2.2.2.2.2.2.2.2.2.2.2.2.2.2.2.2.2.2.2.2.2.2.2.2.2.2.2.2.2.2.2.2.2.2.2.2.2.2.2.2.2.2.2.2.2.2.2.2.2.2.2.2.1, mM_213.2.2.2.2.2.2.2.2.2.2.2.2.2.2.2.2.2.2.2.2.2.2.2.2.2.2.2.2.2.2.2.2.2.2.2.2.2.2.2.2.2.2.2.2.2.2.2.2.2.2.2.2.2.2.2.2.2.2.2.2.2.2.2.1, ↓reduceIte]
  exact hK
theorem lwo29 (hL : sc.1 ≤ 2048) (hn : n + 3 < sc.1) {A : Int32} {J1 J2 : Nat → Nat → Int32} (hw : ∀ Q, mm_C (mm_entry 202 [.ref 0, .int (sc.2 (n + 1)), .ref 214] (hp sc I o t)) Q ↔ Q (.inl (some (.int 0))) (hp sc J1 A.toInt64 t)) (hr : ∀ Q : mm_Q, Q (.inl (some (.int A))) (hp sc J2 A.toInt64 t) → mm_C (mm_entry 173 [.ref 206, .int (sc.2 (n + 1))] (hp sc J1 A.toInt64 t)) Q) (h0 : J2 206 0 = 0) (hK : mm_C (213, mm_blk 213 103, [some (.float 0), some (.ref 0), some (.ref 206), some (.ref 214), some (.int (nI n)), some (.int 0), some (.int A)], [], (hp sc J2 A.toInt64 t)) Q) : mm_C (213, mm_blk 213 63, [some (.float 0), some (.ref 0), some (.ref 206), some (.ref 214), some (.int (nI n)), x5, x6], [], (hp sc I o t)) Q := by
  rw [mM_213.2.2.2.2.2.2.2.2.2.2.2.2.2.2.2.2.2.2.2.2.2.2.2.2.2.2.2.2.2.2.2.2.2.2.2.2.2.2.2.2.2.2.2.2.2.2.2.2.2.2.2.2.2.2.2.2.2.2.2.2.2.2.2.2.1]
  simp +decide only [cR, cH, mm_fixA, mm_fixM, mm_fixO, cS hn hL, hw, ↓reduceIte]
  refine hr _ ?_
  simp +decide only [cR, cH, mm_fixM, mm_fixO, c107, h0, mM_213.2.2.2.2.2.2.2.2.2.2.2.2.2.2.2.2.2.2.2.2.2.2.2.2.2.2.2.2.2.2.2.2.2.2.2.2.2.2.2.2.2.2.2.2.2.2.2.2.2.2.2.2.2.2.2.2.2.2.2.2.2.2.2.2.2.1, mM_213.2.2.2.2.2.2.2.2.2.2.2.2.2.2.2.2.2.2.2.2.2.2.2.2.2.2.2.2.2.2.2.2.2.2.2.2.2.2.2.2.2.2.2.2.2.2.2.2.2.2.2.2.2.2.2.2.2.2.2.2.2.2.2.2.2.2.1, cLc, ↓reduceIte]
  exact hK
theorem lwt29 (hL : sc.1 ≤ 2048) (hn : n + 3 < sc.1) {k A : Int32} {J2 : Nat → Nat → Int32} (hk : ¬ k = 0) (hw : ∀ Q, mm_C (mm_entry 202 [.ref 0, .int (sc.2 (n + 1)), .ref 214] (hp sc I o t)) Q ↔ Q (.inl (some (.int k))) (hp sc I o (t + 1))) (hr : ∀ Q : mm_Q, Q (.inl (some (.int A))) (hp sc J2 o (t + 1)) → mm_C (mm_entry 173 [.ref 206, .int (sc.2 (n + 1))] (hp sc I o (t + 1))) Q) (h0 : J2 206 0 = k) (hK : mm_C (213, mm_blk 213 103, [some (.float 0), some (.ref 0), some (.ref 206), some (.ref 214), some (.int (nI n)), some (.int k), some (.int A)], [], (hp sc J2 o (t + 1))) Q) : mm_C (213, mm_blk 213 63, [some (.float 0), some (.ref 0), some (.ref 206), some (.ref 214), some (.int (nI n)), x5, x6], [], (hp sc I o t)) Q := by
  rw [mM_213.2.2.2.2.2.2.2.2.2.2.2.2.2.2.2.2.2.2.2.2.2.2.2.2.2.2.2.2.2.2.2.2.2.2.2.2.2.2.2.2.2.2.2.2.2.2.2.2.2.2.2.2.2.2.2.2.2.2.2.2.2.2.2.2.1]
  simp +decide only [cR, cH, mm_fixA, mm_fixM, mm_fixO, cS hn hL, hw, ↓reduceIte]
  refine hr _ ?_
  simp +decide only [cR, cH, mm_fixM, mm_fixO, c107, h0, hk, mM_213.2.2.2.2.2.2.2.2.2.2.2.2.2.2.2.2.2.2.2.2.2.2.2.2.2.2.2.2.2.2.2.2.2.2.2.2.2.2.2.2.2.2.2.2.2.2.2.2.2.2.2.2.2.2.2.2.2.2.2.2.2.2.2.2.2.1, mM_213.2.2.2.2.2.2.2.2.2.2.2.2.2.2.2.2.2.2.2.2.2.2.2.2.2.2.2.2.2.2.2.2.2.2.2.2.2.2.2.2.2.2.2.2.2.2.2.2.2.2.2.2.2.2.2.2.2.2.2.2.2.2.2.2.2.2.1, ↓reduceIte]
  exact hK
theorem lwa30 (hL : sc.1 ≤ 2048) (hn : n + 3 < sc.1) {A : Int32} {J1 J2 : Nat → Nat → Int32} (hc : ∀ Q, mm_C (mm_entry 87 [.ref 0, .int (if sc.2 (n + 1) = 0 then 0 else 1)] (hp sc I o t)) Q ↔ Q (.inl (some (.int A))) (hp sc J1 o t)) (hr : ∀ Q : mm_Q, Q (.inl (some (.int A))) (hp sc J2 o t) → mm_C (mm_entry 174 [.ref 206, .int (if sc.2 (n + 1) = 0 then 0 else 1)] (hp sc J1 o t)) Q) (hK : mm_C (213, mm_blk 213 103, [some (.float 0), some (.ref 0), some (.ref 206), some (.ref 214), some (.int (nI n)), x5, x6], [], (hp sc J2 o t)) Q) : mm_C (213, mm_blk 213 66, [some (.float 0), some (.ref 0), some (.ref 206), some (.ref 214), some (.int (nI n)), x5, x6], [], (hp sc I o t)) Q := by
  by_cases h : sc.2 (n + 1) = 0
  · rw [if_pos h] at hc hr
    rw [mM_213.2.2.2.2.2.2.2.2.2.2.2.2.2.2.2.2.2.2.2.2.2.2.2.2.2.2.2.2.2.2.2.2.2.2.2.2.2.2.2.2.2.2.2.2.2.2.2.2.2.2.2.2.2.2.2.2.2.2.2.2.2.2.2.2.2.2.2.1]
    simp +decide only [cR, cH, mm_fixA, mm_fixM, cS hn hL, h, hc, mM_213.2.2.2.2.2.2.2.2.2.2.2.2.2.2.2.2.2.2.2.2.2.2.2.2.2.2.2.2.2.2.2.2.2.2.2.2.2.2.2.2.2.2.2.2.2.2.2.2.2.2.2.2.2.2.2.2.2.2.2.2.2.2.2.2.2.2.2.2.1, mM_213.2.2.2.2.2.2.2.2.2.2.2.2.2.2.2.2.2.2.2.2.2.2.2.2.2.2.2.2.2.2.2.2.2.2.2.2.2.2.2.2.2.2.2.2.2.2.2.2.2.2.2.2.2.2.2.2.2.2.2.2.2.2.2.2.2.2.2.2.2.1, mM_213.2.2.2.2.2.2.2.2.2.2.2.2.2.2.2.2.2.2.2.2.2.2.2.2.2.2.2.2.2.2.2.2.2.2.2.2.2.2.2.2.2.2.2.2.2.2.2.2.2.2.2.2.2.2.2.2.2.2.2.2.2.2.2.2.2.2.2.2.2.2.1, mM_213.2.2.2.2.2.2.2.2.2.2.2.2.2.2.2.2.2.2.2.2.2.2.2.2.2.2.2.2.2.2.2.2.2.2.2.2.2.2.2.2.2.2.2.2.2.2.2.2.2.2.2.2.2.2.2.2.2.2.2.2.2.2.2.2.2.2.2.2.2.2.2.1, ↓reduceIte]
    refine hr _ ?_
    simp +decide only [cR, eq_self, ↓reduceIte]
    exact hK
  · rw [if_neg h] at hc hr
    rw [mM_213.2.2.2.2.2.2.2.2.2.2.2.2.2.2.2.2.2.2.2.2.2.2.2.2.2.2.2.2.2.2.2.2.2.2.2.2.2.2.2.2.2.2.2.2.2.2.2.2.2.2.2.2.2.2.2.2.2.2.2.2.2.2.2.2.2.2.2.1]
    simp +decide only [cR, cH, mm_fixA, mm_fixM, cS hn hL, h, hc, mM_213.2.2.2.2.2.2.2.2.2.2.2.2.2.2.2.2.2.2.2.2.2.2.2.2.2.2.2.2.2.2.2.2.2.2.2.2.2.2.2.2.2.2.2.2.2.2.2.2.2.2.2.2.2.2.2.2.2.2.2.2.2.2.2.2.2.2.2.2.1, mM_213.2.2.2.2.2.2.2.2.2.2.2.2.2.2.2.2.2.2.2.2.2.2.2.2.2.2.2.2.2.2.2.2.2.2.2.2.2.2.2.2.2.2.2.2.2.2.2.2.2.2.2.2.2.2.2.2.2.2.2.2.2.2.2.2.2.2.2.2.2.1, mM_213.2.2.2.2.2.2.2.2.2.2.2.2.2.2.2.2.2.2.2.2.2.2.2.2.2.2.2.2.2.2.2.2.2.2.2.2.2.2.2.2.2.2.2.2.2.2.2.2.2.2.2.2.2.2.2.2.2.2.2.2.2.2.2.2.2.2.2.2.2.2.1, mM_213.2.2.2.2.2.2.2.2.2.2.2.2.2.2.2.2.2.2.2.2.2.2.2.2.2.2.2.2.2.2.2.2.2.2.2.2.2.2.2.2.2.2.2.2.2.2.2.2.2.2.2.2.2.2.2.2.2.2.2.2.2.2.2.2.2.2.2.2.2.2.2.1, ↓reduceIte]
    refine hr _ ?_
    simp +decide only [cR, eq_self, ↓reduceIte]
    exact hK
theorem lwo31 (hL : sc.1 ≤ 2048) (hn : n + 3 < sc.1) {A : Int32} {J1 J2 : Nat → Nat → Int32} (hw : ∀ Q, mm_C (mm_entry 203 [.ref 0, .int (sc.2 (n + 1)), .ref 214] (hp sc I o t)) Q ↔ Q (.inl (some (.int 0))) (hp sc J1 A.toInt64 t)) (hr : ∀ Q : mm_Q, Q (.inl (some (.int A))) (hp sc J2 A.toInt64 t) → mm_C (mm_entry 175 [.ref 206, .int (sc.2 (n + 1))] (hp sc J1 A.toInt64 t)) Q) (h0 : J2 206 0 = 0) (hK : mm_C (213, mm_blk 213 103, [some (.float 0), some (.ref 0), some (.ref 206), some (.ref 214), some (.int (nI n)), some (.int 0), some (.int A)], [], (hp sc J2 A.toInt64 t)) Q) : mm_C (213, mm_blk 213 71, [some (.float 0), some (.ref 0), some (.ref 206), some (.ref 214), some (.int (nI n)), x5, x6], [], (hp sc I o t)) Q := by
  rw [mM_213.2.2.2.2.2.2.2.2.2.2.2.2.2.2.2.2.2.2.2.2.2.2.2.2.2.2.2.2.2.2.2.2.2.2.2.2.2.2.2.2.2.2.2.2.2.2.2.2.2.2.2.2.2.2.2.2.2.2.2.2.2.2.2.2.2.2.2.2.2.2.2.2.1]
  simp +decide only [cR, cH, mm_fixA, mm_fixM, mm_fixO, cS hn hL, hw, ↓reduceIte]
  refine hr _ ?_
  simp +decide only [cR, cH, mm_fixM, mm_fixO, c107, h0, mM_213.2.2.2.2.2.2.2.2.2.2.2.2.2.2.2.2.2.2.2.2.2.2.2.2.2.2.2.2.2.2.2.2.2.2.2.2.2.2.2.2.2.2.2.2.2.2.2.2.2.2.2.2.2.2.2.2.2.2.2.2.2.2.2.2.2.2.2.2.2.2.2.2.2.1, mM_213.2.2.2.2.2.2.2.2.2.2.2.2.2.2.2.2.2.2.2.2.2.2.2.2.2.2.2.2.2.2.2.2.2.2.2.2.2.2.2.2.2.2.2.2.2.2.2.2.2.2.2.2.2.2.2.2.2.2.2.2.2.2.2.2.2.2.2.2.2.2.2.2.2.2.1, cLc, ↓reduceIte]
  exact hK
theorem lwt31 (hL : sc.1 ≤ 2048) (hn : n + 3 < sc.1) {k A : Int32} {J2 : Nat → Nat → Int32} (hk : ¬ k = 0) (hw : ∀ Q, mm_C (mm_entry 203 [.ref 0, .int (sc.2 (n + 1)), .ref 214] (hp sc I o t)) Q ↔ Q (.inl (some (.int k))) (hp sc I o (t + 1))) (hr : ∀ Q : mm_Q, Q (.inl (some (.int A))) (hp sc J2 o (t + 1)) → mm_C (mm_entry 175 [.ref 206, .int (sc.2 (n + 1))] (hp sc I o (t + 1))) Q) (h0 : J2 206 0 = k) (hK : mm_C (213, mm_blk 213 103, [some (.float 0), some (.ref 0), some (.ref 206), some (.ref 214), some (.int (nI n)), some (.int k), some (.int A)], [], (hp sc J2 o (t + 1))) Q) : mm_C (213, mm_blk 213 71, [some (.float 0), some (.ref 0), some (.ref 206), some (.ref 214), some (.int (nI n)), x5, x6], [], (hp sc I o t)) Q := by
  rw [mM_213.2.2.2.2.2.2.2.2.2.2.2.2.2.2.2.2.2.2.2.2.2.2.2.2.2.2.2.2.2.2.2.2.2.2.2.2.2.2.2.2.2.2.2.2.2.2.2.2.2.2.2.2.2.2.2.2.2.2.2.2.2.2.2.2.2.2.2.2.2.2.2.2.1]
  simp +decide only [cR, cH, mm_fixA, mm_fixM, mm_fixO, cS hn hL, hw, ↓reduceIte]
  refine hr _ ?_
  simp +decide only [cR, cH, mm_fixM, mm_fixO, c107, h0, hk, mM_213.2.2.2.2.2.2.2.2.2.2.2.2.2.2.2.2.2.2.2.2.2.2.2.2.2.2.2.2.2.2.2.2.2.2.2.2.2.2.2.2.2.2.2.2.2.2.2.2.2.2.2.2.2.2.2.2.2.2.2.2.2.2.2.2.2.2.2.2.2.2.2.2.2.1, mM_213.2.2.2.2.2.2.2.2.2.2.2.2.2.2.2.2.2.2.2.2.2.2.2.2.2.2.2.2.2.2.2.2.2.2.2.2.2.2.2.2.2.2.2.2.2.2.2.2.2.2.2.2.2.2.2.2.2.2.2.2.2.2.2.2.2.2.2.2.2.2.2.2.2.2.1, ↓reduceIte]
  exact hK
theorem lwo32 {A : Int32} {J1 J2 : Nat → Nat → Int32} (hw : ∀ Q, mm_C (mm_entry 204 [.ref 0, .ref 214] (hp sc I o t)) Q ↔ Q (.inl (some (.int 0))) (hp sc J1 A.toInt64 t)) (hr : ∀ Q : mm_Q, Q (.inl (some (.int A))) (hp sc J2 A.toInt64 t) → mm_C (mm_entry 176 [.ref 206] (hp sc J1 A.toInt64 t)) Q) (h0 : J2 206 0 = 0) (hK : mm_C (213, mm_blk 213 103, [some (.float 0), some (.ref 0), some (.ref 206), some (.ref 214), some (.int (nI n)), some (.int 0), some (.int A)], [], (hp sc J2 A.toInt64 t)) Q) : mm_C (213, mm_blk 213 74, [some (.float 0), some (.ref 0), some (.ref 206), some (.ref 214), some (.int (nI n)), x5, x6], [], (hp sc I o t)) Q := by
  rw [mM_213.2.2.2.2.2.2.2.2.2.2.2.2.2.2.2.2.2.2.2.2.2.2.2.2.2.2.2.2.2.2.2.2.2.2.2.2.2.2.2.2.2.2.2.2.2.2.2.2.2.2.2.2.2.2.2.2.2.2.2.2.2.2.2.2.2.2.2.2.2.2.2.2.2.2.2.1]
  simp +decide only [cR, cH, mm_fixA, mm_fixM, mm_fixO, hw, ↓reduceIte]
  refine hr _ ?_
  simp +decide only [cR, cH, mm_fixM, mm_fixO, c107, h0, mM_213.2.2.2.2.2.2.2.2.2.2.2.2.2.2.2.2.2.2.2.2.2.2.2.2.2.2.2.2.2.2.2.2.2.2.2.2.2.2.2.2.2.2.2.2.2.2.2.2.2.2.2.2.2.2.2.2.2.2.2.2.2.2.2.2.2.2.2.2.2.2.2.2.2.2.2.2.1, mM_213.2.2.2.2.2.2.2.2.2.2.2.2.2.2.2.2.2.2.2.2.2.2.2.2.2.2.2.2.2.2.2.2.2.2.2.2.2.2.2.2.2.2.2.2.2.2.2.2.2.2.2.2.2.2.2.2.2.2.2.2.2.2.2.2.2.2.2.2.2.2.2.2.2.2.2.2.2.1, cLc, ↓reduceIte]
  exact hK
theorem lwt32 {k A : Int32} {J2 : Nat → Nat → Int32} (hk : ¬ k = 0) (hw : ∀ Q, mm_C (mm_entry 204 [.ref 0, .ref 214] (hp sc I o t)) Q ↔ Q (.inl (some (.int k))) (hp sc I o (t + 1))) (hr : ∀ Q : mm_Q, Q (.inl (some (.int A))) (hp sc J2 o (t + 1)) → mm_C (mm_entry 176 [.ref 206] (hp sc I o (t + 1))) Q) (h0 : J2 206 0 = k) (hK : mm_C (213, mm_blk 213 103, [some (.float 0), some (.ref 0), some (.ref 206), some (.ref 214), some (.int (nI n)), some (.int k), some (.int A)], [], (hp sc J2 o (t + 1))) Q) : mm_C (213, mm_blk 213 74, [some (.float 0), some (.ref 0), some (.ref 206), some (.ref 214), some (.int (nI n)), x5, x6], [], (hp sc I o t)) Q := by
  rw [mM_213.2.2.2.2.2.2.2.2.2.2.2.2.2.2.2.2.2.2.2.2.2.2.2.2.2.2.2.2.2.2.2.2.2.2.2.2.2.2.2.2.2.2.2.2.2.2.2.2.2.2.2.2.2.2.2.2.2.2.2.2.2.2.2.2.2.2.2.2.2.2.2.2.2.2.2.1]
  simp +decide only [cR, cH, mm_fixA, mm_fixM, mm_fixO, hw, ↓reduceIte]
  refine hr _ ?_
  simp +decide only [cR, cH, mm_fixM, mm_fixO, c107, h0, hk, mM_213.2.2.2.2.2.2.2.2.2.2.2.2.2.2.2.2.2.2.2.2.2.2.2.2.2.2.2.2.2.2.2.2.2.2.2.2.2.2.2.2.2.2.2.2.2.2.2.2.2.2.2.2.2.2.2.2.2.2.2.2.2.2.2.2.2.2.2.2.2.2.2.2.2.2.2.2.1, mM_213.2.2.2.2.2.2.2.2.2.2.2.2.2.2.2.2.2.2.2.2.2.2.2.2.2.2.2.2.2.2.2.2.2.2.2.2.2.2.2.2.2.2.2.2.2.2.2.2.2.2.2.2.2.2.2.2.2.2.2.2.2.2.2.2.2.2.2.2.2.2.2.2.2.2.2.2.2.1, ↓reduceIte]
  exact hK
theorem lwo33 (hL : sc.1 ≤ 2048) (hn : n + 3 < sc.1) {A : Int32} {J1 J2 : Nat → Nat → Int32} (hw : ∀ Q, mm_C (mm_entry 205 [.ref 0, .int (sc.2 (n + 1)), .ref 214] (hp sc I o t)) Q ↔ Q (.inl (some (.int 0))) (hp sc J1 A.toInt64 t)) (hr : ∀ Q : mm_Q, Q (.inl (some (.int A))) (hp sc J2 A.toInt64 t) → mm_C (mm_entry 178 [.ref 206, .int (sc.2 (n + 1))] (hp sc J1 A.toInt64 t)) Q) (h0 : J2 206 0 = 0) (hK : mm_C (213, mm_blk 213 103, [some (.float 0), some (.ref 0), some (.ref 206), some (.ref 214), some (.int (nI n)), some (.int 0), some (.int A)], [], (hp sc J2 A.toInt64 t)) Q) : mm_C (213, mm_blk 213 77, [some (.float 0), some (.ref 0), some (.ref 206), some (.ref 214), some (.int (nI n)), x5, x6], [], (hp sc I o t)) Q := by
  rw [mM_213.2.2.2.2.2.2.2.2.2.2.2.2.2.2.2.2.2.2.2.2.2.2.2.2.2.2.2.2.2.2.2.2.2.2.2.2.2.2.2.2.2.2.2.2.2.2.2.2.2.2.2.2.2.2.2.2.2.2.2.2.2.2.2.2.2.2.2.2.2.2.2.2.2.2.2.2.2.2.1]
  simp +decide only [cR, cH, mm_fixA, mm_fixM, mm_fixO, cS hn hL, hw, ↓reduceIte]
  refine hr _ ?_
  simp +decide only [cR, cH, mm_fixM, mm_fixO, c107, h0, mM_213.2.2.2.2.2.2.2.2.2.2.2.2.2.2.2.2.2.2.2.2.2.2.2.2.2.2.2.2.2.2.2.2.2.2.2.2.2.2.2.2.2.2.2.2.2.2.2.2.2.2.2.2.2.2.2.2.2.2.2.2.2.2.2.2.2.2.2.2.2.2.2.2.2.2.2.2.2.2.2.1, mM_213.2.2.2.2.2.2.2.2.2.2.2.2.2.2.2.2.2.2.2.2.2.2.2.2.2.2.2.2.2.2.2.2.2.2.2.2.2.2.2.2.2.2.2.2.2.2.2.2.2.2.2.2.2.2.2.2.2.2.2.2.2.2.2.2.2.2.2.2.2.2.2.2.2.2.2.2.2.2.2.2.1, cLc, ↓reduceIte]
  exact hK
theorem lwt33 (hL : sc.1 ≤ 2048) (hn : n + 3 < sc.1) {k A : Int32} {J2 : Nat → Nat → Int32} (hk : ¬ k = 0) (hw : ∀ Q, mm_C (mm_entry 205 [.ref 0, .int (sc.2 (n + 1)), .ref 214] (hp sc I o t)) Q ↔ Q (.inl (some (.int k))) (hp sc I o (t + 1))) (hr : ∀ Q : mm_Q, Q (.inl (some (.int A))) (hp sc J2 o (t + 1)) → mm_C (mm_entry 178 [.ref 206, .int (sc.2 (n + 1))] (hp sc I o (t + 1))) Q) (h0 : J2 206 0 = k) (hK : mm_C (213, mm_blk 213 103, [some (.float 0), some (.ref 0), some (.ref 206), some (.ref 214), some (.int (nI n)), some (.int k), some (.int A)], [], (hp sc J2 o (t + 1))) Q) : mm_C (213, mm_blk 213 77, [some (.float 0), some (.ref 0), some (.ref 206), some (.ref 214), some (.int (nI n)), x5, x6], [], (hp sc I o t)) Q := by
  rw [mM_213.2.2.2.2.2.2.2.2.2.2.2.2.2.2.2.2.2.2.2.2.2.2.2.2.2.2.2.2.2.2.2.2.2.2.2.2.2.2.2.2.2.2.2.2.2.2.2.2.2.2.2.2.2.2.2.2.2.2.2.2.2.2.2.2.2.2.2.2.2.2.2.2.2.2.2.2.2.2.1]
  simp +decide only [cR, cH, mm_fixA, mm_fixM, mm_fixO, cS hn hL, hw, ↓reduceIte]
  refine hr _ ?_
  simp +decide only [cR, cH, mm_fixM, mm_fixO, c107, h0, hk, mM_213.2.2.2.2.2.2.2.2.2.2.2.2.2.2.2.2.2.2.2.2.2.2.2.2.2.2.2.2.2.2.2.2.2.2.2.2.2.2.2.2.2.2.2.2.2.2.2.2.2.2.2.2.2.2.2.2.2.2.2.2.2.2.2.2.2.2.2.2.2.2.2.2.2.2.2.2.2.2.2.1, mM_213.2.2.2.2.2.2.2.2.2.2.2.2.2.2.2.2.2.2.2.2.2.2.2.2.2.2.2.2.2.2.2.2.2.2.2.2.2.2.2.2.2.2.2.2.2.2.2.2.2.2.2.2.2.2.2.2.2.2.2.2.2.2.2.2.2.2.2.2.2.2.2.2.2.2.2.2.2.2.2.2.1, ↓reduceIte]
  exact hK
theorem lwo34 (hL : sc.1 ≤ 2048) (hn : n + 3 < sc.1) {A : Int32} {J1 J2 : Nat → Nat → Int32} (hw : ∀ Q, mm_C (mm_entry 206 [.ref 0, .int (sc.2 (n + 1)), .ref 214] (hp sc I o t)) Q ↔ Q (.inl (some (.int 0))) (hp sc J1 A.toInt64 t)) (hr : ∀ Q : mm_Q, Q (.inl (some (.int A))) (hp sc J2 A.toInt64 t) → mm_C (mm_entry 179 [.ref 206, .int (sc.2 (n + 1))] (hp sc J1 A.toInt64 t)) Q) (h0 : J2 206 0 = 0) (hK : mm_C (213, mm_blk 213 103, [some (.float 0), some (.ref 0), some (.ref 206), some (.ref 214), some (.int (nI n)), some (.int 0), some (.int A)], [], (hp sc J2 A.toInt64 t)) Q) : mm_C (213, mm_blk 213 80, [some (.float 0), some (.ref 0), some (.ref 206), some (.ref 214), some (.int (nI n)), x5, x6], [], (hp sc I o t)) Q := by
  rw [mM_213.2.2.2.2.2.2.2.2.2.2.2.2.2.2.2.2.2.2.2.2.2.2.2.2.2.2.2.2.2.2.2.2.2.2.2.2.2.2.2.2.2.2.2.2.2.2.2.2.2.2.2.2.2.2.2.2.2.2.2.2.2.2.2.2.2.2.2.2.2.2.2.2.2.2.2.2.2.2.2.2.2.1]
  simp +decide only [cR, cH, mm_fixA, mm_fixM, mm_fixO, cS hn hL, hw, ↓reduceIte]
  refine hr _ ?_
  simp +decide only [cR, cH, mm_fixM, mm_fixO, c107, h0, mM_213.2.2.2.2.2.2.2.2.2.2.2.2.2.2.2.2.2.2.2.2.2.2.2.2.2.2.2.2.2.2.2.2.2.2.2.2.2.2.2.2.2.2.2.2.2.2.2.2.2.2.2.2.2.2.2.2.2.2.2.2.2.2.2.2.2.2.2.2.2.2.2.2.2.2.2.2.2.2.2.2.2.2.1, mM_213.2.2.2.2.2.2.2.2.2.2.2.2.2.2.2.2.2.2.2.2.2.2.2.2.2.2.2.2.2.2.2.2.2.2.2.2.2.2.2.2.2.2.2.2.2.2.2.2.2.2.2.2.2.2.2.2.2.2.2.2.2.2.2.2.2.2.2.2.2.2.2.2.2.2.2.2.2.2.2.2.2.2.2.1, cLc, ↓reduceIte]
  exact hK
theorem lwt34 (hL : sc.1 ≤ 2048) (hn : n + 3 < sc.1) {k A : Int32} {J2 : Nat → Nat → Int32} (hk : ¬ k = 0) (hw : ∀ Q, mm_C (mm_entry 206 [.ref 0, .int (sc.2 (n + 1)), .ref 214] (hp sc I o t)) Q ↔ Q (.inl (some (.int k))) (hp sc I o (t + 1))) (hr : ∀ Q : mm_Q, Q (.inl (some (.int A))) (hp sc J2 o (t + 1)) → mm_C (mm_entry 179 [.ref 206, .int (sc.2 (n + 1))] (hp sc I o (t + 1))) Q) (h0 : J2 206 0 = k) (hK : mm_C (213, mm_blk 213 103, [some (.float 0), some (.ref 0), some (.ref 206), some (.ref 214), some (.int (nI n)), some (.int k), some (.int A)], [], (hp sc J2 o (t + 1))) Q) : mm_C (213, mm_blk 213 80, [some (.float 0), some (.ref 0), some (.ref 206), some (.ref 214), some (.int (nI n)), x5, x6], [], (hp sc I o t)) Q := by
  rw [mM_213.2.2.2.2.2.2.2.2.2.2.2.2.2.2.2.2.2.2.2.2.2.2.2.2.2.2.2.2.2.2.2.2.2.2.2.2.2.2.2.2.2.2.2.2.2.2.2.2.2.2.2.2.2.2.2.2.2.2.2.2.2.2.2.2.2.2.2.2.2.2.2.2.2.2.2.2.2.2.2.2.2.1]
  simp +decide only [cR, cH, mm_fixA, mm_fixM, mm_fixO, cS hn hL, hw, ↓reduceIte]
  refine hr _ ?_
  simp +decide only [cR, cH, mm_fixM, mm_fixO, c107, h0, hk, mM_213.2.2.2.2.2.2.2.2.2.2.2.2.2.2.2.2.2.2.2.2.2.2.2.2.2.2.2.2.2.2.2.2.2.2.2.2.2.2.2.2.2.2.2.2.2.2.2.2.2.2.2.2.2.2.2.2.2.2.2.2.2.2.2.2.2.2.2.2.2.2.2.2.2.2.2.2.2.2.2.2.2.2.1, mM_213.2.2.2.2.2.2.2.2.2.2.2.2.2.2.2.2.2.2.2.2.2.2.2.2.2.2.2.2.2.2.2.2.2.2.2.2.2.2.2.2.2.2.2.2.2.2.2.2.2.2.2.2.2.2.2.2.2.2.2.2.2.2.2.2.2.2.2.2.2.2.2.2.2.2.2.2.2.2.2.2.2.2.2.1, ↓reduceIte]
  exact hK
theorem lwa35 {A : Int32} {J1 J2 : Nat → Nat → Int32} (hc : ∀ Q, mm_C (mm_entry 92 [.ref 0] (hp sc I o t)) Q ↔ Q (.inl (some (.int A))) (hp sc J1 o t)) (hr : ∀ Q : mm_Q, Q (.inl (some (.int A))) (hp sc J2 o t) → mm_C (mm_entry 180 [.ref 206] (hp sc J1 o t)) Q) (hK : mm_C (213, mm_blk 213 103, [some (.float 0), some (.ref 0), some (.ref 206), some (.ref 214), some (.int (nI n)), x5, x6], [], (hp sc J2 o t)) Q) : mm_C (213, mm_blk 213 83, [some (.float 0), some (.ref 0), some (.ref 206), some (.ref 214), some (.int (nI n)), x5, x6], [], (hp sc I o t)) Q := by
  rw [mM_213.2.2.2.2.2.2.2.2.2.2.2.2.2.2.2.2.2.2.2.2.2.2.2.2.2.2.2.2.2.2.2.2.2.2.2.2.2.2.2.2.2.2.2.2.2.2.2.2.2.2.2.2.2.2.2.2.2.2.2.2.2.2.2.2.2.2.2.2.2.2.2.2.2.2.2.2.2.2.2.2.2.2.2.2.1]
  simp +decide only [cR, cH, mm_fixA, mm_fixM, hc, ↓reduceIte]
  refine hr _ ?_
  simp +decide only [cR, eq_self, ↓reduceIte]
  exact hK
theorem lwo36 (hL : sc.1 ≤ 2048) (hn : n + 3 < sc.1) {A : Int32} {J1 J2 : Nat → Nat → Int32} (hw : ∀ Q, mm_C (mm_entry 207 [.ref 0, .int (sc.2 (n + 1)), .ref 214] (hp sc I o t)) Q ↔ Q (.inl (some (.int 0))) (hp sc J1 A.toInt64 t)) (hr : ∀ Q : mm_Q, Q (.inl (some (.int A))) (hp sc J2 A.toInt64 t) → mm_C (mm_entry 182 [.ref 206, .int (sc.2 (n + 1))] (hp sc J1 A.toInt64 t)) Q) (h0 : J2 206 0 = 0) (hK : mm_C (213, mm_blk 213 103, [some (.float 0), some (.ref 0), some (.ref 206), some (.ref 214), some (.int (nI n)), some (.int 0), some (.int A)], [], (hp sc J2 A.toInt64 t)) Q) : mm_C (213, mm_blk 213 84, [some (.float 0), some (.ref 0), some (.ref 206), some (.ref 214), some (.int (nI n)), x5, x6], [], (hp sc I o t)) Q := by
  rw [mM_213.2.2.2.2.2.2.2.2.2.2.2.2.2.2.2.2.2.2.2.2.2.2.2.2.2.2.2.2.2.2.2.2.2.2.2.2.2.2.2.2.2.2.2.2.2.2.2.2.2.2.2.2.2.2.2.2.2.2.2.2.2.2.2.2.2.2.2.2.2.2.2.2.2.2.2.2.2.2.2.2.2.2.2.2.2.1]
  simp +decide only [cR, cH, mm_fixA, mm_fixM, mm_fixO, cS hn hL, hw, ↓reduceIte]
  refine hr _ ?_
  simp +decide only [cR, cH, mm_fixM, mm_fixO, c107, h0, mM_213.2.2.2.2.2.2.2.2.2.2.2.2.2.2.2.2.2.2.2.2.2.2.2.2.2.2.2.2.2.2.2.2.2.2.2.2.2.2.2.2.2.2.2.2.2.2.2.2.2.2.2.2.2.2.2.2.2.2.2.2.2.2.2.2.2.2.2.2.2.2.2.2.2.2.2.2.2.2.2.2.2.2.2.2.2.2.1, mM_213.2.2.2.2.2.2.2.2.2.2.2.2.2.2.2.2.2.2.2.2.2.2.2.2.2.2.2.2.2.2.2.2.2.2.2.2.2.2.2.2.2.2.2.2.2.2.2.2.2.2.2.2.2.2.2.2.2.2.2.2.2.2.2.2.2.2.2.2.2.2.2.2.2.2.2.2.2.2.2.2.2.2.2.2.2.2.2.1, cLc, ↓reduceIte]
  exact hK
theorem lwt36 (hL : sc.1 ≤ 2048) (hn : n + 3 < sc.1) {k A : Int32} {J2 : Nat → Nat → Int32} (hk : ¬ k = 0) (hw : ∀ Q, mm_C (mm_entry 207 [.ref 0, .int (sc.2 (n + 1)), .ref 214] (hp sc I o t)) Q ↔ Q (.inl (some (.int k))) (hp sc I o (t + 1))) (hr : ∀ Q : mm_Q, Q (.inl (some (.int A))) (hp sc J2 o (t + 1)) → mm_C (mm_entry 182 [.ref 206, .int (sc.2 (n + 1))] (hp sc I o (t + 1))) Q) (h0 : J2 206 0 = k) (hK : mm_C (213, mm_blk 213 103, [some (.float 0), some (.ref 0), some (.ref 206), some (.ref 214), some (.int (nI n)), some (.int k), some (.int A)], [], (hp sc J2 o (t + 1))) Q) : mm_C (213, mm_blk 213 84, [some (.float 0), some (.ref 0), some (.ref 206), some (.ref 214), some (.int (nI n)), x5, x6], [], (hp sc I o t)) Q := by
  rw [mM_213.2.2.2.2.2.2.2.2.2.2.2.2.2.2.2.2.2.2.2.2.2.2.2.2.2.2.2.2.2.2.2.2.2.2.2.2.2.2.2.2.2.2.2.2.2.2.2.2.2.2.2.2.2.2.2.2.2.2.2.2.2.2.2.2.2.2.2.2.2.2.2.2.2.2.2.2.2.2.2.2.2.2.2.2.2.1]
  simp +decide only [cR, cH, mm_fixA, mm_fixM, mm_fixO, cS hn hL, hw, ↓reduceIte]
  refine hr _ ?_
  simp +decide only [cR, cH, mm_fixM, mm_fixO, c107, h0, hk, mM_213.2.2.2.2.2.2.2.2.2.2.2.2.2.2.2.2.2.2.2.2.2.2.2.2.2.2.2.2.2.2.2.2.2.2.2.2.2.2.2.2.2.2.2.2.2.2.2.2.2.2.2.2.2.2.2.2.2.2.2.2.2.2.2.2.2.2.2.2.2.2.2.2.2.2.2.2.2.2.2.2.2.2.2.2.2.2.1, mM_213.2.2.2.2.2.2.2.2.2.2.2.2.2.2.2.2.2.2.2.2.2.2.2.2.2.2.2.2.2.2.2.2.2.2.2.2.2.2.2.2.2.2.2.2.2.2.2.2.2.2.2.2.2.2.2.2.2.2.2.2.2.2.2.2.2.2.2.2.2.2.2.2.2.2.2.2.2.2.2.2.2.2.2.2.2.2.2.1, ↓reduceIte]
  exact hK
theorem lwo37 (hL : sc.1 ≤ 2048) (hn : n + 3 < sc.1) {A : Int32} {J1 J2 : Nat → Nat → Int32} (hw : ∀ Q, mm_C (mm_entry 208 [.ref 0, .int (sc.2 (n + 1)), .ref 214] (hp sc I o t)) Q ↔ Q (.inl (some (.int 0))) (hp sc J1 A.toInt64 t)) (hr : ∀ Q : mm_Q, Q (.inl (some (.int A))) (hp sc J2 A.toInt64 t) → mm_C (mm_entry 183 [.ref 206, .int (sc.2 (n + 1))] (hp sc J1 A.toInt64 t)) Q) (h0 : J2 206 0 = 0) (hK : mm_C (213, mm_blk 213 103, [some (.float 0), some (.ref 0), some (.ref 206), some (.ref 214), some (.int (nI n)), some (.int 0), some (.int A)], [], (hp sc J2 A.toInt64 t)) Q) : mm_C (213, mm_blk 213 87, [some (.float 0), some (.ref 0), some (.ref 206), some (.ref 214), some (.int (nI n)), x5, x6], [], (hp sc I o t)) Q := by
  rw [mM_213.2.2.2.2.2.2.2.2.2.2.2.2.2.2.2.2.2.2.2.2.2.2.2.2.2.2.2.2.2.2.2.2.2.2.2.2.2.2.2.2.2.2.2.2.2.2.2.2.2.2.2.2.2.2.2.2.2.2.2.2.2.2.2.2.2.2.2.2.2.2.2.2.2.2.2.2.2.2.2.2.2.2.2.2.2.2.2.2.1]
  simp +decide only [cR, cH, mm_fixA, mm_fixM, mm_fixO, cS hn hL, hw, ↓reduceIte]
  refine hr _ ?_
  simp +decide only [cR, cH, mm_fixM, mm_fixO, c107, h0, mM_213.2.2.2.2.2.2.2.2.2.2.2.2.2.2.2.2.2.2.2.2.2.2.2.2.2.2.2.2.2.2.2.2.2.2.2.2.2.2.2.2.2.2.2.2.2.2.2.2.2.2.2.2.2.2.2.2.2.2.2.2.2.2.2.2.2.2.2.2.2.2.2.2.2.2.2.2.2.2.2.2.2.2.2.2.2.2.2.2.2.1, mM_213.2.2.2.2.2.2.2.2.2.2.2.2.2.2.2.2.2.2.2.2.2.2.2.2.2.2.2.2.2.2.2.2.2.2.2.2.2.2.2.2.2.2.2.2.2.2.2.2.2.2.2.2.2.2.2.2.2.2.2.2.2.2.2.2.2.2.2.2.2.2.2.2.2.2.2.2.2.2.2.2.2.2.2.2.2.2.2.2.2.2.1, cLc, ↓reduceIte]
  exact hK
theorem lwt37 (hL : sc.1 ≤ 2048) (hn : n + 3 < sc.1) {k A : Int32} {J2 : Nat → Nat → Int32} (hk : ¬ k = 0) (hw : ∀ Q, mm_C (mm_entry 208 [.ref 0, .int (sc.2 (n + 1)), .ref 214] (hp sc I o t)) Q ↔ Q (.inl (some (.int k))) (hp sc I o (t + 1))) (hr : ∀ Q : mm_Q, Q (.inl (some (.int A))) (hp sc J2 o (t + 1)) → mm_C (mm_entry 183 [.ref 206, .int (sc.2 (n + 1))] (hp sc I o (t + 1))) Q) (h0 : J2 206 0 = k) (hK : mm_C (213, mm_blk 213 103, [some (.float 0), some (.ref 0), some (.ref 206), some (.ref 214), some (.int (nI n)), some (.int k), some (.int A)], [], (hp sc J2 o (t + 1))) Q) : mm_C (213, mm_blk 213 87, [some (.float 0), some (.ref 0), some (.ref 206), some (.ref 214), some (.int (nI n)), x5, x6], [], (hp sc I o t)) Q := by
  rw [mM_213.2.2.2.2.2.2.2.2.2.2.2.2.2.2.2.2.2.2.2.2.2.2.2.2.2.2.2.2.2.2.2.2.2.2.2.2.2.2.2.2.2.2.2.2.2.2.2.2.2.2.2.2.2.2.2.2.2.2.2.2.2.2.2.2.2.2.2.2.2.2.2.2.2.2.2.2.2.2.2.2.2.2.2.2.2.2.2.2.1]
  simp +decide only [cR, cH, mm_fixA, mm_fixM, mm_fixO, cS hn hL, hw, ↓reduceIte]
  refine hr _ ?_
  simp +decide only [cR, cH, mm_fixM, mm_fixO, c107, h0, hk, mM_213.2.2.2.2.2.2.2.2.2.2.2.2.2.2.2.2.2.2.2.2.2.2.2.2.2.2.2.2.2.2.2.2.2.2.2.2.2.2.2.2.2.2.2.2.2.2.2.2.2.2.2.2.2.2.2.2.2.2.2.2.2.2.2.2.2.2.2.2.2.2.2.2.2.2.2.2.2.2.2.2.2.2.2.2.2.2.2.2.2.1, mM_213.2.2.2.2.2.2.2.2.2.2.2.2.2.2.2.2.2.2.2.2.2.2.2.2.2.2.2.2.2.2.2.2.2.2.2.2.2.2.2.2.2.2.2.2.2.2.2.2.2.2.2.2.2.2.2.2.2.2.2.2.2.2.2.2.2.2.2.2.2.2.2.2.2.2.2.2.2.2.2.2.2.2.2.2.2.2.2.2.2.2.1, ↓reduceIte]
  exact hK
theorem lwo38 (hL : sc.1 ≤ 2048) (hn : n + 3 < sc.1) {A : Int32} {J1 J2 : Nat → Nat → Int32} (hw : ∀ Q, mm_C (mm_entry 209 [.ref 0, .int (sc.2 (n + 1)), .ref 214] (hp sc I o t)) Q ↔ Q (.inl (some (.int 0))) (hp sc J1 A.toInt64 t)) (hr : ∀ Q : mm_Q, Q (.inl (some (.int A))) (hp sc J2 A.toInt64 t) → mm_C (mm_entry 184 [.ref 206, .int (sc.2 (n + 1))] (hp sc J1 A.toInt64 t)) Q) (h0 : J2 206 0 = 0) (hK : mm_C (213, mm_blk 213 103, [some (.float 0), some (.ref 0), some (.ref 206), some (.ref 214), some (.int (nI n)), some (.int 0), some (.int A)], [], (hp sc J2 A.toInt64 t)) Q) : mm_C (213, mm_blk 213 90, [some (.float 0), some (.ref 0), some (.ref 206), some (.ref 214), some (.int (nI n)), x5, x6], [], (hp sc I o t)) Q := by
  rw [mM_213.2.2.2.2.2.2.2.2.2.2.2.2.2.2.2.2.2.2.2.2.2.2.2.2.2.2.2.2.2.2.2.2.2.2.2.2.2.2.2.2.2.2.2.2.2.2.2.2.2.2.2.2.2.2.2.2.2.2.2.2.2.2.2.2.2.2.2.2.2.2.2.2.2.2.2.2.2.2.2.2.2.2.2.2.2.2.2.2.2.2.2.1]
  simp +decide only [cR, cH, mm_fixA, mm_fixM, mm_fixO, cS hn hL, hw, ↓reduceIte]
  refine hr _ ?_
  simp +decide only [cR, cH, mm_fixM, mm_fixO, c107, h0, mM_213.2.2.2.2.2.2.2.2.2.2.2.2.2.2.2.2.2.2.2.2.2.2.2.2.2.2.2.2.2.2.2.2.2.2.2.2.2.2.2.2.2.2.2.2.2.2.2.2.2.2.2.2.2.2.2.2.2.2.2.2.2.2.2.2.2.2.2.2.2.2.2.2.2.2.2.2.2.2.2.2.2.2.2.2.2.2.2.2.2.2.2.2.1, mM_213.2.2.2.2.2.2.2.2.2.2.2.2.2.2.2.2.2.2.2.2.2.2.2.2.2.2.2.2.2.2.2.2.2.2.2.2.2.2.2.2.2.2.2.2.2.2.2.2.2.2.2.2.2.2.2.2.2.2.2.2.2.2.2.2.2.2.2.2.2.2.2.2.2.2.2.2.2.2.2.2.2.2.2.2.2.2.2.2.2.2.2.2.2.1, cLc, ↓reduceIte]
  exact hK
theorem lwt38 (hL : sc.1 ≤ 2048) (hn : n + 3 < sc.1) {k A : Int32} {J2 : Nat → Nat → Int32} (hk : ¬ k = 0) (hw : ∀ Q, mm_C (mm_entry 209 [.ref 0, .int (sc.2 (n + 1)), .ref 214] (hp sc I o t)) Q ↔ Q (.inl (some (.int k))) (hp sc I o (t + 1))) (hr : ∀ Q : mm_Q, Q (.inl (some (.int A))) (hp sc J2 o (t + 1)) → mm_C (mm_entry 184 [.ref 206, .int (sc.2 (n + 1))] (hp sc I o (t + 1))) Q) (h0 : J2 206 0 = k) (hK : mm_C (213, mm_blk 213 103, [some (.float 0), some (.ref 0), some (.ref 206), some (.ref 214), some (.int (nI n)), some (.int k), some (.int A)], [], (hp sc J2 o (t + 1))) Q) : mm_C (213, mm_blk 213 90, [some (.float 0), some (.ref 0), some (.ref 206), some (.ref 214), some (.int (nI n)), x5, x6], [], (hp sc I o t)) Q := by
  rw [mM_213.2.2.2.2.2.2.2.2.2.2.2.2.2.2.2.2.2.2.2.2.2.2.2.2.2.2.2.2.2.2.2.2.2.2.2.2.2.2.2.2.2.2.2.2.2.2.2.2.2.2.2.2.2.2.2.2.2.2.2.2.2.2.2.2.2.2.2.2.2.2.2.2.2.2.2.2.2.2.2.2.2.2.2.2.2.2.2.2.2.2.2.1]
  simp +decide only [cR, cH, mm_fixA, mm_fixM, mm_fixO, cS hn hL, hw, ↓reduceIte]
  refine hr _ ?_
  simp +decide only [cR, cH, mm_fixM, mm_fixO, c107, h0, hk, mM_213.2.2.2.2.2.2.2.2.2.2.2.2.2.2.2.2.2.2.2.2.2.2.2.2.2.2.2.2.2.2.2.2.2.2.2.2.2.2.2.2.2.2.2.2.2.2.2.2.2.2.2.2.2.2.2.2.2.2.2.2.2.2.2.2.2.2.2.2.2.2.2.2.2.2.2.2.2.2.2.2.2.2.2.2.2.2.2.2.2.2.2.2.1, mM_213.2.2.2.2.2.2.2.2.2.2.2.2.2.2.2.2.2.2.2.2.2.2.2.2.2.2.2.2.2.2.2.2.2.2.2.2.2.2.2.2.2.2.2.2.2.2.2.2.2.2.2.2.2.2.2.2.2.2.2.2.2.2.2.2.2.2.2.2.2.2.2.2.2.2.2.2.2.2.2.2.2.2.2.2.2.2.2.2.2.2.2.2.2.1, ↓reduceIte]
  exact hK
theorem lwa39 {A : Int32} {J1 J2 : Nat → Nat → Int32} (hc : ∀ Q, mm_C (mm_entry 96 [.ref 0] (hp sc I o t)) Q ↔ Q (.inl (some (.int A))) (hp sc J1 o t)) (hr : ∀ Q : mm_Q, Q (.inl (some (.int A))) (hp sc J2 o t) → mm_C (mm_entry 185 [.ref 206] (hp sc J1 o t)) Q) (hK : mm_C (213, mm_blk 213 103, [some (.float 0), some (.ref 0), some (.ref 206), some (.ref 214), some (.int (nI n)), x5, x6], [], (hp sc J2 o t)) Q) : mm_C (213, mm_blk 213 93, [some (.float 0), some (.ref 0), some (.ref 206), some (.ref 214), some (.int (nI n)), x5, x6], [], (hp sc I o t)) Q := by
  rw [mM_213.2.2.2.2.2.2.2.2.2.2.2.2.2.2.2.2.2.2.2.2.2.2.2.2.2.2.2.2.2.2.2.2.2.2.2.2.2.2.2.2.2.2.2.2.2.2.2.2.2.2.2.2.2.2.2.2.2.2.2.2.2.2.2.2.2.2.2.2.2.2.2.2.2.2.2.2.2.2.2.2.2.2.2.2.2.2.2.2.2.2.2.2.2.2.1]
  simp +decide only [cR, cH, mm_fixA, mm_fixM, hc, ↓reduceIte]
  refine hr _ ?_
  simp +decide only [cR, eq_self, ↓reduceIte]
  exact hK
theorem lwo41 (hL : sc.1 ≤ 2048) (hn : n + 3 < sc.1) {A : Int32} {J1 J2 : Nat → Nat → Int32} (hw : ∀ Q, mm_C (mm_entry 211 [.ref 0, .int (sc.2 (n + 1)), .ref 214] (hp sc I o t)) Q ↔ Q (.inl (some (.int 0))) (hp sc J1 A.toInt64 t)) (hr : ∀ Q : mm_Q, Q (.inl (some (.int A))) (hp sc J2 A.toInt64 t) → mm_C (mm_entry 188 [.ref 206, .int (sc.2 (n + 1))] (hp sc J1 A.toInt64 t)) Q) (h0 : J2 206 0 = 0) (hK : mm_C (213, mm_blk 213 103, [some (.float 0), some (.ref 0), some (.ref 206), some (.ref 214), some (.int (nI n)), some (.int 0), some (.int A)], [], (hp sc J2 A.toInt64 t)) Q) : mm_C (213, mm_blk 213 97, [some (.float 0), some (.ref 0), some (.ref 206), some (.ref 214), some (.int (nI n)), x5, x6], [], (hp sc I o t)) Q := by
  rw [mM_213.2.2.2.2.2.2.2.2.2.2.2.2.2.2.2.2.2.2.2.2.2.2.2.2.2.2.2.2.2.2.2.2.2.2.2.2.2.2.2.2.2.2.2.2.2.2.2.2.2.2.2.2.2.2.2.2.2.2.2.2.2.2.2.2.2.2.2.2.2.2.2.2.2.2.2.2.2.2.2.2.2.2.2.2.2.2.2.2.2.2.2.2.2.2.2.2.2.2.1]
  simp +decide only [cR, cH, mm_fixA, mm_fixM, mm_fixO, cS hn hL, hw, ↓reduceIte]
  refine hr _ ?_
  simp +decide only [cR, cH, mm_fixM, mm_fixO, c107, h0, mM_213.2.2.2.2.2.2.2.2.2.2.2.2.2.2.2.2.2.2.2.2.2.2.2.2.2.2.2.2.2.2.2.2.2.2.2.2.2.2.2.2.2.2.2.2.2.2.2.2.2.2.2.2.2.2.2.2.2.2.2.2.2.2.2.2.2.2.2.2.2.2.2.2.2.2.2.2.2.2.2.2.2.2.2.2.2.2.2.2.2.2.2.2.2.2.2.2.2.2.2.1, mM_213.2.2.2.2.2.2.2.2.2.2.2.2.2.2.2.2.2.2.2.2.2.2.2.2.2.2.2.2.2.2.2.2.2.2.2.2.2.2.2.2.2.2.2.2.2.2.2.2.2.2.2.2.2.2.2.2.2.2.2.2.2.2.2.2.2.2.2.2.2.2.2.2.2.2.2.2.2.2.2.2.2.2.2.2.2.2.2.2.2.2.2.2.2.2.2.2.2.2.2.2.1, cLc, ↓reduceIte]
  exact hK
theorem lwt41 (hL : sc.1 ≤ 2048) (hn : n + 3 < sc.1) {k A : Int32} {J2 : Nat → Nat → Int32} (hk : ¬ k = 0) (hw : ∀ Q, mm_C (mm_entry 211 [.ref 0, .int (sc.2 (n + 1)), .ref 214] (hp sc I o t)) Q ↔ Q (.inl (some (.int k))) (hp sc I o (t + 1))) (hr : ∀ Q : mm_Q, Q (.inl (some (.int A))) (hp sc J2 o (t + 1)) → mm_C (mm_entry 188 [.ref 206, .int (sc.2 (n + 1))] (hp sc I o (t + 1))) Q) (h0 : J2 206 0 = k) (hK : mm_C (213, mm_blk 213 103, [some (.float 0), some (.ref 0), some (.ref 206), some (.ref 214), some (.int (nI n)), some (.int k), some (.int A)], [], (hp sc J2 o (t + 1))) Q) : mm_C (213, mm_blk 213 97, [some (.float 0), some (.ref 0), some (.ref 206), some (.ref 214), some (.int (nI n)), x5, x6], [], (hp sc I o t)) Q := by
  rw [mM_213.2.2.2.2.2.2.2.2.2.2.2.2.2.2.2.2.2.2.2.2.2.2.2.2.2.2.2.2.2.2.2.2.2.2.2.2.2.2.2.2.2.2.2.2.2.2.2.2.2.2.2.2.2.2.2.2.2.2.2.2.2.2.2.2.2.2.2.2.2.2.2.2.2.2.2.2.2.2.2.2.2.2.2.2.2.2.2.2.2.2.2.2.2.2.2.2.2.2.1]
  simp +decide only [cR, cH, mm_fixA, mm_fixM, mm_fixO, cS hn hL, hw, ↓reduceIte]
  refine hr _ ?_
  simp +decide only [cR, cH, mm_fixM, mm_fixO, c107, h0, hk, mM_213.2.2.2.2.2.2.2.2.2.2.2.2.2.2.2.2.2.2.2.2.2.2.2.2.2.2.2.2.2.2.2.2.2.2.2.2.2.2.2.2.2.2.2.2.2.2.2.2.2.2.2.2.2.2.2.2.2.2.2.2.2.2.2.2.2.2.2.2.2.2.2.2.2.2.2.2.2.2.2.2.2.2.2.2.2.2.2.2.2.2.2.2.2.2.2.2.2.2.2.1, mM_213.2.2.2.2.2.2.2.2.2.2.2.2.2.2.2.2.2.2.2.2.2.2.2.2.2.2.2.2.2.2.2.2.2.2.2.2.2.2.2.2.2.2.2.2.2.2.2.2.2.2.2.2.2.2.2.2.2.2.2.2.2.2.2.2.2.2.2.2.2.2.2.2.2.2.2.2.2.2.2.2.2.2.2.2.2.2.2.2.2.2.2.2.2.2.2.2.2.2.2.2.1, ↓reduceIte]
  exact hK
theorem lwo42 (hL : sc.1 ≤ 2048) (hn : n + 3 < sc.1) {A : Int32} {J1 J2 : Nat → Nat → Int32} (hw : ∀ Q, mm_C (mm_entry 212 [.ref 0, .int (sc.2 (n + 1)), .ref 214] (hp sc I o t)) Q ↔ Q (.inl (some (.int 0))) (hp sc J1 A.toInt64 t)) (hr : ∀ Q : mm_Q, Q (.inl (some (.int A))) (hp sc J2 A.toInt64 t) → mm_C (mm_entry 189 [.ref 206, .int (sc.2 (n + 1))] (hp sc J1 A.toInt64 t)) Q) (h0 : J2 206 0 = 0) (hK : mm_C (213, mm_blk 213 103, [some (.float 0), some (.ref 0), some (.ref 206), some (.ref 214), some (.int (nI n)), some (.int 0), some (.int A)], [], (hp sc J2 A.toInt64 t)) Q) : mm_C (213, mm_blk 213 100, [some (.float 0), some (.ref 0), some (.ref 206), some (.ref 214), some (.int (nI n)), x5, x6], [], (hp sc I o t)) Q := by
  rw [mM_213.2.2.2.2.2.2.2.2.2.2.2.2.2.2.2.2.2.2.2.2.2.2.2.2.2.2.2.2.2.2.2.2.2.2.2.2.2.2.2.2.2.2.2.2.2.2.2.2.2.2.2.2.2.2.2.2.2.2.2.2.2.2.2.2.2.2.2.2.2.2.2.2.2.2.2.2.2.2.2.2.2.2.2.2.2.2.2.2.2.2.2.2.2.2.2.2.2.2.2.2.2.1]
  simp +decide only [cR, cH, mm_fixA, mm_fixM, mm_fixO, cS hn hL, hw, ↓reduceIte]
  refine hr _ ?_
  simp +decide only [cR, cH, mm_fixM, mm_fixO, c107, h0, mM_213.2.2.2.2.2.2.2.2.2.2.2.2.2.2.2.2.2.2.2.2.2.2.2.2.2.2.2.2.2.2.2.2.2.2.2.2.2.2.2.2.2.2.2.2.2.2.2.2.2.2.2.2.2.2.2.2.2.2.2.2.2.2.2.2.2.2.2.2.2.2.2.2.2.2.2.2.2.2.2.2.2.2.2.2.2.2.2.2.2.2.2.2.2.2.2.2.2.2.2.2.2.2.1, mM_213.2.2.2.2.2.2.2.2.2.2.2.2.2.2.2.2.2.2.2.2.2.2.2.2.2.2.2.2.2.2.2.2.2.2.2.2.2.2.2.2.2.2.2.2.2.2.2.2.2.2.2.2.2.2.2.2.2.2.2.2.2.2.2.2.2.2.2.2.2.2.2.2.2.2.2.2.2.2.2.2.2.2.2.2.2.2.2.2.2.2.2.2.2.2.2.2.2.2.2.2.2.2.2.1, cLc, ↓reduceIte]
  exact hK
theorem lwt42 (hL : sc.1 ≤ 2048) (hn : n + 3 < sc.1) {k A : Int32} {J2 : Nat → Nat → Int32} (hk : ¬ k = 0) (hw : ∀ Q, mm_C (mm_entry 212 [.ref 0, .int (sc.2 (n + 1)), .ref 214] (hp sc I o t)) Q ↔ Q (.inl (some (.int k))) (hp sc I o (t + 1))) (hr : ∀ Q : mm_Q, Q (.inl (some (.int A))) (hp sc J2 o (t + 1)) → mm_C (mm_entry 189 [.ref 206, .int (sc.2 (n + 1))] (hp sc I o (t + 1))) Q) (h0 : J2 206 0 = k) (hK : mm_C (213, mm_blk 213 103, [some (.float 0), some (.ref 0), some (.ref 206), some (.ref 214), some (.int (nI n)), some (.int k), some (.int A)], [], (hp sc J2 o (t + 1))) Q) : mm_C (213, mm_blk 213 100, [some (.float 0), some (.ref 0), some (.ref 206), some (.ref 214), some (.int (nI n)), x5, x6], [], (hp sc I o t)) Q := by
  rw [mM_213.2.2.2.2.2.2.2.2.2.2.2.2.2.2.2.2.2.2.2.2.2.2.2.2.2.2.2.2.2.2.2.2.2.2.2.2.2.2.2.2.2.2.2.2.2.2.2.2.2.2.2.2.2.2.2.2.2.2.2.2.2.2.2.2.2.2.2.2.2.2.2.2.2.2.2.2.2.2.2.2.2.2.2.2.2.2.2.2.2.2.2.2.2.2.2.2.2.2.2.2.2.1]
  simp +decide only [cR, cH, mm_fixA, mm_fixM, mm_fixO, cS hn hL, hw, ↓reduceIte]
  refine hr _ ?_
  simp +decide only [cR, cH, mm_fixM, mm_fixO, c107, h0, hk, mM_213.2.2.2.2.2.2.2.2.2.2.2.2.2.2.2.2.2.2.2.2.2.2.2.2.2.2.2.2.2.2.2.2.2.2.2.2.2.2.2.2.2.2.2.2.2.2.2.2.2.2.2.2.2.2.2.2.2.2.2.2.2.2.2.2.2.2.2.2.2.2.2.2.2.2.2.2.2.2.2.2.2.2.2.2.2.2.2.2.2.2.2.2.2.2.2.2.2.2.2.2.2.2.1, mM_213.2.2.2.2.2.2.2.2.2.2.2.2.2.2.2.2.2.2.2.2.2.2.2.2.2.2.2.2.2.2.2.2.2.2.2.2.2.2.2.2.2.2.2.2.2.2.2.2.2.2.2.2.2.2.2.2.2.2.2.2.2.2.2.2.2.2.2.2.2.2.2.2.2.2.2.2.2.2.2.2.2.2.2.2.2.2.2.2.2.2.2.2.2.2.2.2.2.2.2.2.2.2.2.1, ↓reduceIte]
  exact hK
/-- the seed of the script -/
def sd (c3 : Nat) (sc : Nat × (Nat → Int32)) (n : Nat) : Int64 := (sc.2 (n + 1)).toInt64 <<< ((32 : Int32).toInt64 &&& 63) ||| ((sc.2 (n + 2)).toInt64 &&& Int64.ofNat c3)
theorem sd_e (c3 : Nat) (sc : Nat × (Nat → Int32)) (n : Nat) : (sc.2 (n + 1)).toInt64 <<< ((32 : Int32).toInt64 &&& 63) ||| ((sc.2 (n + 2)).toInt64 &&& Int64.ofNat c3) = sd c3 sc n := rfl
theorem lwo40 {c3 : Nat} (hb9 : mm_blk 213 94 = [(1686, 4, 0, [1, 1]), (1687, 4, 0, [0, 1]), (1688, 2, 0, [4, 0]), (1690, 1, 1, [0]), (1691, 9, 0, []), (1692, 61, 0, []), (1693, 21, 0, []), (1694, 1, 32, [1]), (1696, 20, 0, []), (1697, 4, 0, [0, 1]), (1698, 2, 0, [4, 0]), (1700, 1, 2, [0]), (1701, 9, 0, []), (1702, 61, 0, []), (1703, 21, 0, []), (1704, 71, 0, [c3, 1, 243, 1167]), (1707, 17, 0, []), (1708, 18, 0, []), (1709, 4, 0, [0, 1]), (1710, 2, 0, [4, 0]), (1712, 1, 3, [0]), (1713, 9, 0, []), (1714, 61, 0, []), (1715, 4, 0, [3, 1]), (1716, 65, 0, [210, 4, 99, 245, 769, 0]), (1719, 3, 0, [5, 0]), (1721, 4, 0, [2, 1]), (1722, 4, 0, [0, 1]), (1723, 2, 0, [4, 0]), (1725, 1, 1, [0]), (1726, 9, 0, []), (1727, 61, 0, []), (1728, 21, 0, []), (1729, 1, 32, [1]), (1731, 20, 0, []), (1732, 4, 0, [0, 1]), (1733, 2, 0, [4, 0]), (1735, 1, 2, [0]), (1736, 9, 0, []), (1737, 61, 0, []), (1738, 21, 0, []), (1739, 71, 0, [c3, 1, 243, 1167]), (1742, 17, 0, []), (1743, 18, 0, []), (1744, 4, 0, [0, 1]), (1745, 2, 0, [4, 0]), (1747, 1, 3, [0]), (1748, 9, 0, []), (1749, 61, 0, []), (1750, 66, 0, [187, 3, 6, 248, 1148, 0]), (1753, 3, 0, [6, 0]), (1755, 4, 0, [2, 1]), (1756, 66, 0, [107, 1, 6, 99, 850, 0]), (1759, 2, 0, [5, 0]), (1761, 34, 0, [95]), (1764, 1, 0, [0]), (1765, 42, 0, [])]) (hL : sc.1 ≤ 2048) (hn : n + 3 < sc.1) {A : Int32} {J1 J2 : Nat → Nat → Int32} (hw : ∀ Q, mm_C (mm_entry 210 [.ref 0, .long (sd c3 sc n), .int (sc.2 (n + 3)), .ref 214] (hp sc I o t)) Q ↔ Q (.inl (some (.int 0))) (hp sc J1 A.toInt64 t)) (hr : ∀ Q : mm_Q, Q (.inl (some (.int A))) (hp sc J2 A.toInt64 t) → mm_C (mm_entry 187 [.ref 206, .long (sd c3 sc n), .int (sc.2 (n + 3))] (hp sc J1 A.toInt64 t)) Q) (h0 : J2 206 0 = 0) (hK : mm_C (213, mm_blk 213 103, [some (.float 0), some (.ref 0), some (.ref 206), some (.ref 214), some (.int (nI n)), some (.int 0), some (.int A)], [], (hp sc J2 A.toInt64 t)) Q) : mm_C (213, mm_blk 213 94, [some (.float 0), some (.ref 0), some (.ref 206), some (.ref 214), some (.int (nI n)), x5, x6], [], (hp sc I o t)) Q := by
  rw [hb9]
  simp +decide only [cR, cH, mm_fixA, mm_fixM, mm_fixO, cS hn hL, sd_e, hw, ↓reduceIte]
  refine hr _ ?_
  simp +decide only [cR, cH, mm_fixM, mm_fixO, c107, h0, mM_213.2.2.2.2.2.2.2.2.2.2.2.2.2.2.2.2.2.2.2.2.2.2.2.2.2.2.2.2.2.2.2.2.2.2.2.2.2.2.2.2.2.2.2.2.2.2.2.2.2.2.2.2.2.2.2.2.2.2.2.2.2.2.2.2.2.2.2.2.2.2.2.2.2.2.2.2.2.2.2.2.2.2.2.2.2.2.2.2.2.2.2.2.2.2.2.2.1, mM_213.2.2.2.2.2.2.2.2.2.2.2.2.2.2.2.2.2.2.2.2.2.2.2.2.2.2.2.2.2.2.2.2.2.2.2.2.2.2.2.2.2.2.2.2.2.2.2.2.2.2.2.2.2.2.2.2.2.2.2.2.2.2.2.2.2.2.2.2.2.2.2.2.2.2.2.2.2.2.2.2.2.2.2.2.2.2.2.2.2.2.2.2.2.2.2.2.2.1, cLc, ↓reduceIte]
  exact hK
theorem lwt40 {c3 : Nat} (hb9 : mm_blk 213 94 = [(1686, 4, 0, [1, 1]), (1687, 4, 0, [0, 1]), (1688, 2, 0, [4, 0]), (1690, 1, 1, [0]), (1691, 9, 0, []), (1692, 61, 0, []), (1693, 21, 0, []), (1694, 1, 32, [1]), (1696, 20, 0, []), (1697, 4, 0, [0, 1]), (1698, 2, 0, [4, 0]), (1700, 1, 2, [0]), (1701, 9, 0, []), (1702, 61, 0, []), (1703, 21, 0, []), (1704, 71, 0, [c3, 1, 243, 1167]), (1707, 17, 0, []), (1708, 18, 0, []), (1709, 4, 0, [0, 1]), (1710, 2, 0, [4, 0]), (1712, 1, 3, [0]), (1713, 9, 0, []), (1714, 61, 0, []), (1715, 4, 0, [3, 1]), (1716, 65, 0, [210, 4, 99, 245, 769, 0]), (1719, 3, 0, [5, 0]), (1721, 4, 0, [2, 1]), (1722, 4, 0, [0, 1]), (1723, 2, 0, [4, 0]), (1725, 1, 1, [0]), (1726, 9, 0, []), (1727, 61, 0, []), (1728, 21, 0, []), (1729, 1, 32, [1]), (1731, 20, 0, []), (1732, 4, 0, [0, 1]), (1733, 2, 0, [4, 0]), (1735, 1, 2, [0]), (1736, 9, 0, []), (1737, 61, 0, []), (1738, 21, 0, []), (1739, 71, 0, [c3, 1, 243, 1167]), (1742, 17, 0, []), (1743, 18, 0, []), (1744, 4, 0, [0, 1]), (1745, 2, 0, [4, 0]), (1747, 1, 3, [0]), (1748, 9, 0, []), (1749, 61, 0, []), (1750, 66, 0, [187, 3, 6, 248, 1148, 0]), (1753, 3, 0, [6, 0]), (1755, 4, 0, [2, 1]), (1756, 66, 0, [107, 1, 6, 99, 850, 0]), (1759, 2, 0, [5, 0]), (1761, 34, 0, [95]), (1764, 1, 0, [0]), (1765, 42, 0, [])]) (hL : sc.1 ≤ 2048) (hn : n + 3 < sc.1) {k A : Int32} {J2 : Nat → Nat → Int32} (hk : ¬ k = 0) (hw : ∀ Q, mm_C (mm_entry 210 [.ref 0, .long (sd c3 sc n), .int (sc.2 (n + 3)), .ref 214] (hp sc I o t)) Q ↔ Q (.inl (some (.int k))) (hp sc I o (t + 1))) (hr : ∀ Q : mm_Q, Q (.inl (some (.int A))) (hp sc J2 o (t + 1)) → mm_C (mm_entry 187 [.ref 206, .long (sd c3 sc n), .int (sc.2 (n + 3))] (hp sc I o (t + 1))) Q) (h0 : J2 206 0 = k) (hK : mm_C (213, mm_blk 213 103, [some (.float 0), some (.ref 0), some (.ref 206), some (.ref 214), some (.int (nI n)), some (.int k), some (.int A)], [], (hp sc J2 o (t + 1))) Q) : mm_C (213, mm_blk 213 94, [some (.float 0), some (.ref 0), some (.ref 206), some (.ref 214), some (.int (nI n)), x5, x6], [], (hp sc I o t)) Q := by
  rw [hb9]
  simp +decide only [cR, cH, mm_fixA, mm_fixM, mm_fixO, cS hn hL, sd_e, hw, ↓reduceIte]
  refine hr _ ?_
  simp +decide only [cR, cH, mm_fixM, mm_fixO, c107, h0, mM_213.2.2.2.2.2.2.2.2.2.2.2.2.2.2.2.2.2.2.2.2.2.2.2.2.2.2.2.2.2.2.2.2.2.2.2.2.2.2.2.2.2.2.2.2.2.2.2.2.2.2.2.2.2.2.2.2.2.2.2.2.2.2.2.2.2.2.2.2.2.2.2.2.2.2.2.2.2.2.2.2.2.2.2.2.2.2.2.2.2.2.2.2.2.2.2.2.1, mM_213.2.2.2.2.2.2.2.2.2.2.2.2.2.2.2.2.2.2.2.2.2.2.2.2.2.2.2.2.2.2.2.2.2.2.2.2.2.2.2.2.2.2.2.2.2.2.2.2.2.2.2.2.2.2.2.2.2.2.2.2.2.2.2.2.2.2.2.2.2.2.2.2.2.2.2.2.2.2.2.2.2.2.2.2.2.2.2.2.2.2.2.2.2.2.2.2.2.1, hk, ↓reduceIte]
  exact hK
end XI
