/-! calls that must be refused -/
section XE
variable {sc : Nat × (Nat → Int32)} {I : Nat → Nat → Int32} {o : Int64} {t : Nat} {Q : mm_Q} {B nx : Nat} {A : A46} {r : Nat → Int32}
theorem e110x0 {v : Int32} (hv : ¬ (¬ v < 0 ∧ v < 6)) : mm_C (mm_entry 110 [.ref 0, .int v] (hp sc I o t)) Q ↔ Q (.inl (some (.long (mm_LC 0)))) (hp sc I o (t + 1)) :=
  w110_t0 fun Q => by rw [c61, if_neg hv]
theorem e111x0 {v : Int32} (hv : ¬ (¬ v < 0 ∧ v < 6)) : mm_C (mm_entry 111 [.ref 0, .int v] (hp sc I o t)) Q ↔ Q (.inl (some (.long (mm_LC 0)))) (hp sc I o (t + 1)) :=
  w111_t0 fun Q => by rw [c62, if_neg hv]
theorem e112x0 {v : Int32} (hv : ¬ (¬ v < 0 ∧ v < 6)) : mm_C (mm_entry 112 [.ref 0, .int v] (hp sc I o t)) Q ↔ Q (.inl (some (.long (mm_LC 0)))) (hp sc I o (t + 1)) :=
  w112_t0 fun Q => by rw [c63, if_neg hv]
theorem e113x0 {v : Int32} (hv : ¬ (¬ v < 0 ∧ v < 6)) : mm_C (mm_entry 113 [.ref 0, .int v] (hp sc I o t)) Q ↔ Q (.inl (some (.long (mm_LC 0)))) (hp sc I o (t + 1)) :=
  w113_t0 fun Q => by rw [c64, if_neg hv]
theorem e114x0 {v : Int32} (hv : ¬ (¬ v < 0 ∧ v < 60)) : mm_C (mm_entry 114 [.ref 0, .int v] (hp sc I o t)) Q ↔ Q (.inl (some (.long (mm_LC 0)))) (hp sc I o (t + 1)) :=
  w114_t0 fun Q => by rw [c69, if_neg hv]
theorem e115x0 {v : Int32} (hv : ¬ (¬ v < 0 ∧ v < 60)) : mm_C (mm_entry 115 [.ref 0, .int v] (hp sc I o t)) Q ↔ Q (.inl (some (.long (mm_LC 0)))) (hp sc I o (t + 1)) :=
  w115_t0 fun Q => by rw [c70, if_neg hv]
theorem e116x0 (h : OB B I nx A) {v w : Int32} (hv : ¬ (¬ v < 0 ∧ v < 60)) : mm_C (mm_entry 116 [.ref 0, .int v, .int w] (hp sc I o t)) Q ↔ Q (.inl (some (.long (mm_LC 0)))) (hp sc I o (t + 1)) :=
  w116_t0 fun Q => by 
    obtain ⟨j, hj, hw, hnj⟩ := pa_wrap_j h.2.1.1 h.2.1.2.2.1
    have b5 := SX_b5 h.1.1
    rw [c81 hj hw b5.1 b5.2, if_neg hv]
theorem e116x1 (h : OB B I nx A) {v w : Int32} (hv : ¬ v < 0 ∧ v < 60) (hs : ¬ (¬ w < 1 ∧ ¬ 100 < w)) : mm_C (mm_entry 116 [.ref 0, .int v, .int w] (hp sc I o t)) Q ↔ Q (.inl (some (.long (mm_LC 1)))) (hp sc I o (t + 1)) :=
  w116_t1 fun Q => by 
    obtain ⟨j, hj, hw, hnj⟩ := pa_wrap_j h.2.1.1 h.2.1.2.2.1
    have b5 := SX_b5 h.1.1
    rw [c81 hj hw b5.1 b5.2, if_pos hv, if_neg hs]
theorem e116x2 (h : OB B I nx A) {k : Nat} {w : Int32} (hk : k < 60) (hs : ¬ w < 1 ∧ ¬ 100 < w) (hd : 0 < A.1 (30 + 2 * k)) : mm_C (mm_entry 116 [.ref 0, .int (nI k), .int w] (hp sc I o t)) Q ↔ Q (.inl (some (.long (mm_LC 2)))) (hp sc I o (t + 1)) :=
  w116_t2 fun Q => by 
    obtain ⟨j, hj, hw, hnj⟩ := pa_wrap_j h.2.1.1 h.2.1.2.2.1
    have b5 := SX_b5 h.1.1
    rw [c81 hj hw b5.1 b5.2, if_pos (v_ok60 hk), if_pos hs, if_neg (show ¬ ¬ sy_dn (I 6) (nI k) = true by rw [show I 6 = I (3 + 3) from rfl, R_dn h.1.1 hk]; exact fun g => g hd)]
theorem e117x0 (h : OB B I nx A) {v : Int32} (hv : ¬ (¬ v < 0 ∧ v < 60)) : mm_C (mm_entry 117 [.ref 0, .int v] (hp sc I o t)) Q ↔ Q (.inl (some (.long (mm_LC 0)))) (hp sc I o (t + 1)) :=
  w117_t0 fun Q => by 
    obtain ⟨j, hj, hw, hnj⟩ := pa_wrap_j h.2.1.1 h.2.1.2.2.1
    have b5 := SX_b5 h.1.1
    rw [c82 hj hw b5.1 b5.2, if_neg hv]
theorem e117x2 (h : OB B I nx A) {k : Nat} (hk : k < 60) (hd : ¬ 0 < A.1 (30 + 2 * k)) : mm_C (mm_entry 117 [.ref 0, .int (nI k)] (hp sc I o t)) Q ↔ Q (.inl (some (.long (mm_LC 2)))) (hp sc I o (t + 1)) :=
  w117_t2 fun Q => by 
    obtain ⟨j, hj, hw, hnj⟩ := pa_wrap_j h.2.1.1 h.2.1.2.2.1
    have b5 := SX_b5 h.1.1
    rw [c82 hj hw b5.1 b5.2, if_pos (v_ok60 hk), if_neg (show ¬ sy_dn (I (3 + 3)) (nI k) = true by rw [R_dn h.1.1 hk]; exact hd)]
theorem e118x1 (h : OB B I nx A) {v w : Int32} (hv : ¬ ((¬ v < 1 ∧ ¬ 1000 < v) ∧ ¬ w < 1 ∧ ¬ 1000 < w)) : mm_C (mm_entry 118 [.ref 0, .int v, .int w] (hp sc I o t)) Q ↔ Q (.inl (some (.long (mm_LC 1)))) (hp sc I o (t + 1)) :=
  w118_t1 fun Q => by
    obtain ⟨j, hj, hw, hnj⟩ := pa_wrap_j h.2.1.1 h.2.1.2.2.1
    have b5 := SX_b5 h.1.1
    rw [c84 hj hw b5.1 b5.2]
    by_cases c1 : ¬ v < 1 ∧ ¬ 1000 < v
    · rw [if_pos c1, if_neg (fun g => hv ⟨c1, g⟩)]
    · rw [if_neg c1]
theorem e119x1 (h : OB B I nx A) {v w : Int32} (hv : ¬ ((¬ v < 0 ∧ ¬ 100 < v) ∧ ¬ w < 1 ∧ ¬ 1000 < w)) : mm_C (mm_entry 119 [.ref 0, .int v, .int w] (hp sc I o t)) Q ↔ Q (.inl (some (.long (mm_LC 1)))) (hp sc I o (t + 1)) :=
  w119_t1 fun Q => by
    obtain ⟨j, hj, hw, hnj⟩ := pa_wrap_j h.2.1.1 h.2.1.2.2.1
    have b5 := SX_b5 h.1.1
    rw [c85 hj hw b5.1 b5.2]
    by_cases c1 : ¬ v < 0 ∧ ¬ 100 < v
    · rw [if_pos c1, if_neg (fun g => hv ⟨c1, g⟩)]
    · rw [if_neg c1]
theorem e120x1 (h : OB B I nx A) {v : Int32} (hv : ¬ (¬ v < 0 ∧ ¬ 3 < v)) : mm_C (mm_entry 120 [.ref 0, .int v] (hp sc I o t)) Q ↔ Q (.inl (some (.long (mm_LC 1)))) (hp sc I o (t + 1)) :=
  w120_t1 fun Q => by 
    obtain ⟨j, hj, hw, hnj⟩ := pa_wrap_j h.2.1.1 h.2.1.2.2.1
    have b5 := SX_b5 h.1.1
    rw [c86 hj hw b5.1 b5.2, if_neg hv]
theorem e121x1 (h : OB B I nx A) {v : Int32} (hv : ¬ (¬ v < 1 ∧ ¬ 99 < v)) : mm_C (mm_entry 121 [.ref 0, .int v] (hp sc I o t)) Q ↔ Q (.inl (some (.long (mm_LC 1)))) (hp sc I o (t + 1)) :=
  w121_t1 fun Q => by 
    obtain ⟨j, hj, hw, hnj⟩ := pa_wrap_j h.2.1.1 h.2.1.2.2.1
    have b5 := SX_b5 h.1.1
    rw [c88 hj hw b5.1 b5.2, if_neg hv]
theorem e123x0 {v : Int32} (hv : ¬ (¬ v < 0 ∧ v < 60)) : mm_C (mm_entry 123 [.ref 0, .int v] (hp sc I o t)) Q ↔ Q (.inl (some (.long (mm_LC 0)))) (hp sc I o (t + 1)) :=
  w123_t0 fun Q => by rw [c90, if_neg hv]
theorem e124x0 {v : Int32} (hv : ¬ (¬ v < 0 ∧ v < 60)) : mm_C (mm_entry 124 [.ref 0, .int v] (hp sc I o t)) Q ↔ Q (.inl (some (.long (mm_LC 0)))) (hp sc I o (t + 1)) :=
  w124_t0 fun Q => by rw [c91, if_neg hv]
theorem e125x0 {v : Int32} (hv : ¬ (¬ v < 0 ∧ v < 6)) : mm_C (mm_entry 125 [.ref 0, .int v] (hp sc I o t)) Q ↔ Q (.inl (some (.long (mm_LC 0)))) (hp sc I o (t + 1)) :=
  w125_t0 fun Q => by rw [c93, if_neg hv]
theorem e126x0 {v : Int32} (hv : ¬ (¬ v < 0 ∧ v < 6)) : mm_C (mm_entry 126 [.ref 0, .int v] (hp sc I o t)) Q ↔ Q (.inl (some (.long (mm_LC 0)))) (hp sc I o (t + 1)) :=
  w126_t0 fun Q => by rw [c94, if_neg hv]
theorem e127x1 (h : OB B I nx A) {v : Int32} (hv : ¬ (¬ v < 1 ∧ ¬ 200 < v)) : mm_C (mm_entry 127 [.ref 0, .int v] (hp sc I o t)) Q ↔ Q (.inl (some (.long (mm_LC 1)))) (hp sc I o (t + 1)) :=
  w127_t1 fun Q => by rw [c95 (SX_b5 h.1.1).1 (SX_b5 h.1.1).2, if_neg hv]
theorem e129x0 (h : OB B I nx A) {v : Int32} (hv : ¬ (¬ v < 0 ∧ v < 2)) : mm_C (mm_entry 129 [.ref 0, .int v] (hp sc I o t)) Q ↔ Q (.inl (some (.long (mm_LC 0)))) (hp sc I o (t + 1)) :=
  w129_t0 fun Q => by rw [c99 (SX_b5 h.1.1).1 (SX_b5 h.1.1).2, if_neg hv]
theorem e130x0 (h : OB B I nx A) {v : Int32} (hv : ¬ (¬ v < 0 ∧ v < 2)) : mm_C (mm_entry 130 [.ref 0, .int v] (hp sc I o t)) Q ↔ Q (.inl (some (.long (mm_LC 0)))) (hp sc I o (t + 1)) :=
  w130_t0 fun Q => by rw [c100 (fun k hk => (h.2.2.1 k hk).2.1.1) (fun k hk => (h.2.2.1 k hk).2.1.2), if_neg hv]
theorem e132_8 {c1 c2 : Nat} (hb : HB97 c1 c2) (h : OB B I nx A) {x4 : Option Value} : mm_C (132, mm_blk 132 8, [some (.ref 0), some (.long (nowR A.1)), none, some (.int 1), x4], [], (hp sc I o t)) Q ↔ Q (.inl (some (.int 1))) (hp sc I o (t + 1 + 1 + 1 + 1)) := by
  rw [mM_132.2.2.2.2.2.2.2.2.2.1]
  simp +decide only [mM_132.2.2.2.2.2.2.2.2.2.2.2, cR, cH, mm_fixA, e131 h.1.1, e128x hb h.1.1 (v := 61) (by decide), e129x0 h (v := 2) (by decide), e130x0 h (v := -1) (by decide), e108x h.2.2.2 (v := -1) (by decide), ↓kL, kLi, kM, kN9, eq_self, ↓reduceIte]
theorem e132_n (h : OB B I nx A) (n : Nat) : n ≤ 60 → ∀ {t : Nat}, (∀ t', t ≤ t' → t' ≤ t + 2 * n → mm_C (132, mm_blk 132 8, [some (.ref 0), some (.long (nowR A.1)), none, some (.int 1), some (.int 60)], [], (hp sc I o t')) Q) → mm_C (132, mm_blk 132 3, [some (.ref 0), some (.long (nowR A.1)), none, some (.int 1), some (.int (nI (60 - n)))], [], (hp sc I o t)) Q := by
  induction n with
  | zero =>
    intro hn t hK
    have h1 := hK t (Nat.le_refl _) (by omega)
    rw [mM_132.2.2.2.2.1]
    simp +decide only [cR, cH, Nat.sub_zero, cK60, h1, ↓reduceIte]
  | succ n ih =>
    intro hn t hK
    have hk : 59 - n < 60 := by omega
    have e1 : 60 - (n + 1) = 59 - n := by omega
    have e2 : 59 - n + 1 = 60 - n := by omega
    have q1 : ¬ (50 : Int32) < 1 ∧ ¬ (100 : Int32) < 50 := by decide
    rw [mM_132.2.2.2.2.1, e1]
    by_cases hd : 0 < A.1 (30 + 2 * (59 - n))
    · have h9 := ih (by omega) (t := t + 1 + 1) (fun t' t1 t2 => hK t' (by omega) (by omega))
      have e4 : mo_how A.1 (59 - n) = 4 := if_pos hd
      simp +decide only [mM_132.2.2.2.2.2.2.2.2.1, cR, cH, mm_fixA, cK hk, e2, e114 h.1.1 hk, e116x2 h hk q1 hd, e123x h.1.1 hk hd, e124 h.1.1 hk, e4, ↓kL, kLi, kM, kN9, kLn, bJ_1, kLj, hd, h9, eq_self, ↓reduceIte]
    · have h9 := ih (by omega) (t := t + 1) (fun t' t1 t2 => hK t' (by omega) (by omega))
      simp +decide only [mM_132.2.2.2.2.2.2.1, mM_132.2.2.2.2.2.2.2.2.1, cR, cH, mm_fixA, cK hk, e2, e114 h.1.1 hk, e117x2 h hk hd, ↓kL, kLi, kM, kN9, kLn, bJ_1, hd, h9, eq_self, ↓reduceIte]
theorem e132_0 (h : OB B I nx A) : mm_C (mm_entry 132 [.ref 0] (hp sc I o t)) Q ↔ mm_C (132, mm_blk 132 3, [some (.ref 0), some (.long (nowR A.1)), none, some (.int 1), some (.int 0)], [], (hp sc I o (t + 22))) Q := by
  have e : t + 1 + 1 + 1 + 1 + 1 + 1 + 1 + 1 + 1 + 1 + 1 + 1 + 1 + 1 + 1 + 1 + 1 + 1 + 1 + 1 + 1 + 1 = t + 22 := by omega
  simp +decide only [mM_132.1, mM_132.2.2.2.1, cR, cH, mm_fixA, e131 h.1.1, e110x0 (v := 6) (by decide), e111x0 (v := -1) (by decide), e112x0 (v := 6) (by decide), e113x0 (v := -1) (by decide), e114x0 (v := 60) (by decide), e115x0 (v := -1) (by decide), e116x0 h (v := 60) (by decide), e116x1 h (v := 0) (w := 0) (by decide) (by decide), e116x1 h (v := 59) (w := 101) (by decide) (by decide), e117x0 h (v := -1) (by decide), e118x1 h (v := 1001) (w := 1) (by decide), e118x1 h (v := 1) (w := 0) (by decide), e119x1 h (v := -1) (w := 1) (by decide), e119x1 h (v := 0) (w := 1001) (by decide), e120x1 h (v := 4) (by decide), e120x1 h (v := -1) (by decide), e121x1 h (v := 0) (by decide), e123x0 (v := 60) (by decide), e124x0 (v := -1) (by decide), e125x0 (v := 6) (by decide), e126x0 (v := -1) (by decide), e127x1 h (v := 0) (by decide), ↓kL, kLi, kM, kN9, e, eq_self, ↓reduceIte]
/-- the refused calls change nothing -/
theorem DO_errors {c1 c2 : Nat} (hb : HB97 c1 c2) : DO 200 132 [] A (.int 1) A := by
  intro sc B I nx o t Q h hB hK
  refine (e132_0 h).mpr ?_
  have h9 := e132_n (sc := sc) (o := o) (Q := Q) h 60 (Nat.le_refl _) (t := t + 22)
  have e2 : nI (60 - 60) = 0 := rfl
  rw [e2] at h9
  refine h9 fun t' t1 t2 => (e132_8 hb h).mpr ?_
  exact hK _ nx _ (OB_B h (by omega)) (fun _ _ => rfl) (by omega) (by omega)
end XE
