/-! the reference: what would be, slots -/
section WL
variable {sc : Nat × (Nat → Int32)} {I : Nat → Nat → Int32} {o : Int64} {t : Nat} {Q : mm_Q}
def mo_next (r : Nat → Int32) : Int32 := if mo_free r = -1 then mo_prey r else mo_free r
theorem c177 {a : Nat} (ha : mm_isW a) (hf : mo_free (I a) = -1 → mo_pok (I a)) : mm_C (mm_entry 177 [.ref a] (hp sc I o t)) Q ↔ Q (.inl (some (.int (mo_next (I a))))) (hp sc I o t) := by
  unfold mo_next
  by_cases h : mo_free (I a) = -1
  · simp +decide only [mM_177.1, mM_177.2.1, mM_177.2.2.1, mM_177.2.2.2, cR, cH, c116 ha, c118 ha (hf h), h, ↓reduceIte]
  · simp +decide only [mM_177.1, mM_177.2.1, mM_177.2.2.1, mM_177.2.2.2, cR, cH, c116 ha, h, ↓reduceIte]
theorem c178 (hf : mo_free (I 207) = -1 → mo_pok (I 207)) {k : Int32} : mm_C (mm_entry 178 [.ref 206, .int k] (hp sc I o t)) Q ↔ if ¬ k < 0 ∧ k < 60 then (if 0 < I 207 (30 + 2 * k.toNatClampNeg) then Q (.inl (some (.int 0))) (hp sc (rf I 2) o t) else Q (.inl (some (.int (if mo_voice (I 207) k = -1 then mo_next (I 207) else mo_voice (I 207) k)))) (hp sc (rf I 0) o t)) else Q (.inl (some (.int 0))) (hp sc (rf I 1) o t) := by
  by_cases h1 : ¬ k < 0 ∧ k < 60
  · rw [if_pos h1]
    obtain ⟨j, hj, rfl⟩ := cJ (n := 60) (by omega) h1.1 h1.2
    rw [(cK hj).2.1]
    by_cases h3 : 0 < I 207 (30 + 2 * j)
    · rw [if_pos h3]
      simp +decide only [mM_178.1, mM_178.2.1, mM_178.2.2.1, mM_178.2.2.2.1, mM_178.2.2.2.2.1, mM_178.2.2.2.2.2.1, mM_178.2.2.2.2.2.2.1, mM_178.2.2.2.2.2.2.2, cR, cH, mm_fixM, mm_fixN, c113, if_pos h1, c114 w207 hj, h3, c108', ↓reduceIte]
    · rw [if_neg h3]
      have hc := fun (Q : mm_Q) => c177 (sc := sc) (o := o) (t := t) (Q := Q) (I := rf I 0) w207 (by rw [rf_n _ _ (by decide)]; exact hf)
      rw [rf_n _ _ (by decide)] at hc
      by_cases h4 : mo_voice (I 207) (nI j) = -1 <;> simp +decide only [mM_178.1, mM_178.2.1, mM_178.2.2.1, mM_178.2.2.2.1, mM_178.2.2.2.2.1, mM_178.2.2.2.2.2.1, mM_178.2.2.2.2.2.2.1, mM_178.2.2.2.2.2.2.2, cR, cH, mm_fixM, mm_fixN, c113, if_pos h1, c114 w207 hj, h3, c108', c115 w207, rf_n, hc, h4, ↓reduceIte]
  · rw [if_neg h1]
    simp +decide only [mM_178.1, mM_178.2.1, mM_178.2.2.1, mM_178.2.2.2.1, mM_178.2.2.2.2.1, mM_178.2.2.2.2.2.1, mM_178.2.2.2.2.2.2.1, mM_178.2.2.2.2.2.2.2, cR, cH, mm_fixM, mm_fixN, c113, if_neg h1, c108', ↓reduceIte]
theorem c179 (hf : mo_free (I 207) = -1 → mo_pok (I 207)) {k : Int32} : mm_C (mm_entry 179 [.ref 206, .int k] (hp sc I o t)) Q ↔ if ¬ k < 0 ∧ k < 60 then Q (.inl (some (.int (if 0 < I 207 (30 + 2 * k.toNatClampNeg) then 4 else if mo_voice (I 207) k = -1 then (if mo_free (I 207) = -1 then (if mo_prey (I 207) = -1 then 3 else 2) else 1) else 0)))) (hp sc (rf I 0) o t) else Q (.inl (some (.int 0))) (hp sc (rf I 1) o t) := by
  by_cases h1 : ¬ k < 0 ∧ k < 60
  · rw [if_pos h1]
    obtain ⟨j, hj, rfl⟩ := cJ (n := 60) (by omega) h1.1 h1.2
    rw [(cK hj).2.1]
    by_cases h3 : 0 < I 207 (30 + 2 * j)
    · simp +decide only [mM_179.1, mM_179.2.1, mM_179.2.2.1, mM_179.2.2.2.1, mM_179.2.2.2.2.1, mM_179.2.2.2.2.2.1, mM_179.2.2.2.2.2.2.1, mM_179.2.2.2.2.2.2.2, cR, cH, mm_fixM, mm_fixN, c154, if_pos h1, rf_n, c114 w207 hj, h3, ↓reduceIte]
    · by_cases h4 : mo_voice (I 207) (nI j) = -1
      · by_cases h5 : mo_free (I 207) = -1
        · have hc := fun (Q : mm_Q) => c118 (sc := sc) (o := o) (t := t) (Q := Q) (I := rf I 0) w207 (by rw [rf_n _ _ (by decide)]; exact hf h5)
          rw [rf_n _ _ (by decide)] at hc
          by_cases h6 : mo_prey (I 207) = -1 <;> simp +decide only [mM_179.1, mM_179.2.1, mM_179.2.2.1, mM_179.2.2.2.1, mM_179.2.2.2.2.1, mM_179.2.2.2.2.2.1, mM_179.2.2.2.2.2.2.1, mM_179.2.2.2.2.2.2.2, cR, cH, mm_fixM, mm_fixN, c154, if_pos h1, rf_n, c114 w207 hj, c115 w207, c116 w207, hc, h3, h4, h5, h6, ↓reduceIte]
        · simp +decide only [mM_179.1, mM_179.2.1, mM_179.2.2.1, mM_179.2.2.2.1, mM_179.2.2.2.2.1, mM_179.2.2.2.2.2.1, mM_179.2.2.2.2.2.2.1, mM_179.2.2.2.2.2.2.2, cR, cH, mm_fixM, mm_fixN, c154, if_pos h1, rf_n, c114 w207 hj, c115 w207, c116 w207, h3, h4, h5, ↓reduceIte]
      · simp +decide only [mM_179.1, mM_179.2.1, mM_179.2.2.1, mM_179.2.2.2.1, mM_179.2.2.2.2.1, mM_179.2.2.2.2.2.1, mM_179.2.2.2.2.2.2.1, mM_179.2.2.2.2.2.2.2, cR, cH, mm_fixM, mm_fixN, c154, if_pos h1, rf_n, c114 w207 hj, c115 w207, h3, h4, ↓reduceIte]
  · rw [if_neg h1]
    simp +decide only [mM_179.1, mM_179.2.1, mM_179.2.2.1, mM_179.2.2.2.1, mM_179.2.2.2.2.1, mM_179.2.2.2.2.2.1, mM_179.2.2.2.2.2.2.1, mM_179.2.2.2.2.2.2.2, cR, cH, mm_fixM, mm_fixN, c154, if_neg h1, ↓reduceIte]
theorem c180 (hf : mo_free (I 207) = -1 → mo_pok (I 207)) : mm_C (mm_entry 180 [.ref 206] (hp sc I o t)) Q ↔ Q (.inl (some (.int (if mo_free (I 207) = -1 then mo_prey (I 207) else -1)))) (hp sc (rf I 0) o t) := by
  by_cases h5 : mo_free (I 207) = -1
  · have hc := fun (Q : mm_Q) => c118 (sc := sc) (o := o) (t := t) (Q := Q) (I := rf I 0) w207 (by rw [rf_n _ _ (by decide)]; exact hf h5)
    rw [rf_n _ _ (by decide)] at hc
    simp +decide only [mM_180.1, mM_180.2.1, mM_180.2.2.1, mM_180.2.2.2, cR, cH, mm_fixM, mm_fixN, rf_def, rf_n, c116 w207, hc, h5, ↓reduceIte]
  · simp +decide only [mM_180.1, mM_180.2.1, mM_180.2.2.1, mM_180.2.2.2, cR, cH, mm_fixM, mm_fixN, rf_def, rf_n, c116 w207, h5, ↓reduceIte]
def mo_dies (r : Nat → Int32) (v : Nat) : Int32 := if r (5 * v) = 0 then 0 else if (r (5 * v + 3) + r 156 - 1) / r 156 = 0 then 1 else (r (5 * v + 3) + r 156 - 1) / r 156
theorem c181 (hd : ¬ I 207 156 = 0) {v : Nat} (hv : v < 6) : mm_C (mm_entry 181 [.ref 206, .int (nI v)] (hp sc I o t)) Q ↔ Q (.inl (some (.int (mo_dies (I 207) v)))) (hp sc I o t) := by
  unfold mo_dies
  by_cases h1 : I 207 (5 * v) = 0
  · simp +decide only [mM_181.1, mM_181.2.1, mM_181.2.2.1, mM_181.2.2.2.1, mM_181.2.2.2.2, cR, cH, mm_fixM, mm_fixN, w207.1, w207.2, cX hv, h1, ↓reduceIte]
  · by_cases h2 : (I 207 (5 * v + 3) + I 207 156 - 1) / I 207 156 = 0 <;> simp +decide only [mM_181.1, mM_181.2.1, mM_181.2.2.1, mM_181.2.2.2.1, mM_181.2.2.2.2, cR, cH, mm_fixM, mm_fixN, w207.1, w207.2, cX hv, cQ, hd, h1, h2, not_false_eq_true, ↓reduceIte]
theorem c182 (hd : ¬ I 207 156 = 0) {v : Int32} : mm_C (mm_entry 182 [.ref 206, .int v] (hp sc I o t)) Q ↔ if ¬ v < 0 ∧ v < 6 then Q (.inl (some (.int (mo_dies (I 207) v.toNatClampNeg)))) (hp sc (rf I 0) o t) else Q (.inl (some (.int 0))) (hp sc (rf I 1) o t) := by
  by_cases h1 : ¬ v < 0 ∧ v < 6
  · rw [if_pos h1]
    obtain ⟨j, hj, rfl⟩ := cJ (n := 6) (by omega) h1.1 h1.2
    have hc := fun (Q : mm_Q) => c181 (sc := sc) (o := o) (t := t) (Q := Q) (I := rf I 0) (by rw [rf_n _ _ (by decide)]; exact hd) hj
    rw [rf_n _ _ (by decide)] at hc
    simp +decide only [mM_182.1, mM_182.2.1, mM_182.2.2.1, mM_182.2.2.2, cR, cH, mm_fixM, mm_fixN, c145, if_pos h1, cV hj, hc, ↓reduceIte]
  · rw [if_neg h1]
    simp +decide only [mM_182.1, mM_182.2.1, mM_182.2.2.1, mM_182.2.2.2, cR, cH, mm_fixM, mm_fixN, c145, if_neg h1, ↓reduceIte]
theorem c183 (hd : ¬ I 207 156 = 0) {v : Int32} : mm_C (mm_entry 183 [.ref 206, .int v] (hp sc I o t)) Q ↔ if ¬ v < 0 ∧ v < 6 then Q (.inl (some (.int (mo_dies (I 207) v.toNatClampNeg)))) (hp sc (rf I 0) o t) else Q (.inl (some (.int 0))) (hp sc (rf I 1) o t) := by
  by_cases h1 : ¬ v < 0 ∧ v < 6
  · rw [if_pos h1]
    obtain ⟨j, hj, rfl⟩ := cJ (n := 6) (by omega) h1.1 h1.2
    have hc := fun (Q : mm_Q) => c181 (sc := sc) (o := o) (t := t) (Q := Q) (I := rf I 0) (by rw [rf_n _ _ (by decide)]; exact hd) hj
    rw [rf_n _ _ (by decide)] at hc
    simp +decide only [mM_183.1, mM_183.2.1, mM_183.2.2.1, mM_183.2.2.2, cR, cH, mm_fixM, mm_fixN, c145, if_pos h1, cV hj, hc, ↓reduceIte]
  · rw [if_neg h1]
    simp +decide only [mM_183.1, mM_183.2.1, mM_183.2.2.1, mM_183.2.2.2, cR, cH, mm_fixM, mm_fixN, c145, if_neg h1, ↓reduceIte]
noncomputable def mo_look : Nat → (Nat → Int32) → Int32 → Int32 × (Nat → Int32)
  | 0, r, c => (c, r)
  | n + 1, r, c => mo_look n (mo_tick r).2 (sv_max c (mo_loud (mo_tick r).2))
theorem c184_n {m : Nat} (hm : m ≤ 200) (n : Nat) : ∀ (hn : n ≤ m) {r : Nat → Int32} {c : Int32} {x4 : Option Value}, mm_C (184, mm_blk 184 4, [some (.ref 206), some (.int (nI m)), some (.int c), some (.int (nI (m - n))), x4], [], (hp sc (mm_up I 208 r) o t)) Q ↔ Q (.inl (some (.int (mo_look n r c).1))) (hp sc (mm_up I 208 (mo_look n r c).2) o t) := by
  induction n with
  | zero =>
    intro hn r c x4
    rw [mM_184.2.2.2.2.2.1]
    simp +decide only [mM_184.1, mM_184.2.1, mM_184.2.2.1, mM_184.2.2.2.1, mM_184.2.2.2.2.1, mM_184.2.2.2.2.2.2.1, mM_184.2.2.2.2.2.2.2.1, mM_184.2.2.2.2.2.2.2.2, cR, cH, Nat.sub_zero, cM0, mo_look, ↓reduceIte]
  | succ n ih =>
    intro hn r c x4
    have hk : m - (n + 1) < m := by omega
    have e2 : m - (n + 1) + 1 = m - n := by omega
    have ih1 := fun (w c : Int32) => ih (by omega) (r := (mo_tick r).2) (c := c) (x4 := some (.int w))
    rw [mM_184.2.2.2.2.2.1]
    by_cases h : c < mo_loud (mo_tick r).2 <;> simp +decide only [mM_184.1, mM_184.2.1, mM_184.2.2.1, mM_184.2.2.2.1, mM_184.2.2.2.2.1, mM_184.2.2.2.2.2.2.1, mM_184.2.2.2.2.2.2.2.1, mM_184.2.2.2.2.2.2.2.2, cR, cH, mm_fixM, mm_fixN, cM2 hk (show m ≤ 1000 by omega), e2, c127 w208, c129 w208, ih1, mo_look, sv_max, h, mm_up_s, mm_up_up, ↓reduceIte]
theorem c184 {r : Int32} : mm_C (mm_entry 184 [.ref 206, .int r] (hp sc I o t)) Q ↔ if ¬ r < 1 ∧ ¬ 200 < r then Q (.inl (some (.int (mo_look r.toNatClampNeg (mo_cp (I 207) 163 (I 208)) 0).1))) (hp sc (mm_up (rf I 0) 208 (mo_look r.toNatClampNeg (mo_cp (I 207) 163 (I 208)) 0).2) o t) else Q (.inl (some (.int 0))) (hp sc (rf I 1) o t) := by
  by_cases h1 : ¬ r < 1 ∧ ¬ 200 < r
  · rw [if_pos h1]
    have e1 := Int32.le_iff_toInt_le.mp (Int32.not_lt.mp h1.1)
    have e2 := Int32.le_iff_toInt_le.mp (Int32.not_lt.mp h1.2)
    have e3 : (1 : Int32).toInt = 1 := by decide
    have e4 : (200 : Int32).toInt = 200 := by decide
    have e5 : r = nI r.toInt.toNat := Int32.toInt_inj.mp (by rw [nI_toInt (by omega)]; omega)
    have e6 : r.toNatClampNeg = r.toInt.toNat := rfl
    have hc := fun (Q : mm_Q) => c184_n (sc := sc) (o := o) (t := t) (Q := Q) (I := rf I 0) (m := r.toInt.toNat) (by omega) r.toInt.toNat (Nat.le_refl _) (r := mo_cp (I 207) 163 (I 208)) (c := 0) (x4 := none)
    rw [Nat.sub_self, ← e5, ← e6] at hc
    have e7 : nI 0 = 0 := rfl
    rw [e7] at hc
    have hd := fun (Q : mm_Q) => c111 (sc := sc) (o := o) (t := t) (Q := Q) (I := rf I 0) w207 w208 (by decide)
    rw [rf_n _ _ (show ¬ 207 = 206 by decide), rf_n _ _ (show ¬ 208 = 206 by decide)] at hd
    simp +decide only [mM_184.1, mM_184.2.1, mM_184.2.2.1, mM_184.2.2.2.1, mM_184.2.2.2.2.1, mM_184.2.2.2.2.2.2.1, mM_184.2.2.2.2.2.2.2.1, mM_184.2.2.2.2.2.2.2.2, cR, cH, mm_fixM, mm_fixN, c109, cL, if_pos h1, c108', hc, hd, ↓reduceIte]
  · rw [if_neg h1]
    simp +decide only [mM_184.1, mM_184.2.1, mM_184.2.2.1, mM_184.2.2.2.1, mM_184.2.2.2.2.1, mM_184.2.2.2.2.2.2.1, mM_184.2.2.2.2.2.2.2.1, mM_184.2.2.2.2.2.2.2.2, cR, cH, mm_fixM, mm_fixN, c109, cL, if_neg h1, c108', ↓reduceIte]
theorem c185_n (hd : ¬ I 207 156 = 0) (n : Nat) : ∀ (hn : n ≤ 6) {c : Int32}, mm_C (185, mm_blk 185 1, [some (.ref 206), some (.int c), some (.int (nI (6 - n)))], [], (hp sc I o t)) Q ↔ Q (.inl (some (.int (sy_fold (fun v c => sv_max c (mo_dies (I 207) v)) n c)))) (hp sc I o t) := by
  induction n with
  | zero =>
    intro hn c
    rw [mM_185.2.2.1]
    simp +decide only [mM_185.1, mM_185.2.1, mM_185.2.2.2.1, mM_185.2.2.2.2.1, mM_185.2.2.2.2.2, cR, cH, Nat.sub_zero, cV66, sy_fold, ↓reduceIte]
  | succ n ih =>
    intro hn c
    have hk : 5 - n < 6 := by omega
    have e1 : 6 - (n + 1) = 5 - n := by omega
    have e2 : 5 - n + 1 = 6 - n := by omega
    rw [mM_185.2.2.1, e1]
    by_cases h : c < mo_dies (I 207) (5 - n) <;> simp +decide only [mM_185.1, mM_185.2.1, mM_185.2.2.2.1, mM_185.2.2.2.2.1, mM_185.2.2.2.2.2, cR, cH, mm_fixM, mm_fixN, cV6 hk, e2, c181 hd hk, ih (by omega), sy_fold, sv_max, h, ↓reduceIte]
theorem c185 (hd : ¬ I 207 156 = 0) : mm_C (mm_entry 185 [.ref 206] (hp sc I o t)) Q ↔ Q (.inl (some (.int (sy_fold (fun v c => sv_max c (mo_dies (I 207) v)) 6 0)))) (hp sc (rf I 0) o t) := by
  have e1 := c185_n (sc := sc) (o := o) (t := t) (Q := Q) (I := rf I 0) (by rw [rf_n _ _ (by decide)]; exact hd) 6 (by omega) (c := 0)
  have e2 : nI (6 - 6) = 0 := rfl
  rw [e2, rf_n _ _ (by decide)] at e1
  simp +decide only [mM_185.1, mM_185.2.1, mM_185.2.2.2.1, mM_185.2.2.2.2.1, mM_185.2.2.2.2.2, cR, cH, mm_fixM, mm_fixN, rf_def, e1]
theorem cKs {s k : Nat} (hs : s < 2) (h : k < 163) : mm_in (163 * nI s + nI k) 326 = true ∧ (163 * nI s + nI k).toNatClampNeg = 163 * s + k := by
  have e : (163 : Int32) * nI s + nI k = nI (163 * s + k) := by
    rw [show (163 : Int32) = nI 163 from rfl, nJ_mul, nI_add]
  rw [e]
  exact ⟨nJ_in (by omega) (by omega), nI_clamp (by omega)⟩
theorem cY {s : Nat} (hs : s < 2) : mm_in (nI s) 2 = true ∧ (nI s).toNatClampNeg = s := by
  exact ⟨nJ_in (by omega) (by omega), nI_clamp (by omega)⟩
def mo_sv (I : Nat → Nat → Int32) (s : Nat) : Nat → Nat → Int32 := mm_up (mm_up I 211 (mo_ins (I 211) (I 207) (163 * s) 163)) 212 (mm_up (I 212) s 1)
theorem c188_n {s : Nat} (hs : s < 2) (n : Nat) : ∀ (hn : n ≤ 163), mm_C (188, mm_blk 188 4, [some (.ref 206), some (.int (nI s)), some (.int (nI (163 - n)))], [], (hp sc (mm_up I 211 (mo_ins (I 211) (I 207) (163 * s) (163 - n))) o t)) Q ↔ Q (.inl (some (.int (mo_use (I 207))))) (hp sc (mo_sv I s) o t) := by
  induction n with
  | zero =>
    intro hn
    rw [mM_188.2.2.2.2.2.1]
    simp +decide only [mM_188.1, mM_188.2.1, mM_188.2.2.1, mM_188.2.2.2.1, mM_188.2.2.2.2.1, mM_188.2.2.2.2.2.2, cR, cH, mm_fixM, mm_fixN, Nat.sub_zero, cR163', cY hs, cb01, c130 w207, mo_sv, mm_up_s, mm_up_n, mm_up_up, ↓reduceIte]
  | succ n ih =>
    intro hn
    have hk : 162 - n < 163 := by omega
    have e1 : 163 - (n + 1) = 162 - n := by omega
    have e2 : 162 - n + 1 = 163 - n := by omega
    have e3 := mo_ins_s (I 211) (I 207) (163 * s) (162 - n)
    have ih1 := ih (by omega)
    rw [mM_188.2.2.2.2.2.1, e1]
    simp +decide only [mM_188.1, mM_188.2.1, mM_188.2.2.1, mM_188.2.2.2.1, mM_188.2.2.2.2.1, mM_188.2.2.2.2.2.2, cR, cH, mm_fixM, mm_fixN, cR163 hk, cKs hs hk, e2, e3, ih1, mm_up_s, mm_up_n, mm_up_up, ↓reduceIte]
theorem c188 {v : Int32} : mm_C (mm_entry 188 [.ref 206, .int v] (hp sc I o t)) Q ↔ if ¬ v < 0 ∧ v < 2 then Q (.inl (some (.int (mo_use (I 207))))) (hp sc (mo_sv (rf I 0) v.toNatClampNeg) o t) else Q (.inl (some (.int 0))) (hp sc (rf I 1) o t) := by
  by_cases h1 : ¬ v < 0 ∧ v < 2
  · rw [if_pos h1]
    obtain ⟨j, hj, rfl⟩ := cJ (n := 2) (by omega) h1.1 h1.2
    have hc := fun (Q : mm_Q) => c188_n (sc := sc) (o := o) (t := t) (Q := Q) (I := rf I 0) hj 163 (Nat.le_refl _)
    have e1 : nI (163 - 163) = 0 := rfl
    rw [e1, Nat.sub_self, mo_ins_0, mm_up_self, rf_n _ _ (show ¬ 207 = 206 by decide)] at hc
    simp +decide only [mM_188.1, mM_188.2.1, mM_188.2.2.1, mM_188.2.2.2.1, mM_188.2.2.2.2.1, mM_188.2.2.2.2.2.2, cR, cH, mm_fixM, mm_fixN, c109, cL, (cLe (nI j)).2.2, h1.1, h1.2, cY hj, c108', hc, and_true, true_and, and_false, false_and, or_true, true_or, or_false, false_or, not_true_eq_false, not_false_eq_true, decide_eq_true_eq, decide_true, decide_false, Bool.not_true, Bool.not_false, Bool.and_true, Bool.true_and, Bool.and_false, Bool.false_and, Bool.false_eq_true, eq_self, ↓reduceIte]
  · rw [if_neg h1]
    by_cases h2 : v < 0
    · simp +decide only [mM_188.1, mM_188.2.1, mM_188.2.2.1, mM_188.2.2.2.1, mM_188.2.2.2.2.1, mM_188.2.2.2.2.2.2, cR, cH, mm_fixM, mm_fixN, c109, cL, (cLe v).2.2, h2, c108', and_true, true_and, and_false, false_and, or_true, true_or, or_false, false_or, not_true_eq_false, not_false_eq_true, decide_eq_true_eq, decide_true, decide_false, Bool.not_true, Bool.not_false, Bool.and_true, Bool.true_and, Bool.and_false, Bool.false_and, Bool.false_eq_true, eq_self, ↓reduceIte]
    · have h3 : ¬ v < 2 := fun h3 => h1 ⟨h2, h3⟩
      simp +decide only [mM_188.1, mM_188.2.1, mM_188.2.2.1, mM_188.2.2.2.1, mM_188.2.2.2.2.1, mM_188.2.2.2.2.2.2, cR, cH, mm_fixM, mm_fixN, c109, cL, (cLe v).2.2, h2, h3, c108', and_true, true_and, and_false, false_and, or_true, true_or, or_false, false_or, not_true_eq_false, not_false_eq_true, decide_eq_true_eq, decide_true, decide_false, Bool.not_true, Bool.not_false, Bool.and_true, Bool.true_and, Bool.and_false, Bool.false_and, Bool.false_eq_true, eq_self, ↓reduceIte]
def mo_rs (I : Nat → Nat → Int32) (s : Nat) : Nat → Nat → Int32 := mm_up (mm_up I 207 (mo_out (I 207) (I 211) (163 * s) 163)) 206 (mm_up (I 206) 5 0)
theorem c189_n {s : Nat} (hs : s < 2) (n : Nat) : ∀ (hn : n ≤ 163), mm_C (189, mm_blk 189 5, [some (.ref 206), some (.int (nI s)), some (.int (nI (163 - n)))], [], (hp sc (mm_up I 207 (mo_out (I 207) (I 211) (163 * s) (163 - n))) o t)) Q ↔ Q (.inl (some (.int (mo_use (mo_out (I 207) (I 211) (163 * s) 163))))) (hp sc (mo_rs I s) o t) := by
  induction n with
  | zero =>
    intro hn
    rw [mM_189.2.2.2.2.2.2.1]
    simp +decide only [mM_189.1, mM_189.2.1, mM_189.2.2.1, mM_189.2.2.2.1, mM_189.2.2.2.2.1, mM_189.2.2.2.2.2.1, mM_189.2.2.2.2.2.2.2, cR, cH, mm_fixM, mm_fixN, Nat.sub_zero, cR163', c130 w207, mo_rs, mm_up_s, mm_up_n, mm_up_up, ↓reduceIte]
  | succ n ih =>
    intro hn
    have hk : 162 - n < 163 := by omega
    have e1 : 163 - (n + 1) = 162 - n := by omega
    have e2 : 162 - n + 1 = 163 - n := by omega
    have e3 := mo_out_s (I 207) (I 211) (163 * s) (162 - n)
    have ih1 := ih (by omega)
    rw [mM_189.2.2.2.2.2.2.1, e1]
    simp +decide only [mM_189.1, mM_189.2.1, mM_189.2.2.1, mM_189.2.2.2.1, mM_189.2.2.2.2.1, mM_189.2.2.2.2.2.1, mM_189.2.2.2.2.2.2.2, cR, cH, mm_fixM, mm_fixN, cR163 hk, cKs hs hk, e2, e3, ih1, mm_up_s, mm_up_n, mm_up_up, ↓reduceIte]
theorem c189 {v : Int32} : mm_C (mm_entry 189 [.ref 206, .int v] (hp sc I o t)) Q ↔ if ¬ v < 0 ∧ v < 2 then (if I 212 v.toNatClampNeg = 0 then Q (.inl (some (.int 0))) (hp sc (rf I 2) o t) else Q (.inl (some (.int (mo_use (mo_out (I 207) (I 211) (163 * v.toNatClampNeg) 163))))) (hp sc (mo_rs (rf I 0) v.toNatClampNeg) o t)) else Q (.inl (some (.int 0))) (hp sc (rf I 1) o t) := by
  by_cases h1 : ¬ v < 0 ∧ v < 2
  · rw [if_pos h1]
    obtain ⟨j, hj, rfl⟩ := cJ (n := 2) (by omega) h1.1 h1.2
    rw [(cY hj).2]
    by_cases h2 : I 212 j = 0
    · rw [if_pos h2]
      simp +decide only [mM_189.1, mM_189.2.1, mM_189.2.2.1, mM_189.2.2.2.1, mM_189.2.2.2.2.1, mM_189.2.2.2.2.2.1, mM_189.2.2.2.2.2.2.2, cR, cH, mm_fixM, mm_fixN, c109, cL, (cLe (nI j)).2.2, h1.1, h1.2, h2, cY hj, c108', and_true, true_and, and_false, false_and, or_true, true_or, or_false, false_or, not_true_eq_false, not_false_eq_true, decide_eq_true_eq, decide_true, decide_false, Bool.not_true, Bool.not_false, Bool.and_true, Bool.true_and, Bool.and_false, Bool.false_and, Bool.false_eq_true, eq_self, ↓reduceIte]
    · rw [if_neg h2]
      have hc := fun (Q : mm_Q) => c189_n (sc := sc) (o := o) (t := t) (Q := Q) (I := rf I 0) hj 163 (Nat.le_refl _)
      have e1 : nI (163 - 163) = 0 := rfl
      rw [e1, Nat.sub_self, mo_out_0, mm_up_self, rf_n _ _ (show ¬ 207 = 206 by decide), rf_n _ _ (show ¬ 211 = 206 by decide)] at hc
      simp +decide only [mM_189.1, mM_189.2.1, mM_189.2.2.1, mM_189.2.2.2.1, mM_189.2.2.2.2.1, mM_189.2.2.2.2.2.1, mM_189.2.2.2.2.2.2.2, cR, cH, mm_fixM, mm_fixN, c109, cL, (cLe (nI j)).2.2, h1.1, h1.2, h2, cY hj, c108', hc, and_true, true_and, and_false, false_and, or_true, true_or, or_false, false_or, not_true_eq_false, not_false_eq_true, decide_eq_true_eq, decide_true, decide_false, Bool.not_true, Bool.not_false, Bool.and_true, Bool.true_and, Bool.and_false, Bool.false_and, Bool.false_eq_true, eq_self, ↓reduceIte]
  · rw [if_neg h1]
    by_cases h2 : v < 0
    · simp +decide only [mM_189.1, mM_189.2.1, mM_189.2.2.1, mM_189.2.2.2.1, mM_189.2.2.2.2.1, mM_189.2.2.2.2.2.1, mM_189.2.2.2.2.2.2.2, cR, cH, mm_fixM, mm_fixN, c109, cL, (cLe v).2.2, h2, c108', and_true, true_and, and_false, false_and, or_true, true_or, or_false, false_or, not_true_eq_false, not_false_eq_true, decide_eq_true_eq, decide_true, decide_false, Bool.not_true, Bool.not_false, Bool.and_true, Bool.true_and, Bool.and_false, Bool.false_and, Bool.false_eq_true, eq_self, ↓reduceIte]
    · have h3 : ¬ v < 2 := fun h3 => h1 ⟨h2, h3⟩
      simp +decide only [mM_189.1, mM_189.2.1, mM_189.2.2.1, mM_189.2.2.2.1, mM_189.2.2.2.2.1, mM_189.2.2.2.2.2.1, mM_189.2.2.2.2.2.2.2, cR, cH, mm_fixM, mm_fixN, c109, cL, (cLe v).2.2, h2, h3, c108', and_true, true_and, and_false, false_and, or_true, true_or, or_false, false_or, not_true_eq_false, not_false_eq_true, decide_eq_true_eq, decide_true, decide_false, Bool.not_true, Bool.not_false, Bool.and_true, Bool.true_and, Bool.and_false, Bool.false_and, Bool.false_eq_true, eq_self, ↓reduceIte]
end WL
