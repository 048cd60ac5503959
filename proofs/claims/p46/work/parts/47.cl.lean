/-! the class: trials and the simulation -/
section VV
variable {sc : Nat × (Nat → Int32)} {I : Nat → Nat → Int32} {o : Int64} {t : Nat} {Q : mm_Q}
theorem cM2 {i m : Nat} (h : i < m) (hm : m ≤ 1000) : (nI i < nI m) = True ∧ nI i + 1 = nI (i + 1) := by
  have e1 := nI_toInt (n := i) (by omega)
  have e2 := nI_toInt (n := m) (by omega)
  refine ⟨eq_true (Int32.lt_iff_toInt_lt.mpr (by rw [e1, e2]; omega)), ?_⟩
  have h2 : ∀ k, k < 1000 → nI k + 1 = nI (k + 1) := by decide +kernel
  exact h2 i (by omega)
theorem mm_is172 : mm_is 172 3 := (mm_syn s172).1.1
def sy_loud (I : Nat → Nat → Int32) (a : Nat) : Int32 := sy_fold (fun v c => c + I (a + (5 + v)) 3) 6 0
theorem c21' {a : Nat} (ha : mm_isS a) : mm_C (mm_entry 21 [.ref a] (hp sc I o t)) Q ↔ Q (.inl (some (.int (sy_loud I a)))) (hp sc I o t) := c21 ha
def sy_look : Nat → (Nat → Nat → Int32) → Int32 → Int32 × (Nat → Nat → Int32)
  | 0, I, c => (c, I)
  | n + 1, I, c => sy_look n (sy_tick I 172) (sv_max c (sy_loud (sy_tick I 172) 172))
theorem c95_n {m : Nat} (hm : m ≤ 200) (n : Nat) : ∀ (hn : n ≤ m) {I : Nat → Nat → Int32} {c : Int32}, mm_C (95, mm_blk 95 1, [some (.ref 0), some (.int (nI m)), some (.int c), some (.int (nI (m - n)))], [], (hp sc I o t)) Q ↔ Q (.inl (some (.int (sy_look n I c).1))) (hp sc (sy_look n I c).2 o t) := by
  induction n with
  | zero =>
    intro hn I c
    rw [mM_95.2.2.1]
    simp +decide only [mM_95.1, mM_95.2.1, mM_95.2.2.2, cR, cH, Nat.sub_zero, cM0, sy_look, ↓reduceIte]
  | succ n ih =>
    intro hn I c
    have hk : m - (n + 1) < m := by omega
    have e2 : m - (n + 1) + 1 = m - n := by omega
    have e3 : ∀ x y : Int32, (if x < y then y else x) = sv_max x y := fun _ _ => rfl
    rw [mM_95.2.2.1]
    simp +decide only [mM_95.1, mM_95.2.1, mM_95.2.2.2, cR, cH, mm_fixA, mm_fixB, mm_is172, cM2 hk (by omega), e2, e3, c42 s172, c21' s172, ih (by omega), sy_look, ↓reduceIte]
theorem c95 (h5 : mm_b01 (I 3 5)) (h6 : mm_b01 (I 3 6)) {r : Int32} : mm_C (mm_entry 95 [.ref 0, .int r] (hp sc I o t)) Q ↔ if ¬ r < 1 ∧ ¬ 200 < r then Q (.inl (some (.int (sy_look r.toNatClampNeg (sy_copy I 172 3) 0).1))) (hp sc (sy_look r.toNatClampNeg (sy_copy I 172 3) 0).2 o t) else Q (.inr 1) (hp sc I o (t + 1)) := by
  by_cases h : ¬ r < 1 ∧ ¬ 200 < r
  · rw [if_pos h]
    have e1 := Int32.le_iff_toInt_le.mp (Int32.not_lt.mp h.1)
    have e2 := Int32.le_iff_toInt_le.mp (Int32.not_lt.mp h.2)
    have e3 : (1 : Int32).toInt = 1 := by decide
    have e4 : (200 : Int32).toInt = 200 := by decide
    have e5 : r = nI r.toInt.toNat := Int32.toInt_inj.mp (by rw [nI_toInt (by omega)]; omega)
    have e6 : r.toNatClampNeg = r.toInt.toNat := rfl
    have hc := fun (Q : mm_Q) (I : Nat → Nat → Int32) => c95_n (sc := sc) (o := o) (t := t) (Q := Q) (m := r.toInt.toNat) (by omega) r.toInt.toNat (Nat.le_refl _) (I := I) (c := 0)
    rw [Nat.sub_self, ← e5, ← e6] at hc
    have e7 : nI 0 = 0 := rfl
    rw [e7] at hc
    simp +decide only [mM_95.1, mM_95.2.1, mM_95.2.2.2, cR, cH, mm_fixA, mm_fixB, mm_is172, c104, if_pos h, c19 s172 s3 (by decide) h5 h6, hc]
  · rw [if_neg h]
    simp +decide only [mM_95.1, mM_95.2.1, mM_95.2.2.2, cR, cH, mm_fixA, mm_fixB, c104, if_neg h]
/-! by running -/
def sy_fb : Nat → (Nat → Nat → Int32) → Int32 → Int32 × (Nat → Nat → Int32)
  | 0, I, c => (c, I)
  | n + 1, I, c => if I 183 1 = 0 then (c, I) else sy_fb n (mm_up I 183 (sv_move (I 183) (I (3 + 2)))) (c + 1)
theorem c93_n {v : Int32} (n : Nat) : ∀ (hn : n ≤ 1000) {I : Nat → Nat → Int32} {c : Int32}, mm_C (93, mm_blk 93 2, [some (.ref 0), some (.int v), some (.int c), some (.int (nI (1000 - n)))], [], (hp sc I o t)) Q ↔ Q (.inl (some (.int (sy_fb n I c).1))) (hp sc (sy_fb n I c).2 o t) := by
  have e8 : nI 1000 = 1000 := rfl
  induction n with
  | zero =>
    intro hn I c
    rw [mM_93.2.2.2.1]
    simp +decide only [mM_93.1, mM_93.2.1, mM_93.2.2.1, mM_93.2.2.2.2, cR, cH, Nat.sub_zero, e8, sy_fb, ↓reduceIte]
  | succ n ih =>
    intro hn I c
    have hk : 1000 - (n + 1) < 1000 := by omega
    have e2 : 1000 - (n + 1) + 1 = 1000 - n := by omega
    have e3 := cM2 hk (by omega)
    rw [e8] at e3
    rw [mM_93.2.2.2.1]
    by_cases h : I 183 1 = 0 <;> simp +decide only [mM_93.1, mM_93.2.1, mM_93.2.2.1, mM_93.2.2.2.2, cR, cH, mm_fixA, mm_fixB, mm_syn s3, e3, e2, c45, c50 (b := 183) (s := 3 + 2) (by simp only [mm_fixA]) (mm_syn s3).1.2.2.2.1, ih (by omega), cB0, cB1, sy_fb, h, not_true_eq_false, not_false_eq_true, ↓reduceIte]
def sy_fb0 (I : Nat → Nat → Int32) (v : Nat) : Nat → Nat → Int32 := mm_up I 183 (mm_up (sv_copy (I 183) (I (3 + (5 + v)))) 1 4)
theorem c93 {v : Int32} : mm_C (mm_entry 93 [.ref 0, .int v] (hp sc I o t)) Q ↔ if ¬ v < 0 ∧ v < 6 then (if I (3 + (5 + v.toNatClampNeg)) 1 = 0 then Q (.inl (some (.int 0))) (hp sc I o t) else Q (.inl (some (.int (sy_fb 1000 (sy_fb0 I v.toNatClampNeg) 0).1))) (hp sc (sy_fb 1000 (sy_fb0 I v.toNatClampNeg) 0).2 o t)) else Q (.inr 0) (hp sc I o (t + 1)) := by
  by_cases h : ¬ v < 0 ∧ v < 6
  · obtain ⟨j, hj, rfl⟩ := cJ (n := 6) (by omega) h.1 h.2
    rw [if_pos h]
    have hc := fun (Q : mm_Q) (I : Nat → Nat → Int32) => c93_n (sc := sc) (o := o) (t := t) (Q := Q) (v := nI j) 1000 (by omega) (I := I) (c := 0)
    rw [Nat.sub_self] at hc
    have e7 : nI 0 = 0 := rfl
    rw [e7] at hc
    have hne : ¬ 3 + (5 + j) = 183 := by omega
    have h183 : mm_is 183 4 := by simp only [mm_fixA]
    by_cases h2 : I (3 + (5 + j)) 1 = 0 <;> simp +decide only [mM_93.1, mM_93.2.1, mM_93.2.2.1, mM_93.2.2.2.2, cR, cH, mm_fixA, mm_fixB, mm_syn s3, mm_synV s3 hj, cV hj, c101, c45, c49 h183 (mm_synV s3 hj).1 hne, if_pos h, h2, hc, cB0, cB1, mm_up_s, mm_up_up, sy_fb0, not_true_eq_false, not_false_eq_true, ↓reduceIte]
  · rw [if_neg h]
    simp +decide only [mM_93.1, mM_93.2.1, mM_93.2.2.1, mM_93.2.2.2.2, cR, cH, mm_fixA, mm_fixB, c101, if_neg h]
/-! a turn -/
def sy_key (q : Int32) : Int32 := q - q / 60 * 60
def sy_turn (I : Nat → Nat → Int32) (r : Int32) : Nat → Nat → Int32 :=
  if 5 < r - r / 16 * 16 then
    (if 9 < r - r / 16 * 16 then
      (if r - r / 16 * 16 = 10 then (sy_pedal I 172 (if r / 16 - r / 16 / 2 * 2 = 0 then 1 else 0)).2
       else if r - r / 16 * 16 = 11 then mm_up I 172 (mm_up (I 172) 7 (r / 16 - r / 16 / 4 * 4))
       else if r - r / 16 * 16 = 12 then mm_up I 172 (mm_up (I 172) 6 (if r / 16 - r / 16 / 2 * 2 = 0 then 1 else 0))
       else sy_run 172 (1 + (r / 16 - r / 16 / 9 * 9)).toNatClampNeg I)
     else (if sy_dn (I (172 + 3)) (sy_key (r / 16)) = true then (sy_release I 172 (sy_key (r / 16))).2 else I))
  else (if sy_dn (I (172 + 3)) (sy_key (r / 16)) = true then I else (sy_strike I 172 (sy_key (r / 16)) (1 + (r / 16 / 64 - r / 16 / 64 / 100 * 100))).2)
def sy_okr (r : Int32) : Prop := (¬ sy_key (r / 16) < 0 ∧ sy_key (r / 16) < 60) ∧ ∃ m, m ≤ 99 ∧ 1 + (r / 16 - r / 16 / 9 * 9) = nI m ∧ (nI m).toNatClampNeg = m
theorem c98 {r : Int32} (hr : sy_okr r) : mm_C (mm_entry 98 [.ref 0, .int r] (hp sc I o t)) Q ↔ Q (.inl none) (hp sc (sy_turn I r) o t) := by
  obtain ⟨⟨k1, k2⟩, m, m1, m2, m3⟩ := hr
  have e1 : r / 16 - r / 16 / 60 * 60 = sy_key (r / 16) := rfl
  unfold sy_turn
  by_cases h5 : 5 < r - r / 16 * 16
  · rw [if_pos h5]
    by_cases h9 : 9 < r - r / 16 * 16
    · rw [if_pos h9]
      by_cases h10 : r - r / 16 * 16 = 10
      · rw [if_pos h10]
        by_cases h2 : r / 16 - r / 16 / 2 * 2 = 0 <;> simp +decide only [mM_98, cR, cH, mm_fixA, mm_fixB, mm_is172, h5, h9, h10, h2, cb01, c40 s172, ↓reduceIte]
      by_cases h11 : r - r / 16 * 16 = 11
      · rw [if_neg h10, if_pos h11]
        simp +decide only [mM_98, cR, cH, mm_fixA, mm_fixB, mm_is172, h5, h9, h10, h11, ↓reduceIte]
      by_cases h12 : r - r / 16 * 16 = 12
      · rw [if_neg h10, if_neg h11, if_pos h12]
        by_cases h2 : r / 16 - r / 16 / 2 * 2 = 0 <;> simp +decide only [mM_98, cR, cH, mm_fixA, mm_fixB, mm_is172, h5, h9, h10, h11, h12, h2, cb01, ↓reduceIte]
      · rw [if_neg h10, if_neg h11, if_neg h12, m2, m3]
        simp +decide only [mM_98, cR, cH, mm_fixA, mm_fixB, mm_is172, h5, h9, h10, h11, h12, m2, c41 s172 m1, ↓reduceIte]
    · rw [if_neg h9]
      by_cases h3 : sy_dn (I (172 + 3)) (sy_key (r / 16)) = true <;> simp +decide only [mM_98, cR, cH, mm_fixA, mm_fixB, mm_is172, h5, h9, e1, c35 s172 k1 k2, if_pos h3, h3, ↓reduceIte]
  · rw [if_neg h5]
    by_cases h3 : sy_dn (I (172 + 3)) (sy_key (r / 16)) = true <;> simp +decide only [mM_98, cR, cH, mm_fixA, mm_fixB, mm_is172, h5, e1, c34 s172 k1 k2, h3, ↓reduceIte]
end VV
