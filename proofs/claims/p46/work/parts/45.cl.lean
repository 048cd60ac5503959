/-! the past, and the actions of the class -/
section VT
variable {sc : Nat × (Nat → Int32)} {I : Nat → Nat → Int32} {o : Int64} {t : Nat} {Q : mm_Q}
theorem sy_cv_o (a b : Nat) (n : Nat) (hn : n ≤ 6) : ∀ (I : Nat → Nat → Int32) (x : Nat), ¬ (a ≤ x ∧ x < a + 11) → sy_cv a b n I x = I x := by
  induction n with
  | zero => intro I x h; rfl
  | succ n ih =>
    intro I x h
    rw [show sy_cv a b (n + 1) I = _ from rfl, sy_cv, ih (by omega) _ x h, mm_up_n _ _ (by omega)]
theorem sy_copy_o {a b : Nat} (I : Nat → Nat → Int32) {x : Nat} (h : ¬ (a ≤ x ∧ x < a + 11)) : sy_copy I a b x = I x := by
  unfold sy_copy sy_copy2
  rw [mm_up_n _ _ (by omega), sy_ck_o a b 60 _ x (by omega) (by omega), mm_up_n _ _ (by omega), sy_cv_o a b 6 (by omega) _ x h]
theorem c1 : mm_C (mm_entry 1 [.ref 14] (hp sc I o t)) Q ↔ Q (.inl none) (hp sc (mm_up I 14 (mm_up (mm_up (I 14) 1 0) 2 0)) o t) := by
  simp +decide only [mM_1, cR, cH, mm_fixA, mm_fixB, mm_up_s, mm_up_up]
def pa_wrap (I : Nat → Nat → Int32) : Nat → Nat → Int32 := if I 14 1 < 14 then I else mm_up I 14 (mm_up (I 14) 1 0)
def pa_rem (I : Nat → Nat → Int32) (j : Nat) : Nat → Nat → Int32 := mm_up (sy_copy (pa_wrap I) (16 + 11 * j) 3) 14 (mm_up (mm_up (pa_wrap I 14) 1 (nI j + 1)) 2 (sv_min (pa_wrap I 14 2 + 1) 14))
theorem c2 {j : Nat} (hj : j < 14) (hn : pa_wrap I 14 1 = nI j) (h5 : mm_b01 (I 3 5)) (h6 : mm_b01 (I 3 6)) : mm_C (mm_entry 2 [.ref 14, .ref 3] (hp sc I o t)) Q ↔ Q (.inl none) (hp sc (pa_rem I j) o t) := by
  obtain ⟨r1, r2, r3, r4, r5, r6⟩ := mm_fixR j hj
  have e3 : pa_wrap I 3 = I 3 := by
    unfold pa_wrap
    split
    · rfl
    · exact mm_up_n _ _ (by decide)
  have hk := fun (J : Nat → Nat → Int32) => sy_copy_o (a := 16 + 11 * j) (b := 3) J (x := 14) (by omega)
  have hc := fun (Q : mm_Q) => c19 (sc := sc) (o := o) (t := t) (Q := Q) (I := pa_wrap I) r1 s3 r6 (by rw [e3]; exact h5) (by rw [e3]; exact h6)
  unfold pa_rem
  by_cases h : I 14 1 < 14
  · have e : pa_wrap I = I := if_pos h
    rw [e] at hn hc ⊢
    rw [hn] at h
    simp +decide only [mM_2, cR, cH, mm_fixA, mm_fixB, mm_is3, h, hn, r2, r3, r4, r5, (mm_syn r1).1.1, hc, hk, mm_up_s, mm_up_up, mm_up_n, ↓reduceIte]
    rfl
  · have e : pa_wrap I = mm_up I 14 (mm_up (I 14) 1 0) := if_neg h
    have e0 : (0 : Int32) = nI j := by rw [← hn, e]; simp [mm_up]
    have hj0 : j = 0 := by
      have h9 := congrArg Int32.toInt e0
      rw [nI_toInt (by omega)] at h9
      have e8 : (0 : Int32).toInt = 0 := by decide
      omega
    subst hj0
    rw [e] at hc ⊢
    have hc : ∀ Q : mm_Q, mm_C (mm_entry 19 [.ref 16, .ref 3] (hp sc (mm_up I 14 (mm_up (I 14) 1 0)) o t)) Q ↔ Q (.inl none) (hp sc (sy_copy (mm_up I 14 (mm_up (I 14) 1 0)) 16 3) o t) := hc
    have hk : ∀ J : Nat → Nat → Int32, sy_copy J 16 3 14 = J 14 := hk
    have r2 : mm_nn 15 0 := r2
    have r3 : mm_rg 15 0 = 16 := r3
    have r9 : mm_is 16 3 := (mm_syn r1).1.1
    show _ ↔ Q (.inl none) (hp sc (mm_up (sy_copy (mm_up I 14 (mm_up (I 14) 1 0)) 16 3) 14 _) o t)
    simp +decide only [mM_2, cR, cH, mm_fixA, mm_fixB, mm_is3, h, cN, r2, r3, r9, hc, hk, mm_up_s, mm_up_up, mm_up_n, ↓reduceIte]
    rfl
theorem c3_0 (h : I 14 2 = 0) : mm_C (mm_entry 3 [.ref 14, .ref 3] (hp sc I o t)) Q ↔ Q (.inl none) (hp sc I o t) := by
  simp +decide only [mM_3, cR, cH, mm_fixA, mm_fixB, h, ↓reduceIte]
def pa_back (I : Nat → Nat → Int32) (j : Nat) : Nat → Nat → Int32 := sy_copy (mm_up I 14 (mm_up (mm_up (I 14) 1 (nI j)) 2 (I 14 2 - 1))) 3 (16 + 11 * j)
theorem c3 {j : Nat} (hj : j < 14) (h : ¬ I 14 2 = 0) (hn : (if 0 < I 14 1 then I 14 1 - 1 else 13) = nI j) (h5 : mm_b01 (I (16 + 11 * j) 5)) (h6 : mm_b01 (I (16 + 11 * j) 6)) : mm_C (mm_entry 3 [.ref 14, .ref 3] (hp sc I o t)) Q ↔ Q (.inl none) (hp sc (pa_back I j) o t) := by
  obtain ⟨r1, r2, r3, r4, r5, r6⟩ := mm_fixR j hj
  have e3 : ∀ f : Nat → Int32, mm_up I 14 f (16 + 11 * j) = I (16 + 11 * j) := fun f => mm_up_n _ _ (by omega)
  have hc := fun (Q : mm_Q) (f : Nat → Int32) => c19 (sc := sc) (o := o) (t := t) (Q := Q) (I := mm_up I 14 f) s3 r1 (fun e => r6 e.symm) (by rw [e3]; exact h5) (by rw [e3]; exact h6)
  unfold pa_back
  by_cases h1 : 0 < I 14 1
  · rw [if_pos h1] at hn
    simp +decide only [mM_3, cR, cH, mm_fixA, mm_fixB, mm_is3, h, h1, hn, r2, r3, r4, r5, hc, mm_up_s, mm_up_up, mm_up_n, ↓reduceIte]
  · rw [if_neg h1] at hn
    simp +decide only [mM_3, cR, cH, mm_fixA, mm_fixB, mm_is3, h, h1, hn, r2, r3, r4, r5, hc, mm_up_s, mm_up_up, mm_up_n, ↓reduceIte]
theorem c83 {j : Nat} (hj : j < 14) (hn : pa_wrap I 14 1 = nI j) (h5 : mm_b01 (I 3 5)) (h6 : mm_b01 (I 3 6)) {d : Int32} (hd : mm_b01 d) : mm_C (mm_entry 83 [.ref 0, .int d] (hp sc I o t)) Q ↔ Q (.inl (some (.int (sy_pedal (pa_rem I j) 3 d).1))) (hp sc (sy_pedal (pa_rem I j) 3 d).2 o t) := by
  simp +decide only [mM_83, cR, cH, mm_fixA, mm_fixB, mm_is3, c2 hj hn h5 h6, c40 s3 hd]
theorem c87 {j : Nat} (hj : j < 14) (hn : pa_wrap I 14 1 = nI j) (h5 : mm_b01 (I 3 5)) (h6 : mm_b01 (I 3 6)) {d : Int32} (hd : mm_b01 d) : mm_C (mm_entry 87 [.ref 0, .int d] (hp sc I o t)) Q ↔ Q (.inl (some (.int (sy_keys (fun k c => if 0 < mm_up (pa_rem I j) 3 (mm_up (pa_rem I j 3) 6 d) (3 + 3) k ∧ sy_own (mm_up (pa_rem I j) 3 (mm_up (pa_rem I j 3) 6 d)) 3 (nI k) = -1 then c + 1 else c) 60 0)))) (hp sc (mm_up (pa_rem I j) 3 (mm_up (pa_rem I j 3) 6 d)) o t) := by
  simp +decide only [mM_87, cR, cH, mm_fixA, mm_fixB, mm_is3, c2 hj hn h5 h6, c32 s3, hd]
theorem c81 {j : Nat} (hj : j < 14) (hn : pa_wrap I 14 1 = nI j) (h5 : mm_b01 (I 3 5)) (h6 : mm_b01 (I 3 6)) {k s : Int32} : mm_C (mm_entry 81 [.ref 0, .int k, .int s] (hp sc I o t)) Q ↔ if ¬ k < 0 ∧ k < 60 then (if ¬ s < 1 ∧ ¬ 100 < s then (if ¬ sy_dn (I 6) k = true then Q (.inl (some (.int (sy_strike (pa_rem I j) 3 k s).1))) (hp sc (sy_strike (pa_rem I j) 3 k s).2 o t) else Q (.inr 2) (hp sc I o (t + 1))) else Q (.inr 1) (hp sc I o (t + 1))) else Q (.inr 0) (hp sc I o (t + 1)) := by
  by_cases h : ¬ k < 0 ∧ k < 60
  · rw [if_pos h]
    by_cases h2 : ¬ s < 1 ∧ ¬ 100 < s
    · rw [if_pos h2]
      by_cases h3 : ¬ sy_dn (I 6) k = true
      · rw [if_pos h3]
        simp +decide only [mM_81, cR, cH, mm_fixA, mm_fixB, mm_is3, c102, c104, c105, if_pos h, if_pos h2, if_pos h3, c2 hj hn h5 h6, c36 s3 h.1 h.2]
      · rw [if_neg h3]
        simp +decide only [mM_81, cR, cH, mm_fixA, mm_fixB, c102, c104, c105, if_pos h, if_pos h2, if_neg h3]
    · rw [if_neg h2]
      simp +decide only [mM_81, cR, cH, mm_fixA, mm_fixB, c102, c104, if_pos h, if_neg h2]
  · rw [if_neg h]
    simp +decide only [mM_81, cR, cH, mm_fixA, mm_fixB, c102, if_neg h]
theorem c82 {j : Nat} (hj : j < 14) (hn : pa_wrap I 14 1 = nI j) (h5 : mm_b01 (I 3 5)) (h6 : mm_b01 (I 3 6)) {k : Int32} : mm_C (mm_entry 82 [.ref 0, .int k] (hp sc I o t)) Q ↔ if ¬ k < 0 ∧ k < 60 then (if sy_dn (I (3 + 3)) k = true then Q (.inl (some (.int (sy_release (pa_rem I j) 3 k).1))) (hp sc (sy_release (pa_rem I j) 3 k).2 o t) else Q (.inr 2) (hp sc I o (t + 1))) else Q (.inr 0) (hp sc I o (t + 1)) := by
  by_cases h : ¬ k < 0 ∧ k < 60
  · rw [if_pos h]
    by_cases h2 : sy_dn (I (3 + 3)) k = true
    · rw [if_pos h2]
      simp +decide only [mM_82, cR, cH, mm_fixA, mm_fixB, mm_is3, c102, c30 s3, if_pos h, if_pos h2, c2 hj hn h5 h6, c39 s3 h.1 h.2, ↓reduceIte]
    · rw [if_neg h2]
      simp +decide only [mM_82, cR, cH, mm_fixA, mm_fixB, mm_is3, c102, c30 s3, if_pos h, if_neg h2, ↓reduceIte]
  · rw [if_neg h]
    simp +decide only [mM_82, cR, cH, mm_fixA, mm_fixB, c102, if_neg h]
theorem c86 {j : Nat} (hj : j < 14) (hn : pa_wrap I 14 1 = nI j) (h5 : mm_b01 (I 3 5)) (h6 : mm_b01 (I 3 6)) {r : Int32} : mm_C (mm_entry 86 [.ref 0, .int r] (hp sc I o t)) Q ↔ if ¬ r < 0 ∧ ¬ 3 < r then Q (.inl (some (.int (pa_rem I j 3 7)))) (hp sc (mm_up (pa_rem I j) 3 (mm_up (pa_rem I j 3) 7 r)) o t) else Q (.inr 1) (hp sc I o (t + 1)) := by
  by_cases h : ¬ r < 0 ∧ ¬ 3 < r
  · rw [if_pos h]
    simp +decide only [mM_86, cR, cH, mm_fixA, mm_fixB, mm_is3, c104, if_pos h, c2 hj hn h5 h6]
  · rw [if_neg h]
    simp +decide only [mM_86, cR, cH, mm_fixA, mm_fixB, c104, if_neg h]
theorem c88 {j : Nat} (hj : j < 14) (hn : pa_wrap I 14 1 = nI j) (h5 : mm_b01 (I 3 5)) (h6 : mm_b01 (I 3 6)) {r : Int32} : mm_C (mm_entry 88 [.ref 0, .int r] (hp sc I o t)) Q ↔ if ¬ r < 1 ∧ ¬ 99 < r then Q (.inl (some (.int (sy_run 3 r.toNatClampNeg (pa_rem I j) 3 10 - pa_rem I j 3 10)))) (hp sc (sy_run 3 r.toNatClampNeg (pa_rem I j)) o t) else Q (.inr 1) (hp sc I o (t + 1)) := by
  by_cases h : ¬ r < 1 ∧ ¬ 99 < r
  · rw [if_pos h]
    have e1 := Int32.le_iff_toInt_le.mp (Int32.not_lt.mp h.1)
    have e2 := Int32.le_iff_toInt_le.mp (Int32.not_lt.mp h.2)
    have e3 : (1 : Int32).toInt = 1 := by decide
    have e4 : (99 : Int32).toInt = 99 := by decide
    have e5 : r = nI r.toInt.toNat := Int32.toInt_inj.mp (by rw [nI_toInt (by omega)]; omega)
    have e6 : r.toNatClampNeg = r.toInt.toNat := rfl
    have hc := fun (Q : mm_Q) (I : Nat → Nat → Int32) => c41 (sc := sc) (o := o) (t := t) (Q := Q) (I := I) s3 (m := r.toInt.toNat) (by omega)
    rw [← e5, ← e6] at hc
    simp +decide only [mM_88, cR, cH, mm_fixA, mm_fixB, mm_is3, c104, if_pos h, c2 hj hn h5 h6, hc]
  · rw [if_neg h]
    simp +decide only [mM_88, cR, cH, mm_fixA, mm_fixB, c104, if_neg h]
end VT
