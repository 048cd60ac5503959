/-! the class: the other actions, what would be, slots -/
section VU
variable {sc : Nat × (Nat → Int32)} {I : Nat → Nat → Int32} {o : Int64} {t : Nat} {Q : mm_Q}
def sy_lp (I : Nat → Nat → Int32) (p : Int32) : Int32 := sy_fold (fun v c => if I (3 + (5 + v)) 1 = p then c + I (3 + (5 + v)) 3 else c) 6 0
theorem c22' {p : Int32} : mm_C (mm_entry 22 [.ref 3, .int p] (hp sc I o t)) Q ↔ Q (.inl (some (.int (sy_lp I p)))) (hp sc I o t) := c22 s3
theorem c68 : mm_C (mm_entry 68 [.ref 0] (hp sc I o t)) Q ↔ Q (.inl (some (.int (0 + sy_lp I 1 + sy_lp I 2 + sy_lp I 3 + sy_lp I 4)))) (hp sc I o t) := by
  simp +decide only [mM_68, cR, cH, mm_fixA, mm_fixB, mm_is3, c22', cA, ↓reduceIte]
theorem c84 {j : Nat} (hj : j < 14) (hn : pa_wrap I 14 1 = nI j) (h5 : mm_b01 (I 3 5)) (h6 : mm_b01 (I 3 6)) {r f : Int32} : mm_C (mm_entry 84 [.ref 0, .int r, .int f] (hp sc I o t)) Q ↔ if ¬ r < 1 ∧ ¬ 1000 < r then (if ¬ f < 1 ∧ ¬ 1000 < f then Q (.inl (some (.int (pa_rem I j (3 + 2) 0)))) (hp sc (mm_up (pa_rem I j) (3 + 2) (mm_up (mm_up (pa_rem I j (3 + 2)) 0 r) 1 f)) o t) else Q (.inr 1) (hp sc I o (t + 1))) else Q (.inr 1) (hp sc I o (t + 1)) := by
  by_cases h : ¬ r < 1 ∧ ¬ 1000 < r
  · rw [if_pos h]
    by_cases h2 : ¬ f < 1 ∧ ¬ 1000 < f
    · rw [if_pos h2]
      simp +decide only [mM_84, cR, cH, mm_fixA, mm_fixB, mm_syn s3, c104, if_pos h, if_pos h2, c2 hj hn h5 h6, mm_up_s, mm_up_up, mm_up_n]
    · rw [if_neg h2]
      simp +decide only [mM_84, cR, cH, mm_fixA, mm_fixB, c104, if_pos h, if_neg h2]
  · rw [if_neg h]
    simp +decide only [mM_84, cR, cH, mm_fixA, mm_fixB, c104, if_neg h]
theorem c85 {j : Nat} (hj : j < 14) (hn : pa_wrap I 14 1 = nI j) (h5 : mm_b01 (I 3 5)) (h6 : mm_b01 (I 3 6)) {r f : Int32} : mm_C (mm_entry 85 [.ref 0, .int r, .int f] (hp sc I o t)) Q ↔ if ¬ r < 0 ∧ ¬ 100 < r then (if ¬ f < 1 ∧ ¬ 1000 < f then Q (.inl (some (.int (pa_rem I j (3 + 2) 2)))) (hp sc (mm_up (pa_rem I j) (3 + 2) (mm_up (mm_up (pa_rem I j (3 + 2)) 2 r) 3 f)) o t) else Q (.inr 1) (hp sc I o (t + 1))) else Q (.inr 1) (hp sc I o (t + 1)) := by
  by_cases h : ¬ r < 0 ∧ ¬ 100 < r
  · rw [if_pos h]
    by_cases h2 : ¬ f < 1 ∧ ¬ 1000 < f
    · rw [if_pos h2]
      simp +decide only [mM_85, cR, cH, mm_fixA, mm_fixB, mm_syn s3, c104, if_pos h, if_pos h2, c2 hj hn h5 h6, mm_up_s, mm_up_up, mm_up_n]
    · rw [if_neg h2]
      simp +decide only [mM_85, cR, cH, mm_fixA, mm_fixB, c104, if_pos h, if_neg h2]
  · rw [if_neg h]
    simp +decide only [mM_85, cR, cH, mm_fixA, mm_fixB, c104, if_neg h]
theorem c89_0 (h : I 14 2 = 0) : mm_C (mm_entry 89 [.ref 0] (hp sc I o t)) Q ↔ Q (.inr 2) (hp sc I o (t + 1)) := by
  simp +decide only [mM_89, cR, cH, mm_fixA, mm_fixB, h, ↓reduceIte]
theorem c89 {j : Nat} (hj : j < 14) (h : ¬ I 14 2 = 0) (hn : (if 0 < I 14 1 then I 14 1 - 1 else 13) = nI j) (h5 : mm_b01 (I (16 + 11 * j) 5)) (h6 : mm_b01 (I (16 + 11 * j) 6)) : mm_C (mm_entry 89 [.ref 0] (hp sc I o t)) Q ↔ Q (.inl (some (.int (pa_back I j 14 2)))) (hp sc (pa_back I j) o t) := by
  simp +decide only [mM_89, cR, cH, mm_fixA, mm_fixB, h, c3 hj h hn h5 h6, ↓reduceIte]
theorem c90 {k : Int32} : mm_C (mm_entry 90 [.ref 0, .int k] (hp sc I o t)) Q ↔ if ¬ k < 0 ∧ k < 60 then (if ¬ sy_dn (I 6) k = true then Q (.inl (some (.int (if sy_own I 3 k = -1 then (if sy_fr I 3 = -1 then sy_steal I 3 else sy_fr I 3) else sy_own I 3 k)))) (hp sc I o t) else Q (.inr 2) (hp sc I o (t + 1))) else Q (.inr 0) (hp sc I o (t + 1)) := by
  by_cases h : ¬ k < 0 ∧ k < 60
  · rw [if_pos h]
    by_cases h2 : ¬ sy_dn (I 6) k = true
    · rw [if_pos h2]
      by_cases h3 : sy_own I 3 k = -1 <;> by_cases h4 : sy_fr I 3 = -1 <;> simp +decide only [mM_90, cR, cH, mm_fixA, mm_fixB, mm_is3, c102, c105, if_pos h, if_pos h2, c23' s3, c24' s3, c27 s3, h3, h4, ↓reduceIte]
    · rw [if_neg h2]
      simp +decide only [mM_90, cR, cH, mm_fixA, mm_fixB, c102, c105, if_pos h, if_neg h2]
  · rw [if_neg h]
    simp +decide only [mM_90, cR, cH, mm_fixA, mm_fixB, c102, if_neg h]
theorem c91 {k : Int32} : mm_C (mm_entry 91 [.ref 0, .int k] (hp sc I o t)) Q ↔ if ¬ k < 0 ∧ k < 60 then Q (.inl (some (.int (if sy_dn (I (3 + 3)) k = true then 4 else if sy_own I 3 k = -1 then (if sy_fr I 3 = -1 then (if sy_steal I 3 = -1 then 3 else 2) else 1) else 0)))) (hp sc I o t) else Q (.inr 0) (hp sc I o (t + 1)) := by
  by_cases h : ¬ k < 0 ∧ k < 60
  · rw [if_pos h]
    by_cases h2 : sy_dn (I (3 + 3)) k = true
    · rw [if_pos h2]
      simp +decide only [mM_91, cR, cH, mm_fixA, mm_fixB, mm_is3, c102, c30 s3, if_pos h, if_pos h2, ↓reduceIte]
    · rw [if_neg h2]
      by_cases h3 : sy_own I 3 k = -1 <;> by_cases h4 : sy_fr I 3 = -1 <;> by_cases h5 : sy_steal I 3 = -1 <;> simp +decide only [mM_91, cR, cH, mm_fixA, mm_fixB, mm_is3, c102, c30 s3, if_pos h, if_neg h2, c23' s3, c24' s3, c27 s3, h3, h4, h5, ↓reduceIte]
  · rw [if_neg h]
    simp +decide only [mM_91, cR, cH, mm_fixA, mm_fixB, c102, if_neg h]
def sy_die (I : Nat → Nat → Int32) (b : Nat) : Int32 := if ¬ I b 1 = 0 ∧ 0 < I (3 + 2) 3 then sv_max 1 ((I b 3 + I (3 + 2) 3 - 1) / I (3 + 2) 3) else 0
theorem c29' {b : Nat} (hb : mm_is b 4) : mm_C (mm_entry 29 [.ref 3, .ref b] (hp sc I o t)) Q ↔ Q (.inl (some (.int (sy_die I b)))) (hp sc I o t) := c29 s3 hb
theorem c94 {v : Int32} : mm_C (mm_entry 94 [.ref 0, .int v] (hp sc I o t)) Q ↔ if ¬ v < 0 ∧ v < 6 then Q (.inl (some (.int (sy_die I (3 + (5 + v.toNatClampNeg)))))) (hp sc I o t) else Q (.inr 0) (hp sc I o (t + 1)) := by
  by_cases h : ¬ v < 0 ∧ v < 6
  · obtain ⟨j, hj, rfl⟩ := cJ (n := 6) (by omega) h.1 h.2
    rw [if_pos h]
    simp +decide only [mM_94, cR, cH, mm_fixA, mm_fixB, mm_syn s3, mm_synV s3 hj, cV hj, c101, c29' (mm_synV s3 hj).1, if_pos h, ↓reduceIte]
  · rw [if_neg h]
    simp +decide only [mM_94, cR, cH, mm_fixA, mm_fixB, c101, if_neg h, ↓reduceIte]
theorem c96_n (n : Nat) : ∀ (hn : n ≤ 6) {c : Int32}, mm_C (96, mm_blk 96 1, [some (.ref 0), some (.int c), some (.int (nI (6 - n)))], [], (hp sc I o t)) Q ↔ Q (.inl (some (.int (sy_fold (fun v c => sv_max c (sy_die I (3 + (5 + v)))) n c)))) (hp sc I o t) := by
  induction n with
  | zero =>
    intro hn c
    rw [mM_96.2.2.1]
    simp +decide only [mM_96.1, mM_96.2.1, mM_96.2.2.2, cR, cH, Nat.sub_zero, cV66, sy_fold, ↓reduceIte]
  | succ n ih =>
    intro hn c
    have hk : 5 - n < 6 := by omega
    have e1 : 6 - (n + 1) = 5 - n := by omega
    have e2 : 5 - n + 1 = 6 - n := by omega
    rw [mM_96.2.2.1, e1]
    have e3 : ∀ x y : Int32, (if x < y then y else x) = sv_max x y := fun _ _ => rfl
    simp +decide only [mM_96.1, mM_96.2.1, mM_96.2.2.2, cR, cH, mm_fixA, mm_fixB, mm_syn s3, mm_synV s3 hk, cV hk, cV6 hk, e2, e3, c29' (mm_synV s3 hk).1, ih (by omega), sy_fold, ↓reduceIte]
theorem c96 : mm_C (mm_entry 96 [.ref 0] (hp sc I o t)) Q ↔ Q (.inl (some (.int (sy_fold (fun v c => sv_max c (sy_die I (3 + (5 + v)))) 6 0)))) (hp sc I o t) := by
  have e1 := c96_n (sc := sc) (o := o) (t := t) (Q := Q) (I := I) 6 (by omega) (c := 0)
  have e2 : nI (6 - 6) = 0 := rfl
  rw [e2] at e1
  simp +decide only [mM_96.1, mM_96.2.1, mM_96.2.2.2, cR, cH, e1]
def sy_cnt (I : Nat → Nat → Int32) (a : Nat) : Int32 := sy_fold (fun v c => if I (a + (5 + v)) 1 = 0 then c else c + 1) 6 0
theorem c20' : mm_C (mm_entry 20 [.ref 3] (hp sc I o t)) Q ↔ Q (.inl (some (.int (sy_cnt I 3)))) (hp sc I o t) := c20 s3
def sy_save (I : Nat → Nat → Int32) (s : Nat) : Nat → Nat → Int32 := mm_up (sy_copy I (184 + 11 * s) 3) 171 (mm_up (sy_copy I (184 + 11 * s) 3 171) s 1)
theorem c99 (h5 : mm_b01 (I 3 5)) (h6 : mm_b01 (I 3 6)) {v : Int32} : mm_C (mm_entry 99 [.ref 0, .int v] (hp sc I o t)) Q ↔ if ¬ v < 0 ∧ v < 2 then Q (.inl (some (.int (sy_cnt (sy_save I v.toNatClampNeg) 3)))) (hp sc (sy_save I v.toNatClampNeg) o t) else Q (.inr 0) (hp sc I o (t + 1)) := by
  have q1 := fun (Q : mm_Q) => c19 (sc := sc) (o := o) (t := t) (Q := Q) (I := I) s184 s3 (by decide) h5 h6
  have q2 := fun (Q : mm_Q) => c19 (sc := sc) (o := o) (t := t) (Q := Q) (I := I) s195 s3 (by decide) h5 h6
  by_cases h : ¬ v < 0 ∧ v < 2
  · obtain ⟨j, hj, rfl⟩ := cJ (n := 2) (by omega) h.1 h.2
    rw [if_pos h]
    match j, hj with
    | 0, _ =>
      have h : ¬ (0 : Int32) < 0 ∧ (0 : Int32) < 2 := h
      show mm_C (mm_entry 99 [.ref 0, .int 0] (hp sc I o t)) Q ↔ Q (.inl (some (.int (sy_cnt (mm_up (sy_copy I 184 3) 171 (mm_up (sy_copy I 184 3 171) 0 1)) 3)))) (hp sc (mm_up (sy_copy I 184 3) 171 (mm_up (sy_copy I 184 3 171) 0 1)) o t)
      simp +decide only [mM_99, cR, cH, mm_fixA, mm_fixB, mm_is3, (mm_syn s184).1.1, cN, cb01, c103, q1, c20', if_pos h, ↓reduceIte]
    | 1, _ =>
      have h : ¬ (1 : Int32) < 0 ∧ (1 : Int32) < 2 := h
      show mm_C (mm_entry 99 [.ref 0, .int 1] (hp sc I o t)) Q ↔ Q (.inl (some (.int (sy_cnt (mm_up (sy_copy I 195 3) 171 (mm_up (sy_copy I 195 3 171) 1 1)) 3)))) (hp sc (mm_up (sy_copy I 195 3) 171 (mm_up (sy_copy I 195 3 171) 1 1)) o t)
      simp +decide only [mM_99, cR, cH, mm_fixA, mm_fixB, mm_is3, (mm_syn s195).1.1, cN, cb01, c103, q2, c20', if_pos h, ↓reduceIte]
  · rw [if_neg h]
    simp +decide only [mM_99, cR, cH, mm_fixA, mm_fixB, c103, if_neg h, ↓reduceIte]
def sy_rest (I : Nat → Nat → Int32) (s : Nat) : Nat → Nat → Int32 := mm_up (sy_copy I 3 (184 + 11 * s)) 14 (mm_up (mm_up (sy_copy I 3 (184 + 11 * s) 14) 1 0) 2 0)
theorem c100 (h5 : ∀ s, s < 2 → mm_b01 (I (184 + 11 * s) 5)) (h6 : ∀ s, s < 2 → mm_b01 (I (184 + 11 * s) 6)) {v : Int32} : mm_C (mm_entry 100 [.ref 0, .int v] (hp sc I o t)) Q ↔ if ¬ v < 0 ∧ v < 2 then (if ¬ I 171 v.toNatClampNeg = 0 then Q (.inl (some (.int (sy_cnt (sy_rest I v.toNatClampNeg) 3)))) (hp sc (sy_rest I v.toNatClampNeg) o t) else Q (.inr 2) (hp sc I o (t + 1))) else Q (.inr 0) (hp sc I o (t + 1)) := by
  have q1 := fun (Q : mm_Q) => c19 (sc := sc) (o := o) (t := t) (Q := Q) (I := I) s3 s184 (by decide) (h5 0 (by decide)) (h6 0 (by decide))
  have q2 := fun (Q : mm_Q) => c19 (sc := sc) (o := o) (t := t) (Q := Q) (I := I) s3 s195 (by decide) (h5 1 (by decide)) (h6 1 (by decide))
  by_cases h : ¬ v < 0 ∧ v < 2
  · obtain ⟨j, hj, rfl⟩ := cJ (n := 2) (by omega) h.1 h.2
    rw [if_pos h]
    match j, hj with
    | 0, _ =>
      have h : ¬ (0 : Int32) < 0 ∧ (0 : Int32) < 2 := h
      show mm_C (mm_entry 100 [.ref 0, .int 0] (hp sc I o t)) Q ↔ if ¬ I 171 0 = 0 then Q (.inl (some (.int (sy_cnt (mm_up (sy_copy I 3 184) 14 (mm_up (mm_up (sy_copy I 3 184 14) 1 0) 2 0)) 3)))) (hp sc (mm_up (sy_copy I 3 184) 14 (mm_up (mm_up (sy_copy I 3 184 14) 1 0) 2 0)) o t) else Q (.inr 2) (hp sc I o (t + 1))
      by_cases h2 : I 171 0 = 0 <;> simp +decide only [mM_100, cR, cH, mm_fixA, mm_fixB, mm_is3, (mm_syn s184).1.1, cN, c103, c1, q1, c20', if_pos h, h2, ↓reduceIte]
    | 1, _ =>
      have h : ¬ (1 : Int32) < 0 ∧ (1 : Int32) < 2 := h
      show mm_C (mm_entry 100 [.ref 0, .int 1] (hp sc I o t)) Q ↔ if ¬ I 171 1 = 0 then Q (.inl (some (.int (sy_cnt (mm_up (sy_copy I 3 195) 14 (mm_up (mm_up (sy_copy I 3 195 14) 1 0) 2 0)) 3)))) (hp sc (mm_up (sy_copy I 3 195) 14 (mm_up (mm_up (sy_copy I 3 195 14) 1 0) 2 0)) o t) else Q (.inr 2) (hp sc I o (t + 1))
      by_cases h2 : I 171 1 = 0 <;> simp +decide only [mM_100, cR, cH, mm_fixA, mm_fixB, mm_is3, (mm_syn s195).1.1, cN, c103, c1, q2, c20', if_pos h, h2, ↓reduceIte]
  · rw [if_neg h]
    simp +decide only [mM_100, cR, cH, mm_fixA, mm_fixB, c103, if_neg h, ↓reduceIte]
end VU
