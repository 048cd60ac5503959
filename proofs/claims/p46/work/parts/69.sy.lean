/-! what the synth's changes leave alone; the class's load -/
section XA
variable {sc : Nat × (Nat → Int32)} {I : Nat → Nat → Int32} {o : Int64} {t : Nat} {Q : mm_Q}
theorem fr_begin {a b : Nat} (I : Nat → Nat → Int32) (k : Int32) {x : Nat} (ha : ¬ x = a) (hb : ¬ x = b) : sy_begin I a b k x = I x := by
  unfold sy_begin
  split
  · rw [mm_up_n _ _ hb, mm_up_n _ _ ha]
  · rfl
theorem sy_c_le {n : Int32} (h : n = -1 ∨ ∃ j, j < 6 ∧ n = nI j) : n.toNatClampNeg < 6 := by
  rcases h with rfl | ⟨j, hj, rfl⟩
  · decide
  · rw [(cV hj).2.1]; exact hj
theorem fr_strike {a : Nat} (I : Nat → Nat → Int32) (k s : Int32) {x : Nat} (h : ¬ (a ≤ x ∧ x < a + 11)) : (sy_strike I a k s).2 x = I x := by
  have h0 : sy_press I a k s x = I x := by
    unfold sy_press
    rw [mm_up_n _ _ (show ¬ x = a + 4 by omega), mm_up_n _ _ (show ¬ x = a by omega), mm_up_n _ _ (show ¬ x = a + 3 by omega)]
  unfold sy_strike sy_strikeJ
  split
  · split
    · unfold sy_stealFor
      split
      · show mm_up _ a _ x = _
        rw [mm_up_n _ _ (show ¬ x = a by omega), h0]
      · have := sy_c_le (sy_steal_c (sy_press I a k s) a)
        show sy_begin _ a _ k x = _
        rw [fr_begin _ _ (by omega) (by omega), mm_up_n _ _ (show ¬ x = a by omega), h0]
    · have := sy_c_le (sy_fr_c (sy_press I a k s) a)
      show sy_begin _ a _ k x = _
      rw [fr_begin _ _ (by omega) (by omega), h0]
  · have := sy_c_le (sy_own_c (sy_press I a k s) a k)
    show mm_up _ _ _ x = _
    rw [mm_up_n _ _ (by omega), h0]
theorem fr_release {a : Nat} (I : Nat → Nat → Int32) (k : Int32) {x : Nat} (h : ¬ (a ≤ x ∧ x < a + 11)) : (sy_release I a k).2 x = I x := by
  have h0 : sy_rel I a k x = I x := by
    unfold sy_rel
    rw [mm_up_n _ _ (show ¬ x = a + 3 by omega)]
  unfold sy_release sy_releaseJ
  split
  · have := sy_c_le (sy_own_c (sy_rel I a k) a k)
    show mm_up _ _ _ x = _
    rw [mm_up_n _ _ (by omega), h0]
  · exact h0
theorem fr_pd {a : Nat} (n : Nat) (hn : n ≤ 6) : ∀ (I : Nat → Nat → Int32) (c : Int32) {x : Nat} (_ : ¬ (a ≤ x ∧ x < a + 11)), (sy_pd a n I c).2 x = I x := by
  induction n with
  | zero => intro I c x h; rfl
  | succ n ih =>
    intro I c x h
    unfold sy_pd
    split
    · rw [ih (by omega) _ _ h, mm_up_n _ _ (by omega)]
    · exact ih (by omega) _ _ h
theorem fr_pedal {a : Nat} (I : Nat → Nat → Int32) (d : Int32) {x : Nat} (h : ¬ (a ≤ x ∧ x < a + 11)) : (sy_pedal I a d).2 x = I x := by
  unfold sy_pedal
  split
  · rw [fr_pd 6 (by omega) _ _ h, mm_up_n _ _ (by omega)]
  · show mm_up _ a _ x = _
    rw [mm_up_n _ _ (by omega)]
theorem fr_br {a : Nat} (n : Nat) : ∀ (I : Nat → Nat → Int32) {x : Nat} (_ : ¬ (a ≤ x ∧ x < a + 11)), sy_br a n I x = I x := by
  induction n with
  | zero => intro I x h; rfl
  | succ n ih =>
    intro I x h
    unfold sy_br
    split
    · rfl
    · split
      · rfl
      · have := sy_c_le (sy_fr_c I a)
        rw [ih _ h, fr_begin _ _ (by omega) (by omega)]
theorem fr_tk {a : Nat} (n : Nat) (hn : n ≤ 6) : ∀ (I : Nat → Nat → Int32) {x : Nat} (_ : ¬ (a ≤ x ∧ x < a + 11)), sy_tk a n I x = I x := by
  induction n with
  | zero => intro I x h; rfl
  | succ n ih =>
    intro I x h
    unfold sy_tk
    rw [ih (by omega) _ h]
    split
    · rw [mm_up_n _ _ (by omega)]
    · rw [mm_up_n _ _ (by omega), mm_up_n _ _ (by omega)]
theorem fr_tick {a : Nat} (I : Nat → Nat → Int32) {x : Nat} (h : ¬ (a ≤ x ∧ x < a + 11)) : sy_tick I a x = I x := by
  unfold sy_tick
  split
  · rw [fr_tk 6 (by omega) _ h, mm_up_n _ _ (by omega)]
  · rw [fr_br 6 _ h, fr_tk 6 (by omega) _ h, mm_up_n _ _ (by omega)]
theorem fr_run {a : Nat} (n : Nat) : ∀ (I : Nat → Nat → Int32) {x : Nat} (_ : ¬ (a ≤ x ∧ x < a + 11)), sy_run a n I x = I x := by
  induction n with
  | zero => intro I x h; rfl
  | succ n ih =>
    intro I x h
    unfold sy_run
    rw [ih _ h, fr_tick _ h]
theorem fr_mk {a : Nat} (n : Nat) (hn : n ≤ 6) : ∀ (I : Nat → Nat → Int32) {x : Nat} (_ : ¬ (a ≤ x ∧ x < a + 11)), sy_mk a n I x = I x := by
  induction n with
  | zero => intro I x h; rfl
  | succ n ih =>
    intro I x h
    unfold sy_mk
    rw [ih (by omega) _ h, mm_up_n _ _ (by omega)]
theorem fr_zk {a : Nat} (n : Nat) : ∀ (I : Nat → Nat → Int32) {x : Nat} (_ : ¬ x = a + 3) (_ : ¬ x = a + 4), sy_zk a n I x = I x := by
  induction n with
  | zero => intro I x h h2; rfl
  | succ n ih =>
    intro I x h h2
    unfold sy_zk
    rw [ih _ h h2, mm_up_n _ _ h2, mm_up_n _ _ h]
theorem fr_new {a : Nat} (I : Nat → Nat → Int32) {x : Nat} (h : ¬ (a ≤ x ∧ x < a + 11)) : sy_new I a x = I x := by
  unfold sy_new sy_new2
  rw [mm_up_n _ _ (by omega), fr_zk 60 _ (by omega) (by omega), mm_up_n _ _ (by omega), fr_mk 6 (by omega) _ h]
/-- the numbers of a command -/
def cm_key (T : Nat → Int32) (p : Nat) : Int32 := 10 * (T p - 48) + (T (p + 1) - 48)
def cm_force (T : Nat → Int32) (p : Nat) : Int32 := 100 * (T p - 48) + 10 * (T (p + 1) - 48) + (T (p + 1 + 1) - 48)
theorem cm_1 (a : Int32) : 10 * 0 + a = a := by rw [Int32.mul_zero, Int32.zero_add]
theorem cm_3 (a b c : Int32) : 10 * (10 * a + b) + c = 100 * a + 10 * b + c := by
  rw [Int32.mul_add, ← Int32.mul_assoc, show (10 : Int32) * 10 = 100 by decide]
theorem pe_key_ok' {T : Nat → Int32} {L p : Nat} (hpp : p ≤ 200) (h : pe_key T L p = -1) : p + 1 < L ∧ ∃ k, k < 60 ∧ cm_key T p = nI k := by
  obtain ⟨h1, h2⟩ := pe_key_ok hpp h
  exact ⟨(dg_p h2).1, key_num h1 h2⟩
theorem neN {n : Nat} (hn : n < 2 ^ 31) : ¬ nI n = -1 := fun e => by
  have := congrArg Int32.toInt e
  rw [nI_toInt hn, show (-1 : Int32).toInt = -1 by decide] at this
  omega
theorem pe_tick_ok {T : Nat → Int32} {L p : Nat} (hpp : p ≤ 200) (h : pe_tick T L p = -1) : dg T L p 0 9 = true ∧ dg T L (p + 1) (if T p - 48 = 0 then 1 else 0) 9 = true := by
  unfold pe_tick at h
  by_cases h1 : dg T L p 0 9 = true
  · rw [if_pos h1] at h
    by_cases h2 : dg T L (p + 1) (if T p - 48 = 0 then 1 else 0) 9 = true
    · exact ⟨h1, h2⟩
    · rw [if_neg h2] at h
      exact absurd h (neN (by omega))
  · rw [if_neg h1] at h
    exact absurd h (neN (by omega))
theorem pe_rule_ok {T : Nat → Int32} {L p : Nat} (hpp : p ≤ 200) (h : pe_rule T L p = -1) : dg T L p 0 3 = true := by
  unfold pe_rule at h
  by_cases h1 : dg T L p 0 3 = true
  · exact h1
  · rw [if_neg h1] at h
    exact absurd h (neN (by omega))
theorem pe_force_ok {T : Nat → Int32} {L p : Nat} (hpp : p ≤ 200) (h : pe_force T L p = -1) : dg T L p 0 1 = true ∧ dg T L (p + 1) 0 (if T p - 48 = 1 then 0 else 9) = true ∧ dg T L (p + 1 + 1) (if (T p - 48) + (T (p + 1) - 48) = 0 then 1 else 0) (if T p - 48 = 1 then 0 else 9) = true := by
  unfold pe_force at h
  by_cases h1 : dg T L p 0 1 = true
  · rw [if_pos h1] at h
    by_cases h2 : dg T L (p + 1) 0 (if T p - 48 = 1 then 0 else 9) = true
    · rw [if_pos h2] at h
      by_cases h3 : dg T L (p + 1 + 1) (if (T p - 48) + (T (p + 1) - 48) = 0 then 1 else 0) (if T p - 48 = 1 then 0 else 9) = true
      · exact ⟨h1, h2, h3⟩
      · rw [if_neg h3] at h
        exact absurd h (neN (by omega))
    · rw [if_neg h2] at h
      exact absurd h (neN (by omega))
  · rw [if_neg h1] at h
    exact absurd h (neN (by omega))
theorem tick_num {T : Nat → Int32} {L p : Nat} (h : pe_tick T L p = -1) (hpp : p ≤ 200) : p + 1 < L ∧ ∃ k, 1 ≤ k ∧ k ≤ 99 ∧ cm_key T p = nI k := by
  obtain ⟨h1, h2⟩ := pe_tick_ok hpp h
  obtain ⟨j, hj, a1⟩ := dg_j h1 (Or.inl rfl) (n := 9) (by omega) rfl
  have hb := (dg_p h2).1
  refine ⟨hb, ?_⟩
  unfold cm_key
  rw [a1] at h2 ⊢
  obtain ⟨i, hi, a2⟩ := dg_j h2 (by split; exact Or.inr rfl; exact Or.inl rfl) (n := 9) (by omega) rfl
  obtain ⟨-, d3, -⟩ := dg_p h2
  rw [a2] at d3 ⊢
  refine ⟨10 * j + i, ?_, by omega, by rw [show (10 : Int32) = nI 10 from rfl, nJ_mul, nI_add]⟩
  by_cases hj0 : j = 0
  · subst hj0
    rw [if_pos (show nI 0 = 0 from rfl), show (1 : Int32) = nI 1 from rfl, nJ_lt (by omega) (by omega)] at d3
    omega
  · omega
def sc_cmd (I : Nat → Nat → Int32) (T : Nat → Int32) (p : Nat) : Int32 × (Nat → Nat → Int32) :=
  if T p = 112 then (if sy_dn (I (3 + 3)) (cm_key T (p + 1)) = true then (0, I) else (1, (sy_strike I 3 (cm_key T (p + 1)) (cm_force T (p + 3))).2))
  else if T p = 114 then (if sy_dn (I (3 + 3)) (cm_key T (p + 1)) = true then (1, (sy_release I 3 (cm_key T (p + 1))).2) else (0, I))
  else if T p = 116 then (1, sy_run 3 (cm_key T (p + 1)).toNatClampNeg I)
  else if T p = 115 then (1, mm_up I 3 (mm_up (I 3) 7 (T (p + 1) - 48)))
  else if T p = 100 then (1, (sy_pedal I 3 1).2)
  else (1, (sy_pedal I 3 0).2)
theorem sc_cmd_o (I : Nat → Nat → Int32) (T : Nat → Int32) (p : Nat) {x : Nat} (h : ¬ (3 ≤ x ∧ x < 14)) : (sc_cmd I T p).2 x = I x := by
  unfold sc_cmd
  split
  · split
    · rfl
    · exact fr_strike I _ _ h
  · split
    · split
      · exact fr_release I _ h
      · rfl
    · split
      · exact fr_run _ I h
      · split
        · exact mm_up_n _ _ (by omega)
        · split
          · exact fr_pedal I 1 h
          · exact fr_pedal I 0 h
theorem c60_sw : mm_sw 100 [7, 3, 7, 7, 7, 7, 7, 7, 7, 7, 7, 7, 7, 1, 7, 2, 6, 5, 4] 112 = 1 ∧ mm_sw 100 [7, 3, 7, 7, 7, 7, 7, 7, 7, 7, 7, 7, 7, 1, 7, 2, 6, 5, 4] 114 = 2 ∧ mm_sw 100 [7, 3, 7, 7, 7, 7, 7, 7, 7, 7, 7, 7, 7, 1, 7, 2, 6, 5, 4] 116 = 5 ∧ mm_sw 100 [7, 3, 7, 7, 7, 7, 7, 7, 7, 7, 7, 7, 7, 1, 7, 2, 6, 5, 4] 115 = 6 ∧ mm_sw 100 [7, 3, 7, 7, 7, 7, 7, 7, 7, 7, 7, 7, 7, 1, 7, 2, 6, 5, 4] 100 = 3 ∧ mm_sw 100 [7, 3, 7, 7, 7, 7, 7, 7, 7, 7, 7, 7, 7, 1, 7, 2, 6, 5, 4] 117 = 4 := by decide
theorem c60 (hch : ∀ j, j < 120 → ((I 2 j).toUInt32 % 65536).toInt32 = I 2 j) {L : Nat} (hL : I 1 1 = nI L) (hL2 : L ≤ 120) {p : Nat} (hpL : p < L) (hv : pe_cmd (I 2) L p = -1) : mm_C (mm_entry 60 [.ref 0, .int (nI p)] (hp sc I o t)) Q ↔ Q (.inl (some (.int (sc_cmd I (I 2) p).1))) (hp sc (sc_cmd I (I 2) p).2 o t) := by
  unfold pe_cmd at hv
  unfold sc_cmd
  have e1 : nI p + 1 = nI (p + 1) := nI_1 p
  have e3 : nI p + 3 = nI (p + 3) := nI_add p 3
  by_cases h1 : I 2 p = 112
  · rw [if_pos h1] at hv ⊢
    have hk : pe_key (I 2) L (p + 1) = -1 := Classical.byContradiction fun h => by
      rw [if_neg h] at hv; exact h hv
    rw [if_pos hk] at hv
    obtain ⟨b1, k, hk1, ek⟩ := pe_key_ok' (by omega) hk
    obtain ⟨-, -, f3⟩ := pe_force_ok (by omega) hv
    have b2 := (dg_p f3).1
    have n1 : ∀ (Q : mm_Q), mm_C (mm_entry 13 [.ref 1, .int (nI (p + 1)), .int 2] (hp sc I o t)) Q ↔ Q (.inl (some (.int (nI k)))) (hp sc I o t) := fun Q => by
      rw [c13_2 hch hL hL2 b1, cm_1, ← ek]; rfl
    have n2 : ∀ (Q : mm_Q), mm_C (mm_entry 13 [.ref 1, .int (nI (p + 3)), .int 3] (hp sc I o t)) Q ↔ Q (.inl (some (.int (cm_force (I 2) (p + 3))))) (hp sc I o t) := fun Q => by
      rw [c13_3 hch hL hL2 b2, cm_1, cm_3]; rfl
    have c34' := fun (Q : mm_Q) (w : Int32) => c34 (sc := sc) (I := I) (o := o) (t := t) (Q := Q) s3 (k := nI k) (s := w) (nI_pos (by omega)) (nI_lt (b := 60) hk1 (by omega))
    rw [ek]
    by_cases hd : sy_dn (I (3 + 3)) (nI k) = true
    · simp only [if_pos hd] at c34' ⊢
      simp +decide only [mM_60.1, mM_60.2.1, mM_60.2.2.1, mM_60.2.2.2.1, mM_60.2.2.2.2.1, mM_60.2.2.2.2.2.1, mM_60.2.2.2.2.2.2.1, mM_60.2.2.2.2.2.2.2.1, mM_60.2.2.2.2.2.2.2.2, cR, cH, mm_fixA, mm_fixB, mm_is3, c8' hch hL hL2 hpL, h1, c60_sw, e1, e3, n1, n2, c34', ↓reduceIte]
    · simp only [if_neg hd] at c34' ⊢
      simp +decide only [mM_60.1, mM_60.2.1, mM_60.2.2.1, mM_60.2.2.2.1, mM_60.2.2.2.2.1, mM_60.2.2.2.2.2.1, mM_60.2.2.2.2.2.2.1, mM_60.2.2.2.2.2.2.2.1, mM_60.2.2.2.2.2.2.2.2, cR, cH, mm_fixA, mm_fixB, mm_is3, c8' hch hL hL2 hpL, h1, c60_sw, e1, e3, n1, n2, c34', ↓reduceIte]
  rw [if_neg h1] at hv ⊢
  by_cases h2 : I 2 p = 114
  · rw [if_pos h2] at hv ⊢
    obtain ⟨b1, k, hk1, ek⟩ := pe_key_ok' (by omega) hv
    have n1 : ∀ (Q : mm_Q), mm_C (mm_entry 13 [.ref 1, .int (nI (p + 1)), .int 2] (hp sc I o t)) Q ↔ Q (.inl (some (.int (nI k)))) (hp sc I o t) := fun Q => by
      rw [c13_2 hch hL hL2 b1, cm_1, ← ek]; rfl
    have c35' := fun (Q : mm_Q) => c35 (sc := sc) (I := I) (o := o) (t := t) (Q := Q) s3 (k := nI k) (nI_pos (by omega)) (nI_lt (b := 60) hk1 (by omega))
    rw [ek]
    by_cases hd : sy_dn (I (3 + 3)) (nI k) = true
    · simp only [if_pos hd] at c35' ⊢
      simp +decide only [mM_60.1, mM_60.2.1, mM_60.2.2.1, mM_60.2.2.2.1, mM_60.2.2.2.2.1, mM_60.2.2.2.2.2.1, mM_60.2.2.2.2.2.2.1, mM_60.2.2.2.2.2.2.2.1, mM_60.2.2.2.2.2.2.2.2, cR, cH, mm_fixA, mm_fixB, mm_is3, c8' hch hL hL2 hpL, h2, c60_sw, e1, e3, n1, c35', ↓reduceIte]
    · simp only [if_neg hd] at c35' ⊢
      simp +decide only [mM_60.1, mM_60.2.1, mM_60.2.2.1, mM_60.2.2.2.1, mM_60.2.2.2.2.1, mM_60.2.2.2.2.2.1, mM_60.2.2.2.2.2.2.1, mM_60.2.2.2.2.2.2.2.1, mM_60.2.2.2.2.2.2.2.2, cR, cH, mm_fixA, mm_fixB, mm_is3, c8' hch hL hL2 hpL, h2, c60_sw, e1, e3, n1, c35', ↓reduceIte]
  rw [if_neg h2] at hv ⊢
  by_cases h3 : I 2 p = 116
  · rw [if_pos h3] at hv ⊢
    obtain ⟨b1, k, hk1, hk2, ek⟩ := tick_num hv (by omega)
    have n1 : ∀ (Q : mm_Q), mm_C (mm_entry 13 [.ref 1, .int (nI (p + 1)), .int 2] (hp sc I o t)) Q ↔ Q (.inl (some (.int (nI k)))) (hp sc I o t) := fun Q => by
      rw [c13_2 hch hL hL2 b1, cm_1, ← ek]; rfl
    rw [ek, nI_clamp (show k < 2 ^ 31 by omega)]
    simp +decide only [mM_60.1, mM_60.2.1, mM_60.2.2.1, mM_60.2.2.2.1, mM_60.2.2.2.2.1, mM_60.2.2.2.2.2.1, mM_60.2.2.2.2.2.2.1, mM_60.2.2.2.2.2.2.2.1, mM_60.2.2.2.2.2.2.2.2, cR, cH, mm_fixA, mm_fixB, mm_is3, c8' hch hL hL2 hpL, h3, c60_sw, e1, e3, n1, c41 s3 hk2, ↓reduceIte]
  rw [if_neg h3] at hv ⊢
  by_cases h4 : I 2 p = 115
  · rw [if_pos h4] at hv ⊢
    have b1 := (dg_p (pe_rule_ok (by omega) hv)).1
    have n1 : ∀ (Q : mm_Q), mm_C (mm_entry 13 [.ref 1, .int (nI (p + 1)), .int 1] (hp sc I o t)) Q ↔ Q (.inl (some (.int (I 2 (p + 1) - 48)))) (hp sc I o t) := fun Q => by
      rw [c13_1 hch hL hL2 b1, cm_1]
    simp +decide only [mM_60.1, mM_60.2.1, mM_60.2.2.1, mM_60.2.2.2.1, mM_60.2.2.2.2.1, mM_60.2.2.2.2.2.1, mM_60.2.2.2.2.2.2.1, mM_60.2.2.2.2.2.2.2.1, mM_60.2.2.2.2.2.2.2.2, cR, cH, mm_fixA, mm_fixB, mm_is3, c8' hch hL hL2 hpL, h4, c60_sw, e1, e3, n1, ↓reduceIte]
  rw [if_neg h4] at hv ⊢
  by_cases h5 : I 2 p = 100
  · rw [if_pos h5]
    simp +decide only [mM_60.1, mM_60.2.1, mM_60.2.2.1, mM_60.2.2.2.1, mM_60.2.2.2.2.1, mM_60.2.2.2.2.2.1, mM_60.2.2.2.2.2.2.1, mM_60.2.2.2.2.2.2.2.1, mM_60.2.2.2.2.2.2.2.2, cR, cH, mm_fixA, mm_fixB, mm_is3, c8' hch hL hL2 hpL, h5, c60_sw, c40 s3 cb01.2, ↓reduceIte]
  rw [if_neg h5]
  have h6 : I 2 p = 117 := Classical.byContradiction fun h6 => by
    rw [if_neg (fun h => h.elim h5 h6)] at hv
    exact neN (by omega) hv
  simp +decide only [mM_60.1, mM_60.2.1, mM_60.2.2.1, mM_60.2.2.2.1, mM_60.2.2.2.2.1, mM_60.2.2.2.2.2.1, mM_60.2.2.2.2.2.2.1, mM_60.2.2.2.2.2.2.2.1, mM_60.2.2.2.2.2.2.2.2, cR, cH, mm_fixA, mm_fixB, mm_is3, c8' hch hL hL2 hpL, h6, c60_sw, c40 s3 cb01.1, ↓reduceIte]
/-- the commands from a place on -/
def sc_play (T : Nat → Int32) (L : Nat) : Nat → Nat → (Nat → Nat → Int32) → Int32 → Int32 × (Nat → Nat → Int32)
  | 0, _, I, l => (l, I)
  | n + 1, p, I, l => if p < L then sc_play T L n (p + pc_ln (T p)) (sc_cmd I T p).2 (if (sc_cmd I T p).1 = 0 then l + 1 else l) else (l, I)
theorem c59_n {T : Nat → Int32} (hch : ∀ j, j < 120 → ((T j).toUInt32 % 65536).toInt32 = T j) {L : Nat} (hL2 : L ≤ 120) (n : Nat) : ∀ (hn : n ≤ 120) {I : Nat → Nat → Int32} {p : Nat} {l : Int32} (hT : I 2 = T) (hL : I 1 1 = nI L) (hpp : p ≤ 1000 - 6 * n) (hv : pe_all T L n p = -1), mm_C (59, mm_blk 59 4, [some (.ref 0), some (.int l), some (.int (nI p)), some (.int (nI (120 - n)))], [], (hp sc I o t)) Q ↔ Q (.inl (some (.int (sc_play T L n p I l).1))) (hp sc (sc_play T L n p I l).2 o t) := by
  induction n with
  | zero =>
    intro hn I p l hT hL hpp hv
    have e : nI 120 = 120 := rfl
    rw [mM_59.2.2.2.2.2.1]
    simp +decide only [mM_59.1, mM_59.2.1, mM_59.2.2.1, mM_59.2.2.2.1, mM_59.2.2.2.2.1, mM_59.2.2.2.2.2.2.1, mM_59.2.2.2.2.2.2.2, cR, cH, Nat.sub_zero, e, sc_play, ↓reduceIte]
  | succ n ih =>
    intro hn I p l hT hL hpp hv
    have hch' : ∀ j, j < 120 → ((I 2 j).toUInt32 % 65536).toInt32 = I 2 j := by rw [hT]; exact hch
    have e1 : 120 - (n + 1) = 119 - n := by omega
    have e2 : nI (119 - n) + 1 = nI (120 - n) := by rw [nI_1]; congr 1; omega
    have e3 : nI (119 - n) < 120 := nI_lt (b := 120) (by omega) (by omega)
    unfold pe_all at hv
    unfold sc_play
    rw [mM_59.2.2.2.2.2.1, e1]
    by_cases h1 : p < L
    · rw [if_pos h1] at hv
      have hv1 : pe_cmd T L p = -1 := Classical.byContradiction fun h => by
        rw [if_neg h] at hv; exact h hv
      rw [if_pos hv1] at hv
      have h2 : nI p < nI L := nI_lt h1 (by omega)
      obtain ⟨l1, l2, l3⟩ := pc_ln_c (T p)
      have o2 : (sc_cmd I T p).2 2 = T := by rw [sc_cmd_o _ _ _ (by omega), hT]
      have o1 : (sc_cmd I T p).2 1 = I 1 := sc_cmd_o _ _ _ (by omega)
      have ih1 := fun (l : Int32) => ih (by omega) (I := (sc_cmd I T p).2) (p := p + pc_ln (T p)) (l := l) o2 (by rw [o1]; exact hL) (by omega) hv
      have hc := fun (Q : mm_Q) => c60 (sc := sc) (o := o) (t := t) (Q := Q) (I := I) hch' hL hL2 h1 (by rw [hT]; exact hv1)
      have hl := fun (Q : mm_Q) => c10' (sc := sc) (o := o) (t := t) (Q := Q) (I := (sc_cmd I T p).2) (by rw [o2]; exact hch) (L := L) (by rw [o1]; exact hL) hL2 h1
      rw [hT] at hc
      rw [o2, l1] at hl
      by_cases h3 : (sc_cmd I T p).1 = 0 <;> simp +decide only [mM_59.1, mM_59.2.1, mM_59.2.2.1, mM_59.2.2.2.1, mM_59.2.2.2.2.1, mM_59.2.2.2.2.2.2.1, mM_59.2.2.2.2.2.2.2, cR, cH, mm_fixA, mm_fixB, e2, e3, hL, h1, h2, hc, hl, nI_add, h3, ih1, ↓reduceIte]
    · have h2 : ¬ nI p < nI L := nI_nlt (by omega) (by omega)
      simp +decide only [mM_59.1, mM_59.2.1, mM_59.2.2.1, mM_59.2.2.2.1, mM_59.2.2.2.2.1, mM_59.2.2.2.2.2.2.1, mM_59.2.2.2.2.2.2.2, cR, cH, mm_fixA, mm_fixB, e2, e3, hL, h1, h2, ↓reduceIte]
def sc_ld0 (I : Nat → Nat → Int32) : Nat → Nat → Int32 := mm_up (mm_up (sy_new I 3) 14 (mm_up (mm_up (sy_new I 3 14) 1 0) 2 0)) 171 (mm_up (mm_up (sy_new I 3 171) 0 0) 1 0)
theorem c59 (hch : ∀ j, j < 120 → ((I 2 j).toUInt32 % 65536).toInt32 = I 2 j) {L : Nat} (hL : I 1 1 = nI L) (hL2 : L ≤ 120) : mm_C (mm_entry 59 [.ref 0] (hp sc I o t)) Q ↔ if pe_err (I 2) L = -1 then Q (.inl (some (.int (sc_play (I 2) L 120 1 (sc_ld0 I) 0).1))) (hp sc (sc_play (I 2) L 120 1 (sc_ld0 I) 0).2 o t) else Q (.inr 2) (hp sc I o (t + 1)) := by
  by_cases h : pe_err (I 2) L = -1
  · rw [if_pos h]
    have hv : pe_all (I 2) L 120 1 = -1 := by
      unfold pe_err at h
      by_cases h1 : 0 < L ∧ I 2 0 = 86
      · rw [if_pos h1] at h; exact h
      · rw [if_neg h1] at h; exact absurd h (by decide)
    have o2 : sc_ld0 I 2 = I 2 := by
      unfold sc_ld0
      rw [mm_up_n _ _ (by decide), mm_up_n _ _ (by decide), fr_new I (by omega)]
    have o1 : sc_ld0 I 1 = I 1 := by
      unfold sc_ld0
      rw [mm_up_n _ _ (by decide), mm_up_n _ _ (by decide), fr_new I (by omega)]
    have hc := c59_n (sc := sc) (o := o) (t := t) (Q := Q) hch hL2 120 (Nat.le_refl _) (I := sc_ld0 I) (p := 1) (l := 0) o2 (by rw [o1]; exact hL) (by omega) hv
    have e0 : nI (120 - 120) = 0 := rfl
    have e1 : nI 1 = 1 := rfl
    rw [e0, e1] at hc
    unfold sc_ld0 at hc
    have i0 : mm_in (0 : Int32) 2 = true ∧ mm_in (1 : Int32) 2 = true := by decide
    simp +decide only [mM_59.1, mM_59.2.1, mM_59.2.2.1, mM_59.2.2.2.1, mM_59.2.2.2.2.1, mM_59.2.2.2.2.2.2.1, mM_59.2.2.2.2.2.2.2, cR, cH, mm_fixA, mm_fixB, mm_is3, c9 hch hL hL2, h, c18 s3, c1, cA, cN, i0, cb01, mm_up_s, mm_up_up, mm_up_n, hc, sc_ld0, ↓reduceIte]
  · rw [if_neg h]
    simp +decide only [mM_59.1, mM_59.2.1, mM_59.2.2.1, mM_59.2.2.2.1, mM_59.2.2.2.2.1, mM_59.2.2.2.2.2.2.1, mM_59.2.2.2.2.2.2.2, cR, cH, mm_fixA, mm_fixB, c9 hch hL hL2, h, ↓reduceIte]
end XA
