/-! what holds of a row: keys apart, notes counted, who is kept, the order of presses -/
section KVS
theorem i_lc (a b c : Int32) : a + (b + c) = b + (a + c) := by rw [← Int32.add_assoc, Int32.add_comm a b, Int32.add_assoc]
theorem sy_find_none {P : Nat → Bool} (n : Nat) : n ≤ 6 → sy_find P n = -1 → ∀ v, 6 - n ≤ v → v < 6 → P v = false := by
  induction n with
  | zero => intro _ _ v h1 h2; omega
  | succ n ih =>
    intro hn h v h1 h2
    unfold sy_find at h
    by_cases hP : P (5 - n) = true
    · rw [if_pos hP] at h
      exact absurd h (neN (by omega))
    · rw [if_neg hP] at h
      by_cases e : v = 5 - n
      · subst e; exact Bool.eq_false_iff.mpr hP
      · exact ih (by omega) h v (by omega) h2
theorem sy_find_first {P : Nat → Bool} {j : Nat} (hj : j < 6) (hP : P j = true) (hu : ∀ v, v < 6 → P v = true → v = j) : sy_find P 6 = nI j := by
  rcases sy_find_c P 6 (by omega) with h | ⟨i, hi, h, h2⟩
  · have := sy_find_none 6 (by omega) h j (by omega) hj
    rw [hP] at this; cases this
  · rw [h, hu i hi h2]
theorem mo_voice_none {r : Nat → Int32} {k : Int32} (h : mo_voice r k = -1) {v : Nat} (hv : v < 6) (h0 : 0 < r (5 * v)) : ¬ r (5 * v + 1) = k := fun e => by
  have := sy_find_none 6 (by omega) h v (by omega) hv
  exact (of_decide_eq_false this) ⟨h0, e⟩
theorem smv_up {g g' : Nat → Int32} {j : Nat} (hj : j < 6) (h : ∀ v, v < 6 → ¬ v = j → g' v = g v) (n : Nat) : n ≤ 6 → 6 - n ≤ j → smv g' n + g j = smv g n + g' j := by
  induction n with
  | zero => intro _ h; omega
  | succ n ih =>
    intro hn hn2
    unfold smv
    by_cases e : 5 - n = j
    · have e2 : smv g' n = smv g n := by
        have : ∀ m, m ≤ n → smv g' m = smv g m := by
          intro m
          induction m with
          | zero => intro _; rfl
          | succ m im =>
            intro hm
            unfold smv
            rw [im (by omega), h (5 - m) (by omega) (by omega)]
        exact this n (Nat.le_refl _)
      rw [e, e2]
      rw [Int32.add_comm (g' j), Int32.add_comm (g j), Int32.add_assoc, Int32.add_assoc, Int32.add_comm (g' j)]
    · have h1 := ih (by omega) (by omega)
      rw [h (5 - n) (by omega) e, Int32.add_assoc, h1, Int32.add_assoc]
def usv (r : Nat → Int32) : Nat → Int32 := fun v => if 0 < r (5 * v) then 1 else 0
def KV (E : Nat) (r : Nat → Int32) : Prop :=
  (∀ u v, u < 6 → v < 6 → 0 < r (5 * u) → 0 < r (5 * v) → r (5 * u + 1) = r (5 * v + 1) → u = v) ∧
  r 158 = r 159 + r 160 + smv (usv r) 6 ∧
  (∀ v k, v < 6 → k < 60 → 0 < r (5 * v) → r (5 * v + 1) = nI k → (r (5 * v) = 4 → ¬ 0 < r (30 + 2 * k)) ∧ (¬ r (5 * v) = 4 → ¬ 0 < r (30 + 2 * k) → r 150 = 1)) ∧
  ∃ s b e, r 160 = nI s ∧ r 158 = nI b ∧ r 157 = nI e ∧ s ≤ b ∧ b ≤ e ∧ e ≤ E ∧ ∀ k, k < 60 → ∃ w, w ≤ e ∧ r (30 + 2 * k) = nI w
variable {E : Nat} {r q : Nat → Int32}
theorem KV_B {E' : Nat} (h : KV E r) (hE : E ≤ E') : KV E' r := by
  obtain ⟨h1, h2, h3, s, b, e, a1, a2, a3, a4, a5, a6, a7⟩ := h
  exact ⟨h1, h2, h3, s, b, e, a1, a2, a3, a4, a5, by omega, a7⟩
theorem usv_congr (h : ∀ v, v < 6 → q (5 * v) = r (5 * v)) : smv (usv q) 6 = smv (usv r) 6 := smv_congr 6 (by omega) fun v hv => by
  unfold usv
  rw [h v hv]
theorem KV_same (h : KV E r) (hq : ∀ x, ¬ (151 ≤ x ∧ x ≤ 156) → x < 161 → q x = r x) : KV E q := by
  obtain ⟨h1, h2, h3, s, b, e, a1, a2, a3, a4, a5, a6, a7⟩ := h
  refine ⟨fun u v hu hv => ?_, ?_, fun v k hv hk => ?_, s, b, e, ?_, ?_, ?_, a4, a5, a6, fun k hk => ?_⟩
  · rw [hq (5 * u) (by omega) (by omega), hq (5 * v) (by omega) (by omega), hq (5 * u + 1) (by omega) (by omega), hq (5 * v + 1) (by omega) (by omega)]
    exact h1 u v hu hv
  · rw [hq 158 (by omega) (by omega), hq 159 (by omega) (by omega), hq 160 (by omega) (by omega), usv_congr fun v hv => hq (5 * v) (by omega) (by omega)]
    exact h2
  · rw [hq (5 * v) (by omega) (by omega), hq (5 * v + 1) (by omega) (by omega), hq (30 + 2 * k) (by omega) (by omega), hq 150 (by omega) (by omega)]
    exact h3 v k hv hk
  · rw [hq 160 (by omega) (by omega)]; exact a1
  · rw [hq 158 (by omega) (by omega)]; exact a2
  · rw [hq 157 (by omega) (by omega)]; exact a3
  · rw [hq (30 + 2 * k) (by omega) (by omega)]; exact a7 k hk
theorem i1 : ((0 : Int32) < 1) ∧ ¬ ((1 : Int32) = 4) ∧ ((0 : Int32) < 4) ∧ ¬ ((0 : Int32) < 0) := by decide
/-- a note begins: of a free voice, or of a stolen one -/
theorem KV_st {j k : Nat} (hj : j < 6) (hk : k < 60) (h : KV E r) (hd : 0 < r (30 + 2 * k)) (hv : mo_voice r (nI k) = -1)
    (q1 : ∀ v, v < 6 → q (5 * v) = if v = j then 1 else r (5 * v)) (q2 : ∀ v, v < 6 → q (5 * v + 1) = if v = j then nI k else r (5 * v + 1)) (q3 : ∀ x, 30 ≤ x → x < 151 → q x = r x)
    (q5 : q 157 = r 157 + 1) (q6 : q 158 = r 158 + 1) (q7 : q 159 = r 159) (q8 : (q 160 = r 160 ∧ ¬ 0 < r (5 * j)) ∨ (q 160 = r 160 + 1 ∧ 0 < r (5 * j))) : KV (E + 1) q := by
  obtain ⟨h1, h2, h3, s, b, e, a1, a2, a3, a4, a5, a6, a7⟩ := h
  have hs : smv (usv q) 6 + usv r j = smv (usv r) 6 + usv q j := smv_up hj (fun v hv9 hne => by
    unfold usv
    rw [q1 v hv9, if_neg hne]) 6 (by omega) (by omega)
  have hq1 : usv q j = 1 := by
    unfold usv
    rw [q1 j hj, if_pos rfl]
    rfl
  rw [hq1] at hs
  refine ⟨fun u v hu hv9 => ?_, ?_, fun v k' hv9 hk' => ?_, ?_⟩
  · rw [q1 u hu, q1 v hv9, q2 u hu, q2 v hv9]
    by_cases e1 : u = j
    · by_cases e2 : v = j
      · intro _ _ _; rw [e1, e2]
      · rw [if_pos e1, if_neg e2, if_pos e1, if_neg e2]
        intro _ c2 c3
        exact absurd c3.symm (mo_voice_none hv hv9 c2)
    · by_cases e2 : v = j
      · rw [if_neg e1, if_pos e2, if_neg e1, if_pos e2]
        intro c1 _ c3
        exact absurd c3 (mo_voice_none hv hu c1)
      · rw [if_neg e1, if_neg e2, if_neg e1, if_neg e2]
        exact h1 u v hu hv9
  · rw [q6, q7, h2]
    rcases q8 with ⟨e1, e2⟩ | ⟨e1, e2⟩
    · have e3 : usv r j = 0 := by unfold usv; rw [if_neg e2]
      rw [e3, Int32.add_zero] at hs
      rw [hs, e1]
      simp only [Int32.add_assoc, i_lc, Int32.add_comm]
    · have e3 : usv r j = 1 := by unfold usv; rw [if_pos e2]
      rw [e3] at hs
      have e4 : smv (usv q) 6 = smv (usv r) 6 := by
        have := congrArg (fun x => x - 1) hs
        simpa only [Int32.add_sub_cancel] using this
      rw [e4, e1]
      simp only [Int32.add_assoc, i_lc, Int32.add_comm]
  · rw [q1 v hv9, q2 v hv9, q3 (30 + 2 * k') (by omega) (by omega), q3 150 (by omega) (by omega)]
    by_cases e1 : v = j
    · rw [if_pos e1, if_pos e1]
      intro _ c2
      have : k = k' := (nI_eq (by omega) (by omega)).mp c2
      subst this
      exact ⟨fun c => absurd c i1.2.1, fun _ c => absurd hd c⟩
    · rw [if_neg e1, if_neg e1]
      exact h3 v k' hv9 hk'
  · rcases q8 with ⟨e1, -⟩ | ⟨e1, -⟩
    · exact ⟨s, b + 1, e + 1, by rw [e1]; exact a1, by rw [q6, a2, nI_1], by rw [q5, a3, nI_1], by omega, by omega, by omega, fun k' hk' => by
        obtain ⟨w, w1, w2⟩ := a7 k' hk'
        exact ⟨w, by omega, by rw [q3 _ (by omega) (by omega)]; exact w2⟩⟩
    · exact ⟨s + 1, b + 1, e + 1, by rw [e1, a1, nI_1], by rw [q6, a2, nI_1], by rw [q5, a3, nI_1], by omega, by omega, by omega, fun k' hk' => by
        obtain ⟨w, w1, w2⟩ := a7 k' hk'
        exact ⟨w, by omega, by rw [q3 _ (by omega) (by omega)]; exact w2⟩⟩
theorem KV_start {j k : Nat} (hj : j < 6) (hk : k < 60) (h : KV E r) (hd : 0 < r (30 + 2 * k)) (hv : mo_voice r (nI k) = -1) (h0 : ¬ 0 < r (5 * j)) : KV (E + 1) (mo_start r j k) := by
  have at9 := fun x => mo_start_at r (k := k) hj x
  refine KV_st hj hk h hd hv (fun v hv9 => ?_) (fun v hv9 => ?_) (fun x x1 x2 => ?_) ?_ ?_ ?_ (Or.inl ⟨?_, h0⟩)
  · exact mo_start_p r hj hv9
  · rw [at9]
    by_cases e : v = j
    · subst e
      rw [if_neg (by omega), if_pos rfl, if_pos rfl]
    · rw [if_neg (by omega), if_neg (by omega), if_neg (by omega), if_neg (by omega), if_neg (by omega), if_neg (by omega), if_neg (by omega), if_neg e]
  · rw [at9, if_neg (by omega), if_neg (by omega), if_neg (by omega), if_neg (by omega), if_neg (by omega), if_neg (by omega), if_neg (by omega)]
  · rw [at9, if_neg (by omega), if_neg (by omega), if_neg (by omega), if_neg (by omega), if_neg (by omega), if_pos rfl]
  · rw [at9, if_neg (by omega), if_neg (by omega), if_neg (by omega), if_neg (by omega), if_neg (by omega), if_neg (by omega), if_pos rfl]
  · rw [at9, if_neg (by omega), if_neg (by omega), if_neg (by omega), if_neg (by omega), if_neg (by omega), if_neg (by omega), if_neg (by omega)]
  · rw [at9, if_neg (by omega), if_neg (by omega), if_neg (by omega), if_neg (by omega), if_neg (by omega), if_neg (by omega), if_neg (by omega)]
theorem KV_stolen {j k : Nat} (hj : j < 6) (hk : k < 60) (h : KV E r) (hd : 0 < r (30 + 2 * k)) (hv : mo_voice r (nI k) = -1) (h0 : 0 < r (5 * j)) : KV (E + 1) (mo_start (mm_up r 160 (r 160 + 1)) j k) := by
  have at9 := fun x => mo_start_at (mm_up r 160 (r 160 + 1)) (k := k) hj x
  refine KV_st hj hk h hd hv (fun v hv9 => ?_) (fun v hv9 => ?_) (fun x x1 x2 => ?_) ?_ ?_ ?_ (Or.inr ⟨?_, h0⟩)
  · rw [mo_start_p _ hj hv9, mm_up_n _ _ (by omega)]
  · rw [at9]
    by_cases e : v = j
    · subst e
      rw [if_neg (by omega), if_pos rfl, if_pos rfl]
    · rw [if_neg (by omega), if_neg (by omega), if_neg (by omega), if_neg (by omega), if_neg (by omega), if_neg (by omega), if_neg (by omega), if_neg e, mm_up_n _ _ (by omega)]
  · rw [at9, if_neg (by omega), if_neg (by omega), if_neg (by omega), if_neg (by omega), if_neg (by omega), if_neg (by omega), if_neg (by omega), mm_up_n _ _ (by omega)]
  · rw [at9, if_neg (by omega), if_neg (by omega), if_neg (by omega), if_neg (by omega), if_neg (by omega), if_pos rfl, mm_up_n _ _ (by omega)]
  · rw [at9, if_neg (by omega), if_neg (by omega), if_neg (by omega), if_neg (by omega), if_neg (by omega), if_neg (by omega), if_pos rfl, mm_up_n _ _ (by omega)]
  · rw [at9, if_neg (by omega), if_neg (by omega), if_neg (by omega), if_neg (by omega), if_neg (by omega), if_neg (by omega), if_neg (by omega), mm_up_n _ _ (by omega)]
  · rw [at9, if_neg (by omega), if_neg (by omega), if_neg (by omega), if_neg (by omega), if_neg (by omega), if_neg (by omega), if_neg (by omega), mm_up_s]
/-- a key goes down that has no voice -/
theorem KV_down {k : Nat} {s : Int32} (hk : k < 60) (h : KV E r) (hv : mo_voice r (nI k) = -1) : KV (E + 1) (mo_press r k s) := by
  obtain ⟨h1, h2, h3, s', b, e, a1, a2, a3, a4, a5, a6, a7⟩ := h
  have e0 : ∀ x, ¬ x = 157 → ¬ x = 30 + 2 * k → ¬ x = 30 + 2 * k + 1 → mo_press r k s x = r x := fun x x1 x2 x3 => by
    unfold mo_press
    rw [mm_up_n _ _ x3, mm_up_n _ _ x2, mm_up_n _ _ x1]
  have e1 : mo_press r k s (30 + 2 * k) = r 157 + 1 := by
    unfold mo_press
    rw [mm_up_n _ _ (by omega), mm_up_s]
  have e2 : mo_press r k s 157 = r 157 + 1 := by
    unfold mo_press
    rw [mm_up_n _ _ (by omega), mm_up_n _ _ (by omega), mm_up_s]
  refine ⟨fun u v hu hv9 => ?_, ?_, fun v k' hv9 hk' => ?_, s', b, e + 1, ?_, ?_, ?_, a4, by omega, by omega, fun k' hk' => ?_⟩
  · rw [e0 (5 * u) (by omega) (by omega) (by omega), e0 (5 * v) (by omega) (by omega) (by omega), e0 (5 * u + 1) (by omega) (by omega) (by omega), e0 (5 * v + 1) (by omega) (by omega) (by omega)]
    exact h1 u v hu hv9
  · rw [e0 158 (by omega) (by omega) (by omega), e0 159 (by omega) (by omega) (by omega), e0 160 (by omega) (by omega) (by omega), usv_congr fun v hv9 => e0 (5 * v) (by omega) (by omega) (by omega)]
    exact h2
  · rw [e0 (5 * v) (by omega) (by omega) (by omega), e0 (5 * v + 1) (by omega) (by omega) (by omega), e0 150 (by omega) (by omega) (by omega)]
    intro c1 c2
    have hne : ¬ k' = k := fun c => by subst c; exact mo_voice_none hv hv9 c1 c2
    rw [e0 (30 + 2 * k') (by omega) (by omega) (by omega)]
    exact h3 v k' hv9 hk' c1 c2
  · rw [e0 160 (by omega) (by omega) (by omega)]; exact a1
  · rw [e0 158 (by omega) (by omega) (by omega)]; exact a2
  · rw [e2, a3, nI_1]
  · by_cases c : k' = k
    · subst c
      exact ⟨e + 1, Nat.le_refl _, by rw [e1, a3, nI_1]⟩
    · obtain ⟨w, w1, w2⟩ := a7 k' hk'
      exact ⟨w, by omega, by rw [e0 _ (by omega) (by omega) (by omega)]; exact w2⟩
theorem mo_voice_cg (k : Int32) (h : ∀ x, x < 30 → q x = r x) : mo_voice q k = mo_voice r k := sy_find_congr 6 (by omega) fun v hv => by
  rw [h _ (by omega), h _ (by omega)]
theorem mo_free_cg (h : ∀ x, x < 30 → q x = r x) : mo_free q = mo_free r := sy_find_congr 6 (by omega) fun v hv => by
  rw [h _ (by omega)]
theorem mo_press_lo (r : Nat → Int32) (k : Nat) (s : Int32) {x : Nat} (hx : x < 30) : mo_press r k s x = r x := by
  unfold mo_press
  rw [mm_up_n _ _ (by omega), mm_up_n _ _ (by omega), mm_up_n _ _ (by omega)]
theorem mo_press_hi (r : Nat → Int32) (k : Nat) (s : Int32) (hk : k < 60) {x : Nat} (hx : 150 ≤ x) (h7 : ¬ x = 157) : mo_press r k s x = r x := by
  unfold mo_press
  rw [mm_up_n _ _ (by omega), mm_up_n _ _ (by omega), mm_up_n _ _ h7]
/-- the own voice begins anew -/
theorem KV_own {j k : Nat} {s w' : Int32} (hj : j < 6) (hk : k < 60) (h : KV E r) (hE : E < 2 ^ 30) (h0 : 0 < r (5 * j)) (h1k : r (5 * j + 1) = nI k) : KV (E + 1) (mm_up (mm_up (mm_up (mo_press r k s) (5 * j) 1) (5 * j + 2) s) (5 * j + 4) w') := by
  obtain ⟨h1, h2, h3, s', b, e, a1, a2, a3, a4, a5, a6, a7⟩ := h
  obtain ⟨Q, hQ⟩ : ∃ Q, Q = mm_up (mm_up (mm_up (mo_press r k s) (5 * j) 1) (5 * j + 2) s) (5 * j + 4) w' := ⟨_, rfl⟩
  rw [← hQ]
  have e0 : ∀ x, ¬ x = 157 → ¬ x = 30 + 2 * k → ¬ x = 30 + 2 * k + 1 → ¬ x = 5 * j → ¬ x = 5 * j + 2 → ¬ x = 5 * j + 4 → Q x = r x := fun x x1 x2 x3 x4 x5 x6 => by
    rw [hQ, mm_up_n _ _ x6, mm_up_n _ _ x5, mm_up_n _ _ x4]
    unfold mo_press
    rw [mm_up_n _ _ x3, mm_up_n _ _ x2, mm_up_n _ _ x1]
  have e1 : Q (30 + 2 * k) = r 157 + 1 := by
    rw [hQ, mm_up_n _ _ (by omega), mm_up_n _ _ (by omega), mm_up_n _ _ (by omega)]
    unfold mo_press
    rw [mm_up_n _ _ (by omega), mm_up_s]
  have e2 : Q 157 = r 157 + 1 := by
    rw [hQ, mm_up_n _ _ (by omega), mm_up_n _ _ (by omega), mm_up_n _ _ (by omega)]
    unfold mo_press
    rw [mm_up_n _ _ (by omega), mm_up_n _ _ (by omega), mm_up_s]
  have e3 : ∀ v, v < 6 → Q (5 * v) = if v = j then 1 else r (5 * v) := fun v hv => by
    by_cases c : v = j
    · subst c
      rw [if_pos rfl, hQ, mm_up_n _ _ (by omega), mm_up_n _ _ (by omega), mm_up_s]
    · rw [if_neg c]; exact e0 _ (by omega) (by omega) (by omega) (by omega) (by omega) (by omega)
  have e4 : ∀ v, v < 6 → Q (5 * v + 1) = r (5 * v + 1) := fun v hv => e0 _ (by omega) (by omega) (by omega) (by omega) (by omega) (by omega)
  have e5 : ∀ v, v < 6 → (0 < Q (5 * v)) = (0 < r (5 * v)) := fun v hv => by
    rw [e3 v hv]
    by_cases c : v = j
    · subst c
      rw [if_pos rfl]
      exact propext ⟨fun _ => h0, fun _ => i1.1⟩
    · rw [if_neg c]
  have ed : 0 < Q (30 + 2 * k) := by
    rw [e1, a3, nI_1]
    exact nI_lt (a := 0) (by omega) (by omega)
  refine ⟨fun u v hu hv9 => ?_, ?_, fun v k' hv9 hk' => ?_, s', b, e + 1, ?_, ?_, ?_, a4, by omega, by omega, fun k' hk' => ?_⟩
  · rw [e5 u hu, e5 v hv9, e4 u hu, e4 v hv9]
    exact h1 u v hu hv9
  · rw [e0 158 (by omega) (by omega) (by omega) (by omega) (by omega) (by omega), e0 159 (by omega) (by omega) (by omega) (by omega) (by omega) (by omega), e0 160 (by omega) (by omega) (by omega) (by omega) (by omega) (by omega), h2]
    congr 1
    refine smv_congr 6 (by omega) fun v hv9 => ?_
    unfold usv
    simp only [e5 v hv9]
  · rw [e5 v hv9, e4 v hv9, e0 150 (by omega) (by omega) (by omega) (by omega) (by omega) (by omega), e3 v hv9]
    intro c1 c2
    by_cases c : v = j
    · subst c
      have hkk : k = k' := (nI_eq (by omega) (by omega)).mp (h1k.symm.trans c2)
      subst hkk
      rw [if_pos rfl]
      exact ⟨fun c => absurd c i1.2.1, fun _ c => absurd ed c⟩
    · have hne : ¬ k' = k := fun d => by
        subst d
        exact c (h1 v j hv9 hj c1 h0 (c2.trans h1k.symm))
      rw [if_neg c, e0 (30 + 2 * k') (by omega) (by omega) (by omega) (by omega) (by omega) (by omega)]
      exact h3 v k' hv9 hk' c1 c2
  · rw [e0 160 (by omega) (by omega) (by omega) (by omega) (by omega) (by omega)]; exact a1
  · rw [e0 158 (by omega) (by omega) (by omega) (by omega) (by omega) (by omega)]; exact a2
  · rw [e2, a3, nI_1]
  · by_cases c : k' = k
    · subst c
      exact ⟨e + 1, Nat.le_refl _, by rw [e1, a3, nI_1]⟩
    · obtain ⟨w, w1, w2⟩ := a7 k' hk'
      exact ⟨w, by omega, by rw [e0 _ (by omega) (by omega) (by omega) (by omega) (by omega) (by omega)]; exact w2⟩
theorem mo_pos (hi : mo_inv r) {v : Nat} (hv : v < 6) (h : ¬ r (5 * v) = 0) : 0 < r (5 * v) := by
  have := (mo_inv_nn hi hv).1
  exact Classical.byContradiction fun c => h (by rw [this]; exact c)
theorem mo_free_all (h : mo_free r = -1) (hi : mo_inv r) {v : Nat} (hv : v < 6) : 0 < r (5 * v) := mo_pos hi hv (of_decide_eq_false (sy_find_none 6 (by omega) h v (by omega) hv))
theorem KV_go {k : Nat} {s : Int32} (hk : k < 60) (h : KV E r) (hi : mo_inv r) (hE : E + 2 < 2 ^ 30) : KV (E + 2) (mo_goJ (mo_press r k s) k s).2 := by
  have lo : ∀ x, x < 30 → mo_press r k s x = r x := fun x hx => mo_press_lo r k s hx
  have hv9 := mo_voice_cg (nI k) lo
  have hdn : 0 < mo_press r k s (30 + 2 * k) := by
    obtain ⟨-, -, -, s', b, e, a1, a2, a3, a4, a5, a6, a7⟩ := h
    unfold mo_press
    rw [mm_up_n _ _ (by omega), mm_up_s, a3, nI_1]
    exact nI_lt (a := 0) (by omega) (by omega)
  have hi9 : mo_inv (mo_press r k s) := mo_inv_press hi
  unfold mo_goJ
  by_cases c1 : mo_voice (mo_press r k s) (nI k) = -1
  · rw [if_pos c1]
    have hK : KV (E + 1) (mo_press r k s) := KV_down hk h (hv9.symm.trans c1)
    by_cases c2 : mo_free (mo_press r k s) = -1
    · rw [if_pos c2]
      by_cases c3 : mo_prey (mo_press r k s) = -1
      · rw [if_pos c3]
        exact KV_B (KV_same hK fun x _ x2 => mm_up_n _ _ (by omega)) (by omega)
      · rw [if_neg c3]
        rcases mo_prey_c (mo_inv_pok hi9 c2) with e | ⟨j, hj, e⟩
        · exact absurd e c3
        · show KV (E + 2) (mo_start _ (mo_prey (mo_press r k s)).toNatClampNeg k)
          rw [e, (cV hj).2.1]
          exact KV_stolen hj hk hK hdn c1 (mo_free_all c2 hi9 hj)
    · rw [if_neg c2]
      rcases mo_free_c (mo_press r k s) with e | ⟨j, hj, e, e0⟩
      · exact absurd e c2
      · show KV (E + 2) (mo_start _ (mo_free (mo_press r k s)).toNatClampNeg k)
        rw [e, (cV hj).2.1]
        exact KV_start hj hk hK hdn c1 (by rw [e0]; exact i1.2.2.2)
  · rw [if_neg c1]
    rcases mo_voice_c (mo_press r k s) (nI k) with e | ⟨j, hj, e, e1, e2⟩
    · exact absurd e c1
    · show KV (E + 2) (mm_up (mm_up (mm_up (mo_press r k s) (5 * (mo_voice (mo_press r k s) (nI k)).toNatClampNeg) 1) (5 * (mo_voice (mo_press r k s) (nI k)).toNatClampNeg + 2) s) (5 * (mo_voice (mo_press r k s) (nI k)).toNatClampNeg + 4) _)
      rw [e, (cV hj).2.1]
      rw [lo _ (by omega)] at e1 e2
      exact KV_B (KV_own hj hk h (by omega) e1 e2) (by omega)
theorem KV_lift {k : Nat} (hk : k < 60) (h : KV E r) (h01 : r 150 = 0 ∨ r 150 = 1) : KV E (mo_lift r k) := by
  obtain ⟨h1, h2, h3, s', b, e, a1, a2, a3, a4, a5, a6, a7⟩ := h
  have K5 : ∀ Q : Nat → Int32, (∀ x, 30 ≤ x → x < 161 → ¬ x = 30 + 2 * k → Q x = r x) → Q (30 + 2 * k) = 0 → ∃ s b e, Q 160 = nI s ∧ Q 158 = nI b ∧ Q 157 = nI e ∧ s ≤ b ∧ b ≤ e ∧ e ≤ E ∧ ∀ k, k < 60 → ∃ w, w ≤ e ∧ Q (30 + 2 * k) = nI w := fun Q q1 q2 => by
    refine ⟨s', b, e, by rw [q1 _ (by omega) (by omega) (by omega)]; exact a1, by rw [q1 _ (by omega) (by omega) (by omega)]; exact a2, by rw [q1 _ (by omega) (by omega) (by omega)]; exact a3, a4, a5, a6, fun k' hk' => ?_⟩
    by_cases c : k' = k
    · subst c; exact ⟨0, by omega, q2⟩
    · rw [q1 _ (by omega) (by omega) (by omega)]; exact a7 k' hk'
  unfold mo_lift
  by_cases c1 : ¬ mo_voice r (nI k) = -1 ∧ r 150 = 0
  · rw [if_pos c1]
    rcases mo_voice_c r (nI k) with e9 | ⟨j, hj, e9, f1, f2⟩
    · exact absurd e9 c1.1
    rw [e9, (cV hj).2.1]
    have e0 : ∀ x, ¬ x = 30 + 2 * k → ¬ x = 5 * j → mm_up (mm_up r (30 + 2 * k) 0) (5 * j) 4 x = r x := fun x x1 x2 => by rw [mm_up_n _ _ x2, mm_up_n _ _ x1]
    have e3 : ∀ v, v < 6 → mm_up (mm_up r (30 + 2 * k) 0) (5 * j) 4 (5 * v) = if v = j then 4 else r (5 * v) := fun v hv => by
      by_cases c : v = j
      · subst c
        rw [if_pos rfl, mm_up_s]
      · rw [if_neg c]; exact e0 _ (by omega) (by omega)
    have ez : mm_up (mm_up r (30 + 2 * k) 0) (5 * j) 4 (30 + 2 * k) = 0 := by rw [mm_up_n _ _ (by omega), mm_up_s]
    have e5 : ∀ v, v < 6 → (0 < mm_up (mm_up r (30 + 2 * k) 0) (5 * j) 4 (5 * v)) = (0 < r (5 * v)) := fun v hv => by
      rw [e3 v hv]
      by_cases c : v = j
      · subst c
        rw [if_pos rfl]
        exact propext ⟨fun _ => f1, fun _ => i1.2.2.1⟩
      · rw [if_neg c]
    refine ⟨fun u v hu hv9 => ?_, ?_, fun v k' hv9 hk' => ?_, K5 _ (fun x x1 x2 x3 => e0 x x3 (by omega)) ez⟩
    · rw [e5 u hu, e5 v hv9, e0 (5 * u + 1) (by omega) (by omega), e0 (5 * v + 1) (by omega) (by omega)]
      exact h1 u v hu hv9
    · rw [e0 158 (by omega) (by omega), e0 159 (by omega) (by omega), e0 160 (by omega) (by omega), h2]
      congr 1
      refine smv_congr 6 (by omega) fun v hv9 => ?_
      unfold usv
      simp only [e5 v hv9]
    · rw [e5 v hv9, e3 v hv9, e0 (5 * v + 1) (by omega) (by omega), e0 150 (by omega) (by omega)]
      intro g1 g2
      by_cases c : v = j
      · subst c
        have hkk : k = k' := (nI_eq (by omega) (by omega)).mp (f2.symm.trans g2)
        subst hkk
        rw [if_pos rfl, ez]
        exact ⟨fun _ => i1.2.2.2, fun d => absurd rfl d⟩
      · have hne : ¬ k' = k := fun d => by
          subst d
          exact c (h1 v j hv9 hj g1 f1 (g2.trans f2.symm))
        rw [if_neg c, e0 (30 + 2 * k') (by omega) (by omega)]
        exact h3 v k' hv9 hk' g1 g2
  · rw [if_neg c1]
    have e0 : ∀ x, ¬ x = 30 + 2 * k → mm_up r (30 + 2 * k) 0 x = r x := fun x x1 => mm_up_n _ _ x1
    refine ⟨fun u v hu hv9 => ?_, ?_, fun v k' hv9 hk' => ?_, K5 _ (fun x x1 x2 x3 => e0 x x3) (mm_up_s _ _ _)⟩
    · rw [e0 (5 * u) (by omega), e0 (5 * v) (by omega), e0 (5 * u + 1) (by omega), e0 (5 * v + 1) (by omega)]
      exact h1 u v hu hv9
    · rw [e0 158 (by omega), e0 159 (by omega), e0 160 (by omega), usv_congr fun v hv9 => e0 (5 * v) (by omega)]
      exact h2
    · rw [e0 (5 * v) (by omega), e0 (5 * v + 1) (by omega), e0 150 (by omega)]
      intro g1 g2
      by_cases c : k' = k
      · subst c
        rw [mm_up_s]
        refine ⟨fun _ => i1.2.2.2, fun _ _ => ?_⟩
        rcases h01 with z | z
        · exact absurd ⟨fun d => mo_voice_none d hv9 g1 g2, z⟩ c1
        · exact z
      · rw [e0 (30 + 2 * k') (by omega)]
        exact h3 v k' hv9 hk' g1 g2
end KVS
