/-! what holds of a row: the pedal, ticks, keys that come back, a fresh row -/
section KVT
variable {E : Nat} {r q : Nat → Int32}
theorem in13_iff {x : Int32} (h : x = 0 ∨ x = 1 ∨ x = 2 ∨ x = 3 ∨ x = 4) : mo_in13 x = true ↔ (x = 1 ∨ x = 2 ∨ x = 3) := by
  rcases h with rfl | rfl | rfl | rfl | rfl <;> decide
theorem mo_inv_ph5 (hi : mo_inv r) {v : Nat} (hv : v < 6) : r (5 * v) = 0 ∨ r (5 * v) = 1 ∨ r (5 * v) = 2 ∨ r (5 * v) = 3 ∨ r (5 * v) = 4 := by
  rcases hi v hv with h | ⟨h, -⟩
  · exact Or.inl h
  · exact Or.inr h
theorem held_iff (hi : mo_inv r) {v k : Nat} (hv : v < 6) (hk : k < 60) (he : r (5 * v + 1) = nI k) : mo_held r v = true ↔ (r (5 * v) = 1 ∨ r (5 * v) = 2 ∨ r (5 * v) = 3) ∧ ¬ 0 < r (30 + 2 * k) := by
  unfold mo_held
  rw [he, (cK hk).2.1, Bool.and_eq_true, in13_iff (mo_inv_ph5 hi hv), decide_eq_true_iff]
theorem held_cg {v : Nat} (h0 : q (5 * v) = r (5 * v)) (h1 : q (5 * v + 1) = r (5 * v + 1)) (h2 : ∀ x, 30 ≤ x → x < 150 → q x = r x) (hk : r (5 * v) = 0 ∨ ∃ k, k < 60 ∧ r (5 * v + 1) = nI k) : mo_held q v = mo_held r v := by
  unfold mo_held
  rw [h0, h1]
  rcases hk with e | ⟨k, hk, e⟩
  · rw [e]
    have : mo_in13 0 = false := by decide
    rw [this, Bool.false_and, Bool.false_and]
  · rw [e, (cK hk).2.1, h2 (30 + 2 * k) (by omega) (by omega)]
theorem held_pos (hi : mo_inv r) {v : Nat} (hv : v < 6) (h : mo_held r v = true) : ¬ r (5 * v) = 0 := fun e => by
  unfold mo_held at h
  rw [e, show mo_in13 0 = false by decide, Bool.false_and] at h
  cases h
theorem mo_pd_at (n : Nat) : n ≤ 6 → ∀ (r : Nat → Int32) (c : Int32), mo_inv r → (∀ v, v < 6 → (mo_pd n r c).2 (5 * v) = if 6 - n ≤ v ∧ mo_held r v = true then 4 else r (5 * v)) ∧ ∀ x, (∀ v, v < 6 → ¬ x = 5 * v) → (mo_pd n r c).2 x = r x := by
  induction n with
  | zero =>
    intro _ r c _
    exact ⟨fun v hv => (if_neg (fun h => by omega)).symm, fun x _ => rfl⟩
  | succ n ih =>
    intro hn r c hi
    have h5 : 5 - n < 6 := by omega
    unfold mo_pd
    by_cases hh : mo_held r (5 - n) = true
    · rw [if_pos hh]
      have hi1 : mo_inv (mm_up r (5 * (5 - n)) 4) := mo_inv_ph hi (Or.inr (Or.inr (Or.inr rfl))) (mo_inv_key hi h5 (held_pos hi h5 hh))
      obtain ⟨i1, i2⟩ := ih (by omega) (mm_up r (5 * (5 - n)) 4) (c + 1) hi1
      refine ⟨fun v hv => ?_, fun x hx => by rw [i2 x hx, mm_up_n _ _ (hx _ h5)]⟩
      rw [i1 v hv]
      by_cases e : v = 5 - n
      · subst e
        rw [if_neg (fun h => by omega), mm_up_s, if_pos ⟨by omega, hh⟩]
      · have eh : mo_held (mm_up r (5 * (5 - n)) 4) v = mo_held r v := by
          refine held_cg (mm_up_n _ _ (by omega)) (mm_up_n _ _ (by omega)) (fun x x1 x2 => mm_up_n _ _ (by omega)) ?_
          rcases hi v hv with h | ⟨-, h⟩
          · exact Or.inl h
          · exact Or.inr h
        rw [eh, mm_up_n _ _ (show ¬ 5 * v = 5 * (5 - n) by omega)]
        by_cases c1 : 6 - n ≤ v
        · simp only [c1, show 6 - (n + 1) ≤ v by omega, true_and]
        · rw [if_neg (fun h => c1 h.1), if_neg (fun h => by omega)]
    · rw [if_neg hh]
      obtain ⟨i1, i2⟩ := ih (by omega) r c hi
      refine ⟨fun v hv => ?_, i2⟩
      rw [i1 v hv]
      by_cases e : v = 5 - n
      · subst e
        rw [if_neg (fun h => by omega), if_neg (fun h => hh h.2)]
      · by_cases c1 : 6 - n ≤ v
        · simp only [c1, show 6 - (n + 1) ≤ v by omega, true_and]
        · rw [if_neg (fun h => c1 h.1), if_neg (fun h => by omega)]
theorem pedal_at (hi : mo_inv r) : (∀ v, v < 6 → (mo_pedal r 0).2 (5 * v) = if mo_held r v = true then 4 else r (5 * v)) ∧ (∀ x, (∀ v, v < 6 → ¬ x = 5 * v) → ¬ x = 150 → (mo_pedal r 0).2 x = r x) ∧ (mo_pedal r 0).2 150 = 0 := by
  obtain ⟨i1, i2⟩ := mo_pd_at 6 (by omega) r 0 hi
  unfold mo_pedal
  rw [if_pos rfl]
  refine ⟨fun v hv => ?_, fun x hx h => ?_, (mm_up_s (mo_pd 6 r 0).2 150 0 : mm_up (mo_pd 6 r 0).2 150 0 150 = 0)⟩
  · show mm_up _ 150 0 (5 * v) = _
    rw [mm_up_n _ _ (by omega), i1 v hv]
    simp only [show 6 - 6 ≤ v by omega, true_and]
  · show mm_up _ 150 0 x = _
    rw [mm_up_n _ _ h, i2 x hx]
theorem KV_pedal (h : KV E r) (hi : mo_inv r) (d : Int32) : KV E (mo_pedal r d).2 := by
  by_cases hd : d = 0
  · subst hd
    obtain ⟨p1, p2, p3⟩ := pedal_at hi
    revert p1 p2 p3
    generalize (mo_pedal r 0).2 = Q
    intro p1 p2 p3
    obtain ⟨h1, h2, h3, s, b, e, a1, a2, a3, a4, a5, a6, a7⟩ := h
    have e5 : ∀ v, v < 6 → (0 < Q (5 * v)) = (0 < r (5 * v)) := fun v hv => by
      rw [p1 v hv]
      by_cases c : mo_held r v = true
      · rw [if_pos c]
        exact propext ⟨fun _ => mo_pos hi hv (held_pos hi hv c), fun _ => i1.2.2.1⟩
      · rw [if_neg c]
    have ek : ∀ v, v < 6 → Q (5 * v + 1) = r (5 * v + 1) := fun v hv => p2 _ (fun u _ => by omega) (by omega)
    have e0 : ∀ x, 30 ≤ x → ¬ x = 150 → Q x = r x := fun x x1 x2 => p2 x (fun u hu => by omega) x2
    refine ⟨fun u v hu hv => ?_, ?_, fun v k hv hk => ?_, s, b, e, ?_, ?_, ?_, a4, a5, a6, fun k hk => ?_⟩
    · rw [e5 u hu, e5 v hv, ek u hu, ek v hv]
      exact h1 u v hu hv
    · rw [e0 158 (by omega) (by omega), e0 159 (by omega) (by omega), e0 160 (by omega) (by omega), h2]
      congr 1
      refine smv_congr 6 (by omega) fun v hv => ?_
      unfold usv
      simp only [e5 v hv]
    · rw [e5 v hv, ek v hv, e0 (30 + 2 * k) (by omega) (by omega), p3, p1 v hv]
      intro g1 g2
      by_cases c : mo_held r v = true
      · rw [if_pos c]
        exact ⟨fun _ => ((held_iff hi hv hk g2).mp c).2, fun d => absurd rfl d⟩
      · rw [if_neg c]
        refine ⟨fun d => (h3 v k hv hk g1 g2).1 d, fun d f => ?_⟩
        exfalso
        refine c ((held_iff hi hv hk g2).mpr ⟨?_, f⟩)
        rcases mo_inv_ph5 hi hv with z | z | z | z | z
        · rw [z] at g1; exact absurd g1 i1.2.2.2
        · exact Or.inl z
        · exact Or.inr (Or.inl z)
        · exact Or.inr (Or.inr z)
        · exact absurd z d
    · rw [e0 160 (by omega) (by omega)]; exact a1
    · rw [e0 158 (by omega) (by omega)]; exact a2
    · rw [e0 157 (by omega) (by omega)]; exact a3
    · rw [e0 _ (by omega) (by omega)]; exact a7 k hk
  · unfold mo_pedal
    rw [if_neg hd]
    show KV E (mm_up r 150 1)
    obtain ⟨h1, h2, h3, s, b, e, a1, a2, a3, a4, a5, a6, a7⟩ := h
    have e0 : ∀ x, ¬ x = 150 → mm_up r 150 1 x = r x := fun x x1 => mm_up_n _ _ x1
    refine ⟨fun u v hu hv => ?_, ?_, fun v k hv hk => ?_, s, b, e, ?_, ?_, ?_, a4, a5, a6, fun k hk => ?_⟩
    · rw [e0 (5 * u) (by omega), e0 (5 * v) (by omega), e0 (5 * u + 1) (by omega), e0 (5 * v + 1) (by omega)]
      exact h1 u v hu hv
    · rw [e0 158 (by omega), e0 159 (by omega), e0 160 (by omega), usv_congr fun v hv => e0 (5 * v) (by omega)]
      exact h2
    · rw [e0 (5 * v) (by omega), e0 (5 * v + 1) (by omega), e0 (30 + 2 * k) (by omega), mm_up_s]
      exact fun g1 g2 => ⟨(h3 v k hv hk g1 g2).1, fun _ _ => rfl⟩
    · rw [e0 160 (by omega)]; exact a1
    · rw [e0 158 (by omega)]; exact a2
    · rw [e0 157 (by omega)]; exact a3
    · rw [e0 _ (by omega)]; exact a7 k hk
/-- one voice's phase, level -/
theorem KV_ph {j : Nat} (hj : j < 6) (h : KV E r) (q0 : ∀ x, ¬ x = 5 * j → ¬ x = 5 * j + 3 → q x = r x) (p1 : 0 < r (5 * j)) (p2 : 0 < q (5 * j)) (p3 : (q (5 * j) = 4) = (r (5 * j) = 4)) : KV E q := by
  obtain ⟨h1, h2, h3, s, b, e, a1, a2, a3, a4, a5, a6, a7⟩ := h
  have e5 : ∀ v, v < 6 → (0 < q (5 * v)) = (0 < r (5 * v)) := fun v hv => by
    by_cases c : v = j
    · subst c
      exact propext ⟨fun _ => p1, fun _ => p2⟩
    · rw [q0 _ (by omega) (by omega)]
  have e6 : ∀ v, v < 6 → (q (5 * v) = 4) = (r (5 * v) = 4) := fun v hv => by
    by_cases c : v = j
    · subst c
      exact p3
    · rw [q0 _ (by omega) (by omega)]
  have ek : ∀ v, v < 6 → q (5 * v + 1) = r (5 * v + 1) := fun v hv => q0 _ (by omega) (by omega)
  have e0 : ∀ x, 30 ≤ x → q x = r x := fun x x1 => q0 x (by omega) (by omega)
  refine ⟨fun u v hu hv => ?_, ?_, fun v k hv hk => ?_, s, b, e, ?_, ?_, ?_, a4, a5, a6, fun k hk => ?_⟩
  · rw [e5 u hu, e5 v hv, ek u hu, ek v hv]
    exact h1 u v hu hv
  · rw [e0 158 (by omega), e0 159 (by omega), e0 160 (by omega), h2]
    congr 1
    refine smv_congr 6 (by omega) fun v hv => ?_
    unfold usv
    simp only [e5 v hv]
  · rw [e5 v hv, e6 v hv, ek v hv, e0 (30 + 2 * k) (by omega), e0 150 (by omega)]
    exact h3 v k hv hk
  · rw [e0 160 (by omega)]; exact a1
  · rw [e0 158 (by omega)]; exact a2
  · rw [e0 157 (by omega)]; exact a3
  · rw [e0 _ (by omega)]; exact a7 k hk
/-- a note ends -/
theorem KV_free {j : Nat} (hj : j < 6) (h : KV E r) (q0 : ∀ x, ¬ x = 5 * j → ¬ x = 5 * j + 1 → ¬ x = 5 * j + 3 → ¬ x = 159 → q x = r x) (p1 : 0 < r (5 * j)) (p2 : q (5 * j) = 0) (p3 : q 159 = r 159 + 1) : KV E q := by
  obtain ⟨h1, h2, h3, s, b, e, a1, a2, a3, a4, a5, a6, a7⟩ := h
  have e5 : ∀ v, v < 6 → 0 < q (5 * v) → ¬ v = j ∧ 0 < r (5 * v) := fun v hv g => by
    by_cases c : v = j
    · subst c
      rw [p2] at g
      exact absurd g i1.2.2.2
    · rw [q0 _ (by omega) (by omega) (by omega) (by omega)] at g
      exact ⟨c, g⟩
  have e0 : ∀ x, 30 ≤ x → ¬ x = 159 → q x = r x := fun x x1 x2 => q0 x (by omega) (by omega) (by omega) x2
  have hs : smv (usv q) 6 + usv r j = smv (usv r) 6 + usv q j := smv_up hj (fun v hv hne => by
    unfold usv
    rw [q0 _ (by omega) (by omega) (by omega) (by omega)]) 6 (by omega) (by omega)
  have u1 : usv r j = 1 := if_pos p1
  have u2 : usv q j = 0 := by
    unfold usv
    rw [p2]
    rfl
  rw [u1, u2, Int32.add_zero] at hs
  refine ⟨fun u v hu hv g1 g2 => ?_, ?_, fun v k hv hk g1 => ?_, s, b, e, ?_, ?_, ?_, a4, a5, a6, fun k hk => ?_⟩
  · obtain ⟨c1, d1⟩ := e5 u hu g1
    obtain ⟨c2, d2⟩ := e5 v hv g2
    rw [q0 (5 * u + 1) (by omega) (by omega) (by omega) (by omega), q0 (5 * v + 1) (by omega) (by omega) (by omega) (by omega)]
    exact h1 u v hu hv d1 d2
  · rw [e0 158 (by omega) (by omega), e0 160 (by omega) (by omega), p3, h2, ← hs]
    simp only [Int32.add_assoc, i_lc, Int32.add_comm]
  · obtain ⟨c1, d1⟩ := e5 v hv g1
    rw [q0 (5 * v) (by omega) (by omega) (by omega) (by omega), q0 (5 * v + 1) (by omega) (by omega) (by omega) (by omega), e0 (30 + 2 * k) (by omega) (by omega), e0 150 (by omega) (by omega)]
    exact h3 v k hv hk d1
  · rw [e0 160 (by omega) (by omega)]; exact a1
  · rw [e0 158 (by omega) (by omega)]; exact a2
  · rw [e0 157 (by omega) (by omega)]; exact a3
  · rw [e0 _ (by omega) (by omega)]; exact a7 k hk
theorem i2 : ((0 : Int32) < 2) ∧ ((0 : Int32) < 3) ∧ ¬ ((2 : Int32) = 4) ∧ ¬ ((3 : Int32) = 4) ∧ ¬ ((2 : Int32) = 1) ∧ ¬ ((4 : Int32) = 1) ∧ ¬ ((4 : Int32) = 2) := by decide
theorem KV_sound (h : KV E r) {v : Nat} (hv : v < 6) : KV E (mo_sound r v) := by
  unfold mo_sound
  by_cases c1 : r (5 * v) = 1
  · rw [if_pos c1]
    split
    · exact KV_ph hv h (fun x x1 x2 => by rw [mm_up_n _ _ x1, mm_up_n _ _ x2]) (by rw [c1]; exact i1.1) (by rw [mm_up_s]; exact i1.1) (by rw [mm_up_s, c1])
    · exact KV_ph hv h (fun x x1 x2 => by rw [mm_up_n _ _ x1, mm_up_n _ _ x2]) (by rw [c1]; exact i1.1) (by rw [mm_up_s]; exact i2.1) (by rw [mm_up_s, c1]; exact propext ⟨fun h => absurd h i2.2.2.1, fun h => absurd h i1.2.1⟩)
  · rw [if_neg c1]
    by_cases c2 : r (5 * v) = 2
    · rw [if_pos c2]
      split
      · exact KV_ph hv h (fun x x1 x2 => by rw [mm_up_n _ _ x1, mm_up_n _ _ x2]) (by rw [c2]; exact i2.1) (by rw [mm_up_s]; exact i2.1) (by rw [mm_up_s, c2])
      · exact KV_ph hv h (fun x x1 x2 => by rw [mm_up_n _ _ x1, mm_up_n _ _ x2]) (by rw [c2]; exact i2.1) (by rw [mm_up_s]; exact i2.2.1) (by rw [mm_up_s, c2]; exact propext ⟨fun h => absurd h i2.2.2.2.1, fun h => absurd h i2.2.2.1⟩)
    · rw [if_neg c2]
      by_cases c4 : r (5 * v) = 4
      · rw [if_pos c4]
        split
        · exact KV_ph hv h (fun x x1 x2 => by rw [mm_up_n _ _ x2]) (by rw [c4]; exact i1.2.2.1) (by rw [mm_up_n _ _ (by omega), c4]; exact i1.2.2.1) (by rw [mm_up_n _ _ (by omega)])
        · refine KV_free hv h (fun x x1 x2 x3 x4 => by rw [mm_up_n _ _ x4, mm_up_n _ _ x3, mm_up_n _ _ x2, mm_up_n _ _ x1, mm_up_n _ _ x3]) (by rw [c4]; exact i1.2.2.1) ?_ (mm_up_s _ _ _)
          rw [mm_up_n _ _ (by omega), mm_up_n _ _ (by omega), mm_up_n _ _ (by omega), mm_up_s]
      · rw [if_neg c4]
        exact h
theorem KV_tk (n : Nat) : n ≤ 6 → ∀ (r : Nat → Int32) (c : Int32), KV E r → KV E (mo_tk n r c).2 := by
  induction n with
  | zero => intro _ r c h; exact h
  | succ n ih =>
    intro hn r c h
    unfold mo_tk
    exact ih (by omega) _ _ (KV_sound h (by omega))
/-- the key that is next to get a voice back -/
def wt9 (r : Nat → Int32) (k : Nat) : Prop := 0 < r (30 + 2 * k) ∧ mo_voice r (nI k) = -1
theorem late_sp (r : Nat → Int32) (n : Nat) : n ≤ 60 → ∀ b : Int32, (b = -1 ∨ ∃ j, j < 60 ∧ b = nI j ∧ wt9 r j) → (mo_late r n b = -1 ∧ b = -1 ∧ ∀ k, 60 - n ≤ k → k < 60 → ¬ wt9 r k) ∨ ∃ j, j < 60 ∧ mo_late r n b = nI j ∧ wt9 r j ∧ (∀ k, 60 - n ≤ k → k < 60 → wt9 r k → ¬ r (30 + 2 * j) < r (30 + 2 * k)) ∧ ∀ i, i < 60 → b = nI i → ¬ r (30 + 2 * j) < r (30 + 2 * i) := by
  induction n with
  | zero =>
    intro _ b hb
    rcases hb with rfl | ⟨j, hj, rfl, hw⟩
    · exact Or.inl ⟨rfl, rfl, fun k _ _ => by omega⟩
    · refine Or.inr ⟨j, hj, rfl, hw, fun k _ _ => by omega, fun i hi9 e => ?_⟩
      have : j = i := (nI_eq (by omega) (by omega)).mp e
      subst this
      rw [okr_lt]; omega
  | succ n ih =>
    intro hn b hb
    have h5 : 59 - n < 60 := by omega
    unfold mo_late
    by_cases c : (0 < r (30 + 2 * (59 - n)) ∧ mo_voice r (nI (59 - n)) = -1) ∧ (b = -1 ∨ r (30 + 2 * b.toNatClampNeg) < r (30 + 2 * (59 - n)))
    · rw [if_pos c]
      rcases ih (by omega) (nI (59 - n)) (Or.inr ⟨_, h5, rfl, c.1⟩) with ⟨-, e, -⟩ | ⟨j, hj, e, hw, m1, m2⟩
      · exact absurd e (neN (by omega))
      · have m0 := m2 _ h5 rfl
        refine Or.inr ⟨j, hj, e, hw, fun k k1 k2 k3 => ?_, fun i hi9 e9 => ?_⟩
        · by_cases ek : k = 59 - n
          · rw [ek]; exact m0
          · exact m1 k (by omega) k2 k3
        · rcases c.2 with z | z
          · rw [e9] at z; exact absurd z (neN (by omega))
          · rw [e9, (cK hi9).2.1] at z
            rw [okr_lt] at z m0 ⊢
            omega
    · rw [if_neg c]
      rcases ih (by omega) b hb with ⟨e, e2, m⟩ | ⟨j, hj, e, hw, m1, m2⟩
      · refine Or.inl ⟨e, e2, fun k k1 k2 k3 => ?_⟩
        by_cases ek : k = 59 - n
        · subst ek; exact c ⟨k3, Or.inl e2⟩
        · exact m k (by omega) k2 k3
      · refine Or.inr ⟨j, hj, e, hw, fun k k1 k2 k3 => ?_, m2⟩
        by_cases ek : k = 59 - n
        · subst ek
          rcases hb with e9 | ⟨i, hi9, e9, -⟩
          · exact absurd ⟨k3, Or.inl e9⟩ c
          · have z : ¬ r (30 + 2 * i) < r (30 + 2 * (59 - n)) := fun z => c ⟨k3, Or.inr (by rw [e9, (cK hi9).2.1]; exact z)⟩
            have m3 := m2 i hi9 e9
            rw [okr_lt] at z m3 ⊢
            omega
        · exact m1 k (by omega) k2 k3
theorem lt_sp (r : Nat → Int32) : (mo_lt r = -1 ∧ ∀ k, k < 60 → ¬ wt9 r k) ∨ ∃ j, j < 60 ∧ mo_lt r = nI j ∧ wt9 r j ∧ ∀ k, k < 60 → wt9 r k → ¬ r (30 + 2 * j) < r (30 + 2 * k) := by
  rcases late_sp r 60 (by omega) (-1) (Or.inl rfl) with ⟨e, -, m⟩ | ⟨j, hj, e, hw, m, -⟩
  · exact Or.inl ⟨e, fun k hk => m k (by omega) hk⟩
  · exact Or.inr ⟨j, hj, e, hw, fun k hk => m k (by omega) hk⟩
theorem KV_br (n : Nat) : ∀ {E : Nat} (r : Nat → Int32), KV E r → KV (E + n) (mo_br n r) := by
  induction n with
  | zero => intro E r h; exact h
  | succ n ih =>
    intro E r h
    unfold mo_br
    by_cases c : r 151 = 1 ∧ ¬ mo_lt r = -1 ∧ ¬ mo_free r = -1
    · rw [if_pos c]
      rcases mo_free_c r with e | ⟨j, hj, e, e0⟩
      · exact absurd e c.2.2
      rcases lt_sp r with ⟨e9, -⟩ | ⟨k, hk, e9, hw, -⟩
      · exact absurd e9 c.2.1
      rw [e, e9, (cV hj).2.1, (cK hk).2.1]
      exact KV_B (ih _ (KV_start hj hk h hw.1 hw.2 (by rw [e0]; exact i1.2.2.2))) (by omega)
    · rw [if_neg c]
      exact KV_B h (by omega)
theorem KV_tick (h : KV E r) : KV (E + 6) (mo_tick r).2 := KV_same (KV_br 6 _ (KV_tk 6 (by omega) r 0 h)) fun x _ x2 => mm_up_n _ _ (by omega)
theorem KV_rn (n : Nat) : ∀ {E : Nat} (r : Nat → Int32) (c : Int32), KV E r → KV (E + 6 * n) (mo_rn n r c).2 := by
  induction n with
  | zero => intro E r c h; exact h
  | succ n ih =>
    intro E r c h
    unfold mo_rn
    exact KV_B (ih _ _ (KV_tick h)) (by omega)
theorem KV_fresh (hq : ∀ j, j < 163 → q j = if j = 153 then 200 else if j = 154 then 100 else if j = 155 then 60 else if j = 156 then 50 else if j < 30 ∧ j % 5 = 1 then -1 else 0) : KV 0 q := by
  have z : ∀ x, x < 163 → ¬ (153 ≤ x ∧ x ≤ 156) → ¬ (x < 30 ∧ x % 5 = 1) → q x = 0 := fun x x0 x1 x2 => by rw [hq x x0, if_neg (by omega), if_neg (by omega), if_neg (by omega), if_neg (by omega), if_neg x2]
  have n0 : ¬ (0 : Int32) < 0 := by decide
  refine ⟨fun u v hu hv g _ _ => ?_, ?_, fun v k hv hk g => ?_, 0, 0, 0, z 160 (by omega) (by omega) (by omega), z 158 (by omega) (by omega) (by omega), z 157 (by omega) (by omega) (by omega), Nat.le_refl _, Nat.le_refl _, Nat.le_refl _, fun k hk => ⟨0, Nat.le_refl _, z _ (by omega) (by omega) (by omega)⟩⟩
  · rw [z _ (by omega) (by omega) (by omega)] at g; exact absurd g n0
  · rw [z 158 (by omega) (by omega) (by omega), z 159 (by omega) (by omega) (by omega), z 160 (by omega) (by omega) (by omega), smv_congr (g := usv q) (h := fun _ => 0) 6 (by omega) (fun v hv => by
      unfold usv
      rw [z _ (by omega) (by omega) (by omega)]
      rfl)]
    rfl
  · rw [z _ (by omega) (by omega) (by omega)] at g; exact absurd g n0
theorem KV_cmd {T : Nat → Int32} {L p : Nat} (h : KV E q) (hi : mo_inv q) (h01 : q 150 = 0 ∨ q 150 = 1) (hE : E + 2 < 2 ^ 30) (hpL : p < L) (hL2 : L ≤ 120) (hv : pe_cmd T L p = -1) (l : Int32) : KV (E + 600) (rc T L p q l).2.1 := by
  unfold pe_cmd at hv
  unfold rc
  by_cases h1 : T p = 112
  · rw [if_pos h1] at hv
    rw [if_pos h1]
    have hk : pe_key T L (p + 1) = -1 := Classical.byContradiction fun h => by rw [if_neg h] at hv; exact h hv
    rw [if_pos hk] at hv
    obtain ⟨b1, k, hk1, ek⟩ := pe_key_ok' (by omega) hk
    have k1 : tk1 T L p = (cm_key T (p + 1), p + 1 + 2, true) := by
      rcases tkey_pe (T := T) (L := L) (p := p + 1) (by omega) with ⟨-, a2⟩ | ⟨a1, -⟩
      · exact a2
      · exact absurd hk a1
    have k2 : tk2 T L p = (cm_force T (p + 3), p + 3 + 3, true) := by
      unfold tk2
      rw [k1]
      rcases tforce_pe (T := T) (L := L) (p := p + 3) (by omega) with ⟨-, a2⟩ | ⟨a1, -⟩
      · exact a2
      · exact absurd hv a1
    rw [k2, if_pos rfl, k1]
    dsimp only
    rw [ek, (cK hk1).2.1]
    by_cases c : 0 < q (30 + 2 * k)
    · rw [if_pos c]
      exact KV_B h (by omega)
    · rw [if_neg c]
      exact KV_B (KV_go hk1 h hi hE) (by omega)
  rw [if_neg h1] at hv
  rw [if_neg h1]
  by_cases h2 : T p = 114
  · rw [if_pos h2] at hv
    rw [if_pos h2]
    obtain ⟨b1, k, hk1, ek⟩ := pe_key_ok' (by omega) hv
    have k1 : tk1 T L p = (cm_key T (p + 1), p + 1 + 2, true) := by
      rcases tkey_pe (T := T) (L := L) (p := p + 1) (by omega) with ⟨-, a2⟩ | ⟨a1, -⟩
      · exact a2
      · exact absurd hv a1
    rw [k1, if_pos rfl]
    dsimp only
    rw [ek, (cK hk1).2.1]
    by_cases c : 0 < q (30 + 2 * k)
    · rw [if_pos c]
      exact KV_B (KV_lift hk1 h h01) (by omega)
    · rw [if_neg c]
      exact KV_B h (by omega)
  rw [if_neg h2] at hv
  rw [if_neg h2]
  by_cases h3 : T p = 116
  · rw [if_pos h3] at hv
    rw [if_pos h3]
    obtain ⟨-, k, hk1, hk2, ek⟩ := tick_num hv (by omega)
    rcases ttick_pe (T := T) (L := L) (p := p) (by omega) with ⟨-, a1, a2⟩ | ⟨a1, -⟩
    · rw [if_pos (by rw [a2]), a1, ek, nI_clamp (show k < 2 ^ 31 by omega)]
      exact KV_B (KV_rn k q 0 h) (by omega)
    · exact absurd hv a1
  rw [if_neg h3] at hv
  rw [if_neg h3]
  by_cases h4 : T p = 115
  · rw [if_pos h4]
    split
    · exact KV_B (KV_same h fun x x1 x2 => mm_up_n _ _ (by omega)) (by omega)
    · exact KV_B h (by omega)
  rw [if_neg h4]
  by_cases h5 : T p = 100
  · rw [if_pos h5]
    exact KV_B (KV_pedal h hi 1) (by omega)
  rw [if_neg h5]
  by_cases h6 : T p = 117
  · rw [if_pos h6]
    exact KV_B (KV_pedal h hi 0) (by omega)
  · rw [if_neg h6]
    exact KV_B h (by omega)
end KVT
