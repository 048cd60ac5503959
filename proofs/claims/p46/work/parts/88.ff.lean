/-! what the law's looking ahead rests on, of rows alone -/
section KFF
variable {B E : Nat} {I : Nat → Nat → Int32} {r q : Nat → Int32}
theorem mo_old_cg (p : Int32) (h : ∀ x, x < 30 → q x = r x) (n : Nat) : n ≤ 6 → ∀ b : Int32, (b = -1 ∨ ∃ j, j < 6 ∧ b = nI j) → mo_old q p n b = mo_old r p n b := by
  induction n with
  | zero => intro _ b _; rfl
  | succ n ih =>
    intro hn b hb
    unfold mo_old
    have hb9 : q (5 * b.toNatClampNeg + 4) = r (5 * b.toNatClampNeg + 4) := by
      rcases hb with rfl | ⟨j, hj, rfl⟩
      · exact h _ (by decide)
      · rw [(cV hj).2.1]; exact h _ (by omega)
    rw [h _ (by omega), h (5 * (5 - n) + 4) (by omega), hb9]
    split
    · exact ih (by omega) _ (Or.inr ⟨_, by omega, rfl⟩)
    · exact ih (by omega) _ hb
theorem mo_preyL_cg (h : ∀ x, x < 30 → q x = r x) (n : Nat) : n ≤ 6 → ∀ b, b < 6 → mo_preyL q n b = mo_preyL r n b := by
  induction n with
  | zero => intro _ b _; rfl
  | succ n ih =>
    intro hn b hb
    unfold mo_preyL
    rw [h (5 * b + 3) (by omega), h (5 * (5 - n) + 3) (by omega), h (5 * (5 - n) + 4) (by omega), h (5 * b + 4) (by omega)]
    split
    · exact ih (by omega) _ (by omega)
    · exact ih (by omega) _ hb
theorem mo_prey_cg (h : ∀ x, x < 30 → q x = r x) (h2 : q 152 = r 152) : mo_prey q = mo_prey r := by
  unfold mo_prey
  have e1 := mo_old_cg 1 h 6 (by omega) (-1) (Or.inl rfl)
  have e4 := mo_old_cg 4 h 6 (by omega) (-1) (Or.inl rfl)
  rw [h2, e1, e4]
  have e5 : (mo_old r 1 6 (-1)).toNatClampNeg < 6 := by
    rcases mo_old_c r 1 6 (by omega) (-1) (Or.inl rfl) with e | ⟨j, hj, e⟩
    · rw [e]; decide
    · rw [e, (cV hj).2.1]; exact hj
  rw [mo_preyL_cg h 6 (by omega) _ e5]
theorem voice_is (hK : KV E r) {j k : Nat} (hj : j < 6) (h0 : 0 < r (5 * j)) (h1 : r (5 * j + 1) = nI k) : mo_voice r (nI k) = nI j :=
  sy_find_first hj (decide_eq_true ⟨h0, h1⟩) fun u hu hP => by
    obtain ⟨g1, g2⟩ := of_decide_eq_true hP
    exact hK.1 u j hu hj g1 h0 (g2.trans h1.symm)
theorem press_fact {k s : Nat} (hi : mo_inv r) (hK : KV E r) (hE : E + 2 < 2 ^ 30) (hk : k < 60) (hu : ¬ 0 < r (30 + 2 * k)) :
    0 < (mo_goJ (mo_press r k (nI s)) k (nI s)).2 (30 + 2 * k) ∧ mo_voice (mo_goJ (mo_press r k (nI s)) k (nI s)).2 (nI k) = (mo_goJ (mo_press r k (nI s)) k (nI s)).1 ∧ (mo_goJ (mo_press r k (nI s)) k (nI s)).1 = mo_for r k ∧
    ((∃ j, j < 6 ∧ mo_how r k = 0 ∧ mo_for r k = nI j ∧ (mo_goJ (mo_press r k (nI s)) k (nI s)).2 158 = r 158 ∧ (mo_goJ (mo_press r k (nI s)) k (nI s)).2 160 = r 160 ∧ (mo_goJ (mo_press r k (nI s)) k (nI s)).2 161 = r 161 ∧ (mo_goJ (mo_press r k (nI s)) k (nI s)).2 (5 * j) = 1 ∧ (mo_goJ (mo_press r k (nI s)) k (nI s)).2 (5 * j + 3) = r (5 * j + 3)) ∨
     (∃ j, j < 6 ∧ mo_how r k = 1 ∧ mo_for r k = nI j ∧ (mo_goJ (mo_press r k (nI s)) k (nI s)).2 158 = r 158 + 1 ∧ (mo_goJ (mo_press r k (nI s)) k (nI s)).2 160 = r 160 ∧ (mo_goJ (mo_press r k (nI s)) k (nI s)).2 161 = r 161 ∧ (mo_goJ (mo_press r k (nI s)) k (nI s)).2 (5 * j) = 1 ∧ (mo_goJ (mo_press r k (nI s)) k (nI s)).2 (5 * j + 3) = 0) ∨
     (∃ j, j < 6 ∧ mo_how r k = 2 ∧ mo_for r k = nI j ∧ (mo_goJ (mo_press r k (nI s)) k (nI s)).2 158 = r 158 + 1 ∧ (mo_goJ (mo_press r k (nI s)) k (nI s)).2 160 = r 160 + 1 ∧ (mo_goJ (mo_press r k (nI s)) k (nI s)).2 161 = r 161 ∧ (mo_goJ (mo_press r k (nI s)) k (nI s)).2 (5 * j) = 1 ∧ (mo_goJ (mo_press r k (nI s)) k (nI s)).2 (5 * j + 3) = 0) ∨
     (mo_how r k = 3 ∧ mo_for r k = -1 ∧ (mo_goJ (mo_press r k (nI s)) k (nI s)).2 158 = r 158 ∧ (mo_goJ (mo_press r k (nI s)) k (nI s)).2 160 = r 160 ∧ (mo_goJ (mo_press r k (nI s)) k (nI s)).2 161 = r 161 + 1 ∧ mo_lt (mo_goJ (mo_press r k (nI s)) k (nI s)).2 = nI k)) := by
  have hG := KV_go (s := nI s) hk hK hi hE
  have lo : ∀ x, x < 30 → mo_press r k (nI s) x = r x := fun x hx => mo_press_lo r k _ hx
  have hip : ∀ x, 150 ≤ x → ¬ x = 157 → mo_press r k (nI s) x = r x := fun x h1 h2 => mo_press_hi r k _ hk h1 h2
  have ev := mo_voice_cg (nI k) lo
  have ef := mo_free_cg lo
  have ep := mo_prey_cg lo (hip 152 (by omega) (by omega))
  obtain ⟨e, a3, a6, a7⟩ : ∃ e, r 157 = nI e ∧ e ≤ E ∧ ∀ k, k < 60 → ∃ w, w ≤ e ∧ r (30 + 2 * k) = nI w := by
    obtain ⟨-, -, -, s', b, e, a1, a2, a3, a4, a5, a6, a7⟩ := hK
    exact ⟨e, a3, a6, a7⟩
  have pk : mo_press r k (nI s) (30 + 2 * k) = nI (e + 1) := by
    unfold mo_press
    rw [mm_up_n _ _ (by omega), mm_up_s, a3, nI_1]
  have pd : 0 < mo_press r k (nI s) (30 + 2 * k) := by
    rw [pk]
    exact nI_lt (a := 0) (by omega) (by omega)
  have hh : mo_how r k = if mo_voice r (nI k) = -1 then (if mo_free r = -1 then (if mo_prey r = -1 then 3 else 2) else 1) else 0 := if_neg hu
  have hf9 : mo_for r k = if mo_voice r (nI k) = -1 then (if mo_free r = -1 then mo_prey r else mo_free r) else mo_voice r (nI k) := rfl
  revert hG
  unfold mo_goJ
  rw [ev, ef, ep, hh, hf9]
  by_cases c1 : mo_voice r (nI k) = -1
  · simp only [c1, if_true]
    by_cases c2 : mo_free r = -1
    · simp only [c2, if_true]
      by_cases c3 : mo_prey r = -1
      · simp only [c3, if_true]
        intro hG
        have e0 : ∀ x, ¬ x = 161 → mm_up (mo_press r k (nI s)) 161 (mo_press r k (nI s) 161 + 1) x = mo_press r k (nI s) x := fun x hx => mm_up_n _ _ hx
        have vk : ∀ i : Int32, mo_voice (mm_up (mo_press r k (nI s)) 161 (mo_press r k (nI s) 161 + 1)) i = mo_voice r i := fun i => mo_voice_cg i fun x hx => by rw [e0 x (by omega), lo x hx]
        refine ⟨by rw [e0 _ (by omega)]; exact pd, by rw [vk]; exact c1, trivial, Or.inr (Or.inr (Or.inr ⟨trivial, trivial, by rw [e0 _ (by omega), hip _ (by omega) (by omega)], by rw [e0 _ (by omega), hip _ (by omega) (by omega)], by rw [mm_up_s, hip _ (by omega) (by omega)], ?_⟩))⟩
        rcases lt_sp (mm_up (mo_press r k (nI s)) 161 (mo_press r k (nI s) 161 + 1)) with ⟨-, m⟩ | ⟨j, hj, e9, hw, m⟩
        · exact absurd ⟨by rw [e0 _ (by omega)]; exact pd, by rw [vk]; exact c1⟩ (m k hk)
        · rw [e9]
          have m1 := m k hk ⟨by rw [e0 _ (by omega)]; exact pd, by rw [vk]; exact c1⟩
          by_cases ej : j = k
          · rw [ej]
          · exfalso
            rw [e0 _ (by omega), e0 _ (by omega), pk] at m1
            have : mo_press r k (nI s) (30 + 2 * j) = r (30 + 2 * j) := by
              unfold mo_press
              rw [mm_up_n _ _ (by omega), mm_up_n _ _ (by omega), mm_up_n _ _ (by omega)]
            obtain ⟨w, w1, w2⟩ := a7 j hj
            rw [this, w2] at m1
            exact m1 (nI_lt (by omega) (by omega))
      · simp only [c3, if_false]
        intro hG
        rcases mo_prey_c (mo_inv_pok hi c2) with e9 | ⟨j, hj, e9⟩
        · exact absurd e9 c3
        rw [e9, (cV hj).2.1] at hG ⊢
        have at9 := fun x => mo_start_at (mm_up (mo_press r k (nI s)) 160 (mo_press r k (nI s) 160 + 1)) (k := k) hj x
        have s0 : mo_start (mm_up (mo_press r k (nI s)) 160 (mo_press r k (nI s) 160 + 1)) j k (5 * j) = 1 := by rw [at9, if_pos rfl]
        have s1 : mo_start (mm_up (mo_press r k (nI s)) 160 (mo_press r k (nI s) 160 + 1)) j k (5 * j + 1) = nI k := by rw [at9, if_neg (by omega), if_pos rfl]
        have far : ∀ x, 30 ≤ x → ¬ x = 157 → ¬ x = 158 → mo_start (mm_up (mo_press r k (nI s)) 160 (mo_press r k (nI s) 160 + 1)) j k x = mm_up (mo_press r k (nI s)) 160 (mo_press r k (nI s) 160 + 1) x := fun x x1 x2 x3 => by
          rw [at9, if_neg (by omega), if_neg (by omega), if_neg (by omega), if_neg (by omega), if_neg (by omega), if_neg x2, if_neg x3]
        refine ⟨by rw [far _ (by omega) (by omega) (by omega), mm_up_n _ _ (by omega)]; exact pd, voice_is hG hj (by rw [s0]; exact i1.1) s1, trivial, Or.inr (Or.inr (Or.inl ⟨j, hj, trivial, rfl, ?_, ?_, ?_, s0, ?_⟩))⟩
        · rw [at9, if_neg (by omega), if_neg (by omega), if_neg (by omega), if_neg (by omega), if_neg (by omega), if_neg (by omega), if_pos rfl, mm_up_n _ _ (by omega), hip _ (by omega) (by omega)]
        · rw [far _ (by omega) (by omega) (by omega), mm_up_s, hip _ (by omega) (by omega)]
        · rw [far _ (by omega) (by omega) (by omega), mm_up_n _ _ (by omega), hip _ (by omega) (by omega)]
        · rw [at9, if_neg (by omega), if_neg (by omega), if_neg (by omega), if_pos rfl]
    · simp only [c2, if_false]
      intro hG
      rcases mo_free_c r with e9 | ⟨j, hj, e9, -⟩
      · exact absurd e9 c2
      rw [e9, (cV hj).2.1] at hG ⊢
      have at9 := fun x => mo_start_at (mo_press r k (nI s)) (k := k) hj x
      have s0 : mo_start (mo_press r k (nI s)) j k (5 * j) = 1 := by rw [at9, if_pos rfl]
      have s1 : mo_start (mo_press r k (nI s)) j k (5 * j + 1) = nI k := by rw [at9, if_neg (by omega), if_pos rfl]
      have far : ∀ x, 30 ≤ x → ¬ x = 157 → ¬ x = 158 → mo_start (mo_press r k (nI s)) j k x = mo_press r k (nI s) x := fun x x1 x2 x3 => by
        rw [at9, if_neg (by omega), if_neg (by omega), if_neg (by omega), if_neg (by omega), if_neg (by omega), if_neg x2, if_neg x3]
      refine ⟨by rw [far _ (by omega) (by omega) (by omega)]; exact pd, voice_is hG hj (by rw [s0]; exact i1.1) s1, trivial, Or.inr (Or.inl ⟨j, hj, trivial, rfl, ?_, ?_, ?_, s0, ?_⟩)⟩
      · rw [at9, if_neg (by omega), if_neg (by omega), if_neg (by omega), if_neg (by omega), if_neg (by omega), if_neg (by omega), if_pos rfl, hip _ (by omega) (by omega)]
      · rw [far _ (by omega) (by omega) (by omega), hip _ (by omega) (by omega)]
      · rw [far _ (by omega) (by omega) (by omega), hip _ (by omega) (by omega)]
      · rw [at9, if_neg (by omega), if_neg (by omega), if_neg (by omega), if_pos rfl]
  · simp only [c1, if_false]
    intro hG
    rcases mo_voice_c r (nI k) with e9 | ⟨j, hj, e9, f1, f2⟩
    · exact absurd e9 c1
    rw [e9, (cV hj).2.1] at hG ⊢
    have e0 : ∀ x, ¬ x = 5 * j → ¬ x = 5 * j + 2 → ¬ x = 5 * j + 4 → mm_up (mm_up (mm_up (mo_press r k (nI s)) (5 * j) 1) (5 * j + 2) (nI s)) (5 * j + 4) (mo_press r k (nI s) 157) x = mo_press r k (nI s) x := fun x x1 x2 x3 => by rw [mm_up_n _ _ x3, mm_up_n _ _ x2, mm_up_n _ _ x1]
    have s0 : mm_up (mm_up (mm_up (mo_press r k (nI s)) (5 * j) 1) (5 * j + 2) (nI s)) (5 * j + 4) (mo_press r k (nI s) 157) (5 * j) = 1 := by rw [mm_up_n _ _ (by omega), mm_up_n _ _ (by omega), mm_up_s]
    refine ⟨by rw [e0 _ (by omega) (by omega) (by omega)]; exact pd, voice_is hG hj (by rw [s0]; exact i1.1) (by rw [e0 _ (by omega) (by omega) (by omega), lo _ (by omega)]; exact f2), trivial, Or.inl ⟨j, hj, trivial, rfl, ?_, ?_, ?_, s0, ?_⟩⟩
    · rw [e0 _ (by omega) (by omega) (by omega), hip _ (by omega) (by omega)]
    · rw [e0 _ (by omega) (by omega) (by omega), hip _ (by omega) (by omega)]
    · rw [e0 _ (by omega) (by omega) (by omega), hip _ (by omega) (by omega)]
    · rw [e0 _ (by omega) (by omega) (by omega), lo _ (by omega)]
/-- which answers a press has -/
theorem for_c (hi : mo_inv r) (k : Nat) : mo_for r k = -1 ∨ ∃ j, j < 6 ∧ mo_for r k = nI j := by
  unfold mo_for mo_next
  rcases mo_voice_c r (nI k) with e | ⟨j, hj, e, -⟩
  · rw [if_pos e]
    by_cases c : mo_free r = -1
    · rw [if_pos c]
      exact mo_prey_c (mo_inv_pok hi c)
    · rw [if_neg c]
      rcases mo_free_c r with e | ⟨j, hj, e, -⟩
      · exact absurd e c
      · exact Or.inr ⟨j, hj, e⟩
  · rw [if_neg (by rw [e]; exact neN (by omega))]
    exact Or.inr ⟨j, hj, e⟩
/-- a release -/
theorem lift_fact {k : Nat} (hK : KV E r) (h01 : r 150 = 0 ∨ r 150 = 1) (hk : k < 60) (hd : 0 < r (30 + 2 * k)) :
    ¬ 0 < mo_lift r k (30 + 2 * k) ∧ mo_lift r k 150 = r 150 ∧ (mo_voice r (nI k) = -1 ∨ ∃ j, j < 6 ∧ mo_voice r (nI k) = nI j ∧ ((mo_lift r k (5 * j) = 4) = (r 150 = 0))) := by
  unfold mo_lift
  rcases mo_voice_c r (nI k) with e | ⟨j, hj, e, f1, f2⟩
  · rw [if_neg (fun g => g.1 e)]
    exact ⟨by rw [mm_up_s]; exact i1.2.2.2, mm_up_n _ _ (by omega), Or.inl e⟩
  · have ne : ¬ mo_voice r (nI k) = -1 := by rw [e]; exact neN (by omega)
    by_cases c : r 150 = 0
    · rw [if_pos ⟨ne, c⟩, e, (cV hj).2.1]
      exact ⟨by rw [mm_up_n _ _ (by omega), mm_up_s]; exact i1.2.2.2, by rw [mm_up_n _ _ (by omega), mm_up_n _ _ (by omega)], Or.inr ⟨j, hj, rfl, by rw [mm_up_s]; exact propext ⟨fun _ => c, fun _ => rfl⟩⟩⟩
    · rw [if_neg (fun g => c g.2)]
      refine ⟨by rw [mm_up_s]; exact i1.2.2.2, mm_up_n _ _ (by omega), Or.inr ⟨j, hj, e, ?_⟩⟩
      rw [mm_up_n _ _ (by omega)]
      exact propext ⟨fun g => absurd hd ((hK.2.2.1 j k hj hk f1 f2).1 g), fun g => absurd g c⟩
/-! what is remembered -/
theorem psh_1 {c : Nat} (hc : c ≤ 14) (P : Nat → Nat → Int32) (r : Nat → Int32) : ∃ d, pc1 c = d + 1 ∧ d ≤ 13 ∧ psh c P r d = r := by
  unfold pc1 psh
  by_cases e : c = 14
  · exact ⟨13, by rw [if_pos e], by omega, by rw [if_pos e, if_pos rfl]⟩
  · exact ⟨c, by rw [if_neg e], by omega, by rw [if_neg e, if_pos rfl]⟩
theorem psh_2 {c : Nat} (hc : c ≤ 14) (P : Nat → Nat → Int32) (r q : Nat → Int32) : ∃ d, pc1 (pc1 c) = d + 1 + 1 ∧ d + 1 ≤ 13 ∧ psh (pc1 c) (psh c P r) q (d + 1) = q ∧ psh (pc1 c) (psh c P r) q d = r := by
  have e13 : c = 14 ∨ c = 13 ∨ c ≤ 12 := by omega
  rcases e13 with e | e | e
  · have e1 : pc1 c = 14 := by unfold pc1; rw [if_pos e]
    refine ⟨12, by rw [e1]; rfl, by omega, ?_, ?_⟩
    · unfold psh
      rw [e1, if_pos rfl, if_pos rfl]
    · unfold psh
      rw [e1, if_pos rfl, if_neg (by omega), if_pos e, if_pos rfl]
  · have e1 : pc1 c = 14 := by unfold pc1; rw [if_neg (by omega), e]
    refine ⟨12, by rw [e1]; rfl, by omega, ?_, ?_⟩
    · unfold psh
      rw [e1, if_pos rfl, if_pos rfl]
    · unfold psh
      rw [e1, if_pos rfl, if_neg (by omega), if_neg (by omega), if_pos e.symm]
  · have e1 : pc1 c = c + 1 := by unfold pc1; rw [if_neg (by omega)]
    refine ⟨c, by rw [e1]; unfold pc1; rw [if_neg (by omega)], by omega, ?_, ?_⟩
    · unfold psh
      rw [e1, if_neg (by omega), if_pos rfl]
    · unfold psh
      rw [e1, if_neg (by omega), if_neg (by omega), if_neg (by omega), if_pos rfl]
/-! ticks -/
theorem sound_far (r : Nat → Int32) {v x : Nat} (hv : v < 6) (hx : 30 ≤ x) (h9 : ¬ x = 159) : mo_sound r v x = r x := by
  have n0 : ¬ x = 5 * v := by omega
  have n1 : ¬ x = 5 * v + 1 := by omega
  have n3 : ¬ x = 5 * v + 3 := by omega
  unfold mo_sound
  (repeat' split) <;> simp only [mm_up, n0, n1, n3, h9, if_false]
theorem tk_far (n : Nat) : n ≤ 6 → ∀ (r : Nat → Int32) (c : Int32) {x : Nat}, 30 ≤ x → ¬ x = 159 → (mo_tk n r c).2 x = r x := by
  induction n with
  | zero => intro _ r c x _ _; rfl
  | succ n ih =>
    intro hn r c x hx h9
    unfold mo_tk
    rw [ih (by omega) _ _ hx h9, sound_far _ (by omega) hx h9]
theorem tick_162 (r : Nat → Int32) : (mo_tick r).2 162 = r 162 + 1 := by
  show mm_up (mo_br 6 (mo_tk 6 r 0).2) 162 (mo_br 6 (mo_tk 6 r 0).2 162 + 1) 162 = r 162 + 1
  rw [mm_up_s, mo_br_150 6 _ (by omega) (by omega) (by omega), tk_far 6 (by omega) r 0 (by omega) (by omega)]
theorem rn_162 (n : Nat) : ∀ (r : Nat → Int32) (c : Int32), (mo_rn n r c).2 162 = r 162 + nI n := by
  induction n with
  | zero => intro r c; exact (Int32.add_zero _).symm
  | succ n ih =>
    intro r c
    unfold mo_rn
    rw [ih, tick_162, Int32.add_assoc, Int32.add_comm 1, nI_1]
theorem tk_ans (n : Nat) : ∀ (r : Nat → Int32) (c : Int32), ∃ m, m ≤ n ∧ (mo_tk n r c).1 = c + nI m := by
  induction n with
  | zero => intro r c; exact ⟨0, Nat.le_refl _, (Int32.add_zero c).symm⟩
  | succ n ih =>
    intro r c
    unfold mo_tk
    obtain ⟨m, hm, e⟩ := ih (mo_sound r (5 - n)) (c + mo_ends r (5 - n))
    rw [e]
    rcases mo_ends_c r (5 - n) with g | g
    · exact ⟨m, by omega, by rw [g, Int32.add_zero]⟩
    · exact ⟨m + 1, by omega, by rw [g, Int32.add_assoc, show (1 : Int32) = nI 1 from rfl, nI_add, Nat.add_comm]⟩
theorem rn_ans (n : Nat) : ∀ (r : Nat → Int32) (c : Int32), ∃ m, m ≤ 6 * n ∧ (mo_rn n r c).1 = c + nI m := by
  induction n with
  | zero => intro r c; exact ⟨0, Nat.le_refl _, (Int32.add_zero c).symm⟩
  | succ n ih =>
    intro r c
    unfold mo_rn
    obtain ⟨m, hm, e⟩ := ih (mo_tick r).2 (c + (mo_tick r).1)
    obtain ⟨m', hm', e'⟩ := tk_ans 6 r 0
    rw [e]
    refine ⟨m' + m, by omega, ?_⟩
    rw [show (mo_tick r).1 = 0 + nI m' from e', Int32.zero_add, Int32.add_assoc, nI_add]
theorem mx_l (a b : Int32) : ¬ sv_max a b < a ∧ ¬ sv_max a b < b := by
  unfold sv_max
  by_cases c : a < b
  · rw [if_pos c]
    exact ⟨fun g => by rw [okr_lt] at c g; omega, fun g => by rw [okr_lt] at g; omega⟩
  · rw [if_neg c]
    exact ⟨fun g => by rw [okr_lt] at g; omega, c⟩
theorem look_ge (n : Nat) : ∀ (r : Nat → Int32) (c : Int32), ¬ (mo_look n r c).1 < c ∧ (1 ≤ n → ¬ (mo_look n r c).1 < mo_loud (mo_rn n r 0).2) := by
  have hc : ∀ n (r : Nat → Int32) (c d : Int32), (mo_rn n r c).2 = (mo_rn n r d).2 := by
    intro n
    induction n with
    | zero => intro r c d; rfl
    | succ n ih => intro r c d; unfold mo_rn; exact ih _ _ _
  induction n with
  | zero => intro r c; exact ⟨fun g => by
      have g : c < c := g
      rw [okr_lt] at g; omega, fun g => by omega⟩
  | succ n ih =>
    intro r c
    unfold mo_look
    obtain ⟨h1, h2⟩ := ih (mo_tick r).2 (sv_max c (mo_loud (mo_tick r).2))
    obtain ⟨m1, m2⟩ := mx_l c (mo_loud (mo_tick r).2)
    refine ⟨fun g => ?_, fun _ g => ?_⟩
    · rw [okr_lt] at g h1 m1; omega
    · by_cases c0 : n = 0
      · subst c0
        have e : (mo_rn (0 + 1) r 0).2 = (mo_tick r).2 := rfl
        rw [e] at g
        rw [okr_lt] at g h1 m2; omega
      · refine h2 (by omega) ?_
        unfold mo_rn at g
        rw [hc n _ 0 (0 + (mo_tick r).1)]
        exact g
theorem look_s (m : Nat) (r : Nat → Int32) (c : Int32) : (mo_look (m + 1) r c).1 = (mo_look m (mo_tick r).2 (sv_max c (mo_loud (mo_tick r).2))).1 := by
  rw [mo_look]
theorem look_0 (r : Nat → Int32) (c : Int32) : (mo_look 0 r c).1 = c := by
  rw [mo_look]
theorem look_mono (n : Nat) (h : 1 ≤ n) (r : Nat → Int32) : ¬ (mo_look n r 0).1 < (mo_look 1 r 0).1 := by
  obtain ⟨m, rfl⟩ : ∃ m, n = m + 1 := ⟨n - 1, by omega⟩
  rw [look_s, show 1 = 0 + 1 from rfl, look_s, look_0]
  exact (look_ge m _ _).1
end KFF
