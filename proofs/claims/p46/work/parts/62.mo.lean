/-! the reference: what its rows keep; the simulation -/
section WM
variable {sc : Nat × (Nat → Int32)} {I : Nat → Nat → Int32} {o : Int64} {t : Nat} {Q : mm_Q}
def mo_iv (r : Nat → Int32) (v : Nat) : Prop := r (5 * v) = 0 ∨ (r (5 * v) = 1 ∨ r (5 * v) = 2 ∨ r (5 * v) = 3 ∨ r (5 * v) = 4) ∧ ∃ k, k < 60 ∧ r (5 * v + 1) = nI k
def mo_inv (r : Nat → Int32) : Prop := ∀ v, v < 6 → mo_iv r v
theorem mo_iv_eq {r q : Nat → Int32} {v : Nat} (h : mo_iv r v) (e1 : q (5 * v) = r (5 * v)) (e2 : q (5 * v + 1) = r (5 * v + 1)) : mo_iv q v := by
  unfold mo_iv at h ⊢
  rw [e1, e2]
  exact h
/-- a change at a place of no phase and no key -/
theorem mo_inv_up {r : Nat → Int32} (h : mo_inv r) {j : Nat} {x : Int32} (hj : ∀ v, v < 6 → ¬ 5 * v = j ∧ ¬ 5 * v + 1 = j) : mo_inv (mm_up r j x) := fun v hv => mo_iv_eq (h v hv) (mm_up_n _ _ (hj v hv).1) (mm_up_n _ _ (hj v hv).2)
/-- a change of a phase where the key is one -/
theorem mo_inv_ph {r : Nat → Int32} (h : mo_inv r) {u : Nat} {x : Int32} (hx : x = 1 ∨ x = 2 ∨ x = 3 ∨ x = 4) (hk : ∃ k, k < 60 ∧ r (5 * u + 1) = nI k) : mo_inv (mm_up r (5 * u) x) := by
  intro v hv
  by_cases e : v = u
  · subst e
    refine Or.inr ⟨?_, ?_⟩
    · rw [mm_up_s]; exact hx
    · rw [mm_up_n _ _ (show ¬ 5 * v + 1 = 5 * v by omega)]; exact hk
  · exact mo_iv_eq (h v hv) (mm_up_n _ _ (show ¬ 5 * v = 5 * u by omega)) (mm_up_n _ _ (show ¬ 5 * v + 1 = 5 * u by omega))
theorem mo_inv_key {r : Nat → Int32} (h : mo_inv r) {u : Nat} (hu : u < 6) (h0 : ¬ r (5 * u) = 0) : ∃ k, k < 60 ∧ r (5 * u + 1) = nI k := by
  rcases h u hu with e | ⟨-, e⟩
  · exact absurd e h0
  · exact e
theorem mo_inv_kok {r : Nat → Int32} (h : mo_inv r) : mo_kok r := by
  intro v hv h2
  refine mo_inv_key h hv fun e => ?_
  rw [e] at h2
  exact absurd h2 (by decide)
theorem mo_inv_nn {r : Nat → Int32} (h : mo_inv r) {v : Nat} (hv : v < 6) : (r (5 * v) = 0) = ¬ 0 < r (5 * v) ∧ (r (5 * v) = 0) = (r (5 * v) < 1) := by
  rcases h v hv with e | ⟨e | e | e | e, -⟩ <;> rw [e] <;> decide
theorem mo_start_k (r : Nat → Int32) {v k j : Nat} (hv : v < 6) (hj : j < 6) : mo_start r v k (5 * j + 1) = if j = v then nI k else r (5 * j + 1) := by
  unfold mo_start mm_up
  simp only [show ¬ 5 * j + 1 = 158 by omega, show ¬ 5 * j + 1 = 5 * v + 4 by omega, show ¬ 5 * j + 1 = 157 by omega, show ¬ 5 * j + 1 = 5 * v + 3 by omega, show ¬ 5 * j + 1 = 5 * v + 2 by omega, if_false]
  by_cases h : j = v
  · subst h; simp
  · simp only [h, show ¬ 5 * j + 1 = 5 * v + 1 by omega, show ¬ 5 * j + 1 = 5 * v by omega, if_false]
theorem mo_inv_start {r : Nat → Int32} (h : mo_inv r) {v k : Nat} (hv : v < 6) (hk : k < 60) : mo_inv (mo_start r v k) := by
  intro u hu
  by_cases e : u = v
  · refine Or.inr ⟨?_, k, hk, ?_⟩
    · rw [mo_start_p r hv hu, if_pos e]; exact Or.inl rfl
    · rw [mo_start_k r hv hu, if_pos e]
  · refine mo_iv_eq (h u hu) ?_ ?_
    · rw [mo_start_p r hv hu, if_neg e]
    · rw [mo_start_k r hv hu, if_neg e]
theorem mo_far {j : Nat} (h : 30 ≤ j) : ∀ v, v < 6 → ¬ 5 * v = j ∧ ¬ 5 * v + 1 = j := fun v hv => ⟨by omega, by omega⟩
theorem mo_far2 (u : Nat) {i : Nat} (h : 2 ≤ i) (h5 : i < 5) : ∀ v, v < 6 → ¬ 5 * v = 5 * u + i ∧ ¬ 5 * v + 1 = 5 * u + i := fun v hv => ⟨by omega, by omega⟩
theorem mo_inv_press {r : Nat → Int32} (h : mo_inv r) {k : Nat} {s : Int32} : mo_inv (mo_press r k s) :=
  mo_inv_up (mo_inv_up (mo_inv_up h (mo_far (by omega))) (mo_far (by omega))) (mo_far (by omega))
theorem mo_old_some (r : Nat → Int32) (n : Nat) (hn : n ≤ 6) (hr : ∀ v, v < 6 → ¬ r (5 * v) < 1) : ∀ b : Int32, ((∃ j, j < 6 ∧ b = nI j) ∨ 0 < n ∧ b = -1) → ∃ j, j < 6 ∧ mo_old r 1 n b = nI j := by
  induction n with
  | zero =>
    intro b h
    rcases h with h | ⟨h, -⟩
    · exact h
    · omega
  | succ n ih =>
    intro b h
    unfold mo_old
    split
    · exact ih (by omega) _ (Or.inl ⟨5 - n, by omega, rfl⟩)
    · next hc =>
      refine ih (by omega) _ (Or.inl ?_)
      rcases h with h | ⟨-, h⟩
      · exact h
      · exact absurd ⟨hr (5 - n) (by omega), Or.inl h⟩ hc
theorem mo_free_none {r : Nat → Int32} (h : mo_free r = -1) {v : Nat} (hv : v < 6) : ¬ r (5 * v) = 0 := by
  have key : ∀ (P : Nat → Bool) (n : Nat), n ≤ 6 → sy_find P n = -1 → ∀ v, 6 - n ≤ v → v < 6 → P v = false := by
    intro P n
    induction n with
    | zero => intro _ _ v h1 h2; omega
    | succ n ih =>
      intro hn hf v h1 h2
      unfold sy_find at hf
      by_cases hp9 : P (5 - n) = true
      · rw [if_pos hp9] at hf
        have h3 := (cV (show 5 - n < 6 by omega)).2.2
        rw [hf] at h3
        exact absurd rfl (of_eq_false h3)
      · rw [if_neg hp9] at hf
        by_cases e : v = 5 - n
        · rw [e]; exact Bool.eq_false_iff.mpr hp9
        · exact ih (by omega) hf v (by omega) h2
  exact of_decide_eq_false (key _ 6 (by omega) h v (by omega) hv)
theorem mo_inv_pok {r : Nat → Int32} (h : mo_inv r) (hf : mo_free r = -1) : mo_pok r := fun _ _ => mo_old_some r 6 (by omega) (fun v hv hl => mo_free_none hf hv (by rw [(mo_inv_nn h hv).2]; exact hl)) (-1) (Or.inr ⟨by omega, rfl⟩)
theorem mo_voice_c (r : Nat → Int32) (k : Int32) : mo_voice r k = -1 ∨ ∃ j, j < 6 ∧ mo_voice r k = nI j ∧ 0 < r (5 * j) ∧ r (5 * j + 1) = k := by
  rcases sy_find_c (fun v => decide (0 < r (5 * v) ∧ r (5 * v + 1) = k)) 6 (by omega) with h | ⟨j, hj, h, h2⟩
  · exact Or.inl h
  · exact Or.inr ⟨j, hj, h, of_decide_eq_true h2⟩
theorem mo_inv_go {q : Nat → Int32} (h : mo_inv q) {k : Nat} (hk : k < 60) {s : Int32} : mo_inv (mo_goJ q k s).2 := by
  unfold mo_goJ
  by_cases h1 : mo_voice q (nI k) = -1
  · rw [if_pos h1]
    by_cases h2 : mo_free q = -1
    · rw [if_pos h2]
      by_cases h3 : mo_prey q = -1
      · rw [if_pos h3]
        exact mo_inv_up h (mo_far (by omega))
      · rw [if_neg h3]
        rcases mo_prey_c (mo_inv_pok h h2) with e | ⟨j, hj, e⟩
        · exact absurd e h3
        · rw [e, (cV hj).2.1]
          exact mo_inv_start (mo_inv_up h (mo_far (by omega))) hj hk
    · rw [if_neg h2]
      rcases mo_free_c q with e | ⟨j, hj, e, -⟩
      · exact absurd e h2
      · rw [e, (cV hj).2.1]
        exact mo_inv_start h hj hk
  · rw [if_neg h1]
    rcases mo_voice_c q (nI k) with e | ⟨j, hj, e, -, e2⟩
    · exact absurd e h1
    · rw [e, (cV hj).2.1]
      exact mo_inv_up (mo_inv_up (mo_inv_ph h (Or.inl rfl) ⟨k, hk, e2⟩) (mo_far2 j (by omega) (by omega))) (mo_far2 j (by omega) (by omega))
theorem mo_inv_lift {r : Nat → Int32} (h : mo_inv r) {k : Nat} (hk : k < 60) : mo_inv (mo_lift r k) := by
  unfold mo_lift
  have h0 : mo_inv (mm_up r (30 + 2 * k) 0) := mo_inv_up h (mo_far (by omega))
  split
  · next h1 =>
    rcases mo_voice_c r (nI k) with e | ⟨j, hj, e, -, e2⟩
    · exact absurd e h1.1
    · rw [e, (cV hj).2.1]
      exact mo_inv_ph h0 (Or.inr (Or.inr (Or.inr rfl))) ⟨k, hk, by rw [mm_up_n _ _ (show ¬ 5 * j + 1 = 30 + 2 * k by omega)]; exact e2⟩
  · exact h0
theorem mo_inv_pd (n : Nat) (hn : n ≤ 6) : ∀ {r : Nat → Int32} {c : Int32}, mo_inv r → mo_inv (mo_pd n r c).2 := by
  induction n with
  | zero => intro r c h; exact h
  | succ n ih =>
    intro r c h
    unfold mo_pd
    split
    · next h1 =>
      refine ih (by omega) (mo_inv_ph h (Or.inr (Or.inr (Or.inr rfl))) (mo_inv_kok h _ (by omega) ?_))
      unfold mo_held at h1
      rw [Bool.and_eq_true] at h1
      exact h1.1
    · exact ih (by omega) h
theorem mo_inv_pedal {r : Nat → Int32} (h : mo_inv r) (d : Int32) : mo_inv (mo_pedal r d).2 := by
  unfold mo_pedal
  split
  · exact mo_inv_up (mo_inv_pd 6 (by omega) h) (mo_far (by omega))
  · exact mo_inv_up h (mo_far (by omega))
theorem mo_inv_sound {r : Nat → Int32} (h : mo_inv r) {v : Nat} (hv : v < 6) : mo_inv (mo_sound r v) := by
  have h3 : ∀ x, mo_inv (mm_up r (5 * v + 3) x) := fun x => mo_inv_up h (mo_far2 v (by omega) (by omega))
  have hk : ¬ r (5 * v) = 0 → ∀ x, ∃ k, k < 60 ∧ mm_up r (5 * v + 3) x (5 * v + 1) = nI k := fun h0 x => by
    rw [mm_up_n _ _ (show ¬ 5 * v + 1 = 5 * v + 3 by omega)]
    exact mo_inv_key h hv h0
  unfold mo_sound
  by_cases h1 : r (5 * v) = 1
  · rw [if_pos h1]
    have hk1 := hk (by rw [h1]; decide)
    split
    · exact mo_inv_ph (h3 _) (Or.inl rfl) (hk1 _)
    · exact mo_inv_ph (h3 _) (Or.inr (Or.inl rfl)) (hk1 _)
  rw [if_neg h1]
  by_cases h2 : r (5 * v) = 2
  · rw [if_pos h2]
    have hk1 := hk (by rw [h2]; decide)
    split
    · exact mo_inv_ph (h3 _) (Or.inr (Or.inl rfl)) (hk1 _)
    · exact mo_inv_ph (h3 _) (Or.inr (Or.inr (Or.inl rfl))) (hk1 _)
  rw [if_neg h2]
  by_cases h4 : r (5 * v) = 4
  · rw [if_pos h4]
    split
    · exact h3 _
    · refine mo_inv_up (mo_inv_up ?_ (mo_far2 v (by omega) (by omega))) (mo_far (by omega))
      intro u hu
      by_cases e : u = v
      · subst e
        refine Or.inl ?_
        rw [mm_up_n _ _ (show ¬ 5 * u = 5 * u + 1 by omega), mm_up_s]
      · refine mo_iv_eq (h u hu) ?_ ?_
        · rw [mm_up_n _ _ (show ¬ 5 * u = 5 * v + 1 by omega), mm_up_n _ _ (show ¬ 5 * u = 5 * v by omega), mm_up_n _ _ (show ¬ 5 * u = 5 * v + 3 by omega)]
        · rw [mm_up_n _ _ (show ¬ 5 * u + 1 = 5 * v + 1 by omega), mm_up_n _ _ (show ¬ 5 * u + 1 = 5 * v by omega), mm_up_n _ _ (show ¬ 5 * u + 1 = 5 * v + 3 by omega)]
  · rw [if_neg h4]
    exact h
theorem mo_inv_tk (n : Nat) (hn : n ≤ 6) : ∀ {r : Nat → Int32} {c : Int32}, mo_inv r → mo_inv (mo_tk n r c).2 := by
  induction n with
  | zero => intro r c h; exact h
  | succ n ih => intro r c h; exact ih (by omega) (mo_inv_sound h (by omega))
theorem mo_inv_br (n : Nat) : ∀ {r : Nat → Int32}, mo_inv r → mo_inv (mo_br n r) := by
  induction n with
  | zero => intro r h; exact h
  | succ n ih =>
    intro r h
    unfold mo_br
    split
    · next hg =>
      rcases mo_free_c r with e | ⟨j, hj, ej, -⟩
      · exact absurd e hg.2.2
      rcases mo_lt_c r with e | ⟨k, hk, ek⟩
      · exact absurd e hg.2.1
      rw [ej, ek, (cV hj).2.1, (cK hk).2.1]
      exact ih (mo_inv_start h hj hk)
    · exact h
theorem mo_inv_tick {r : Nat → Int32} (h : mo_inv r) : mo_inv (mo_tick r).2 := mo_inv_up (mo_inv_br 6 (mo_inv_tk 6 (by omega) h)) (mo_far (by omega))
theorem mo_inv_rn (n : Nat) : ∀ {r : Nat → Int32} {c : Int32}, mo_inv r → mo_inv (mo_rn n r c).2 := by
  induction n with
  | zero => intro r c h; exact h
  | succ n ih => intro r c h; exact ih (mo_inv_tick h)
/-- a turn of a simulation -/
noncomputable def mo_turn (q : Nat → Int32) (r : Int32) : Nat → Int32 :=
  if r - r / 16 * 16 < 6 then (if 0 < q (30 + 2 * (sy_key (r / 16)).toNatClampNeg) then q else (mo_goJ (mo_press q (sy_key (r / 16)).toNatClampNeg (1 + (r / 16 / 64 - r / 16 / 64 / 100 * 100))) (sy_key (r / 16)).toNatClampNeg (1 + (r / 16 / 64 - r / 16 / 64 / 100 * 100))).2)
  else if r - r / 16 * 16 < 10 then (if 0 < q (30 + 2 * (sy_key (r / 16)).toNatClampNeg) then mo_lift q (sy_key (r / 16)).toNatClampNeg else q)
  else if r - r / 16 * 16 = 10 then (mo_pedal q (if r / 16 - r / 16 / 2 * 2 = 0 then 1 else 0)).2
  else if r - r / 16 * 16 = 11 then mm_up q 152 (r / 16 - r / 16 / 4 * 4)
  else if r - r / 16 * 16 = 12 then mm_up q 151 (if r / 16 - r / 16 / 2 * 2 = 0 then 1 else 0)
  else (mo_rn (1 + (r / 16 - r / 16 / 9 * 9)).toNatClampNeg q 0).2
theorem sy_okr_key {r : Int32} (h : sy_okr r) : ∃ k, k < 60 ∧ sy_key (r / 16) = nI k := by
  obtain ⟨k, hk, e⟩ := cJ (n := 60) (by omega) h.1.1 h.1.2
  exact ⟨k, hk, e⟩
theorem mo_inv_turn {q : Nat → Int32} (h : mo_inv q) {r : Int32} (hr : sy_okr r) : mo_inv (mo_turn q r) := by
  obtain ⟨k, hk, ek⟩ := sy_okr_key hr
  unfold mo_turn
  rw [ek, (cK hk).2.1]
  split
  · split
    · exact h
    · exact mo_inv_go (mo_inv_press h) hk
  · split
    · split
      · exact mo_inv_lift h hk
      · exact h
    · split
      · exact mo_inv_pedal h _
      · split
        · exact mo_inv_up h (mo_far (by omega))
        · split
          · exact mo_inv_up h (mo_far (by omega))
          · exact mo_inv_rn _ h
end WM
