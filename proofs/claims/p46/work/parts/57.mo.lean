/-! the reference: a new row, the prey, a press, the pedal -/
section WH
variable {sc : Nat × (Nat → Int32)} {I : Nat → Nat → Int32} {o : Int64} {t : Nat} {Q : mm_Q}
theorem nJ_in {k n : Nat} (h : k < n) (hn : n < 2 ^ 31) : mm_in (nI k) n = true := by
  simp only [mm_in, Bool.and_eq_true, decide_eq_true_eq, nI_clamp (Nat.lt_trans h hn)]
  exact ⟨nI_pos' (Nat.lt_trans h hn), h⟩
theorem nJ_mul (a b : Nat) : nI a * nI b = nI (a * b) := (Int32.ofNat_mul a b).symm
theorem nJ_lt {a b : Nat} (ha : a < 2 ^ 31) (hb : b < 2 ^ 31) : (nI a < nI b) = (a < b) := by
  by_cases h : a < b
  · exact propext ⟨fun _ => h, fun _ => nI_lt h hb⟩
  · exact propext ⟨fun k => absurd k (nI_nlt (by omega) ha), fun k => absurd k h⟩
/-- the places from 163 - n on become 0 -/
def mo_z : Nat → (Nat → Int32) → (Nat → Int32)
  | 0, g => g
  | n + 1, g => mo_z n (mm_up g (162 - n) 0)
def mo_kn : Nat → (Nat → Int32) → (Nat → Int32)
  | 0, g => mm_up (mm_up (mm_up (mm_up g 153 200) 154 100) 155 60) 156 50
  | n + 1, g => mo_kn n (mm_up g (5 * (5 - n) + 1) (-1))
theorem mo_old_c (r : Nat → Int32) (p : Int32) (n : Nat) (hn : n ≤ 6) : ∀ (b : Int32), (b = -1 ∨ ∃ j, j < 6 ∧ b = nI j) → mo_old r p n b = -1 ∨ ∃ j, j < 6 ∧ mo_old r p n b = nI j := by
  induction n with
  | zero => intro b h; exact h
  | succ n ih =>
    intro b h
    unfold mo_old
    split
    · exact ih (by omega) _ (Or.inr ⟨5 - n, by omega, rfl⟩)
    · exact ih (by omega) _ h
def mo_preyL (r : Nat → Int32) : Nat → Nat → Nat
  | 0, b => b
  | n + 1, b => if 0 < r (5 * b + 3) - r (5 * (5 - n) + 3) ∨ r (5 * b + 3) - r (5 * (5 - n) + 3) = 0 ∧ r (5 * (5 - n) + 4) < r (5 * b + 4) then mo_preyL r n (5 - n) else mo_preyL r n b
theorem mo_preyL_c (r : Nat → Int32) (n : Nat) (hn : n ≤ 6) : ∀ b, b < 6 → mo_preyL r n b < 6 := by
  induction n with
  | zero => intro b h; exact h
  | succ n ih =>
    intro b h
    unfold mo_preyL
    split
    · exact ih (by omega) _ (by omega)
    · exact ih (by omega) _ h
def mo_prey (r : Nat → Int32) : Int32 := if r 152 = 1 ∨ 1 < r 152 ∧ mo_old r 4 6 (-1) = -1 then (if r 152 = 3 then -1 else mo_old r 1 6 (-1)) else if 1 < r 152 then mo_old r 4 6 (-1) else nI (mo_preyL r 6 (mo_old r 1 6 (-1)).toNatClampNeg)
def mo_pok (r : Nat → Int32) : Prop := ¬ r 152 = 1 → ¬ 1 < r 152 → ∃ j, j < 6 ∧ mo_old r 1 6 (-1) = nI j
theorem mo_prey_c {r : Nat → Int32} (h : mo_pok r) : mo_prey r = -1 ∨ ∃ j, j < 6 ∧ mo_prey r = nI j := by
  unfold mo_prey
  by_cases h1 : r 152 = 1 ∨ 1 < r 152 ∧ mo_old r 4 6 (-1) = -1
  · rw [if_pos h1]
    split
    · exact Or.inl rfl
    · exact mo_old_c _ _ 6 (by omega) _ (Or.inl rfl)
  · rw [if_neg h1]
    by_cases h2 : 1 < r 152
    · rw [if_pos h2]
      exact mo_old_c _ _ 6 (by omega) _ (Or.inl rfl)
    · rw [if_neg h2]
      obtain ⟨j, hj, e⟩ := h (fun e => h1 (Or.inl e)) h2
      exact Or.inr ⟨_, mo_preyL_c r 6 (by omega) _ (by rw [e, (cV hj).2.1]; exact hj), rfl⟩
def mo_press (r : Nat → Int32) (k : Nat) (s : Int32) : Nat → Int32 := mm_up (mm_up (mm_up r 157 (r 157 + 1)) (30 + 2 * k) (r 157 + 1)) (30 + 2 * k + 1) s
def mo_goJ (q : Nat → Int32) (k : Nat) (s : Int32) : Int32 × (Nat → Int32) :=
  if mo_voice q (nI k) = -1 then (if mo_free q = -1 then (if mo_prey q = -1 then (-1, mm_up q 161 (q 161 + 1)) else (mo_prey q, mo_start (mm_up q 160 (q 160 + 1)) (mo_prey q).toNatClampNeg k)) else (mo_free q, mo_start q (mo_free q).toNatClampNeg k))
  else (mo_voice q (nI k), mm_up (mm_up (mm_up q (5 * (mo_voice q (nI k)).toNatClampNeg) 1) (5 * (mo_voice q (nI k)).toNatClampNeg + 2) s) (5 * (mo_voice q (nI k)).toNatClampNeg + 4) (q 157))
def mo_kok (r : Nat → Int32) : Prop := ∀ v, v < 6 → mo_in13 (r (5 * v)) = true → ∃ k, k < 60 ∧ r (5 * v + 1) = nI k
theorem mo_kok_4 {r : Nat → Int32} (h : mo_kok r) (j : Nat) : mo_kok (mm_up r (5 * j) 4) := by
  intro v hv h2
  by_cases e : v = j
  · subst e
    rw [mm_up_s] at h2
    exact absurd h2 (by decide)
  · rw [mm_up_n _ _ (show ¬ 5 * v = 5 * j by omega)] at h2
    rw [mm_up_n _ _ (show ¬ 5 * v + 1 = 5 * j by omega)]
    exact h v hv h2
def mo_pd : Nat → (Nat → Int32) → Int32 → Int32 × (Nat → Int32)
  | 0, r, c => (c, r)
  | n + 1, r, c => if mo_held r (5 - n) = true then mo_pd n (mm_up r (5 * (5 - n)) 4) (c + 1) else mo_pd n r c
def mo_pedal (r : Nat → Int32) (d : Int32) : Int32 × (Nat → Int32) := if d = 0 then ((mo_pd 6 r 0).1, mm_up (mo_pd 6 r 0).2 150 0) else (0, mm_up r 150 1)
end WH
