/-! the relation kept: ticks -/
section XE
variable {dt dp : Int32} {B : Nat} {I : Nat → Nat → Int32} {a : Nat} {r : Nat → Int32}
theorem v5 (v : Nat) : (¬ 5 * v = 5 * v + 3) ∧ (¬ 5 * v + 1 = 5 * v + 3) ∧ (¬ 5 * v + 2 = 5 * v + 3) ∧ (¬ 5 * v + 4 = 5 * v + 3) ∧ (¬ 5 * v = 5 * v + 1) ∧ (¬ 5 * v + 1 = 5 * v) ∧ (¬ 5 * v + 2 = 5 * v) ∧ (¬ 5 * v + 3 = 5 * v) ∧ (¬ 5 * v + 4 = 5 * v) ∧ (¬ 5 * v + 2 = 5 * v + 1) ∧ (¬ 5 * v + 3 = 5 * v + 1) ∧ (¬ 5 * v + 4 = 5 * v + 1) :=
  ⟨by omega, by omega, by omega, by omega, by omega, by omega, by omega, by omega, by omega, by omega, by omega, by omega⟩
theorem sv_min_n {x y : Nat} (hx : x < 2 ^ 31) (hy : y < 2 ^ 31) : sv_min (nI x) (nI y) = nI (if y < x then y else x) := by
  unfold sv_min
  simp only [nJ_lt hy hx]
  split <;> rfl
theorem R_sound (h : SX dt dp B I a r) {v : Nat} (hv : v < 6) : sv_ends (I (a + (5 + v))) (I (a + 2)) = mo_ends r v ∧ SX dt dp B (if sv_ends (I (a + (5 + v))) (I (a + 2)) = 0 then mm_up I (a + (5 + v)) (sv_move (I (a + (5 + v))) (I (a + 2))) else mm_up (mm_up I (a + (5 + v)) (sv_move (I (a + (5 + v))) (I (a + 2)))) a (mm_up (I a) 10 (I a 10 + 1))) a (mo_sound r v) := by
  have hV := h.1 v hv
  obtain ⟨gA, gB, gC, gD, ⟨g8, g9, g10, g11, g12⟩, ⟨s0, ri, ri1, ri2, sr⟩, ⟨s1, fa, fa1, fa2, sf⟩, ⟨s2, sh, sh2, ss⟩, ⟨s3, dy, dy1, dy2, sd⟩⟩ := h.2.2
  have out : ∀ x, ¬ (5 * v ≤ x ∧ x < 5 * v + 5) → ∀ y z w, mm_up (mm_up (mm_up (mm_up r (5 * v + 3) y) (5 * v) z) (5 * v + 1) w) (5 * v + 3) 0 x = r x ∧ mm_up (mm_up r (5 * v + 3) y) (5 * v) z x = r x ∧ mm_up r (5 * v + 3) y x = r x := fun x hx y z w => by
    have a0 : ¬ x = 5 * v := by omega
    have a1 : ¬ x = 5 * v + 1 := by omega
    have a3 : ¬ x = 5 * v + 3 := by omega
    simp only [mm_up_n _ _ a0, mm_up_n _ _ a1, mm_up_n _ _ a3, and_self]
  obtain ⟨v1, v2, v3, ⟨z1, z0, z3⟩ | ⟨hph, q2, q4, hk, ⟨st, st1, st2, es⟩, ⟨l, hl, el⟩⟩⟩ := hV
  · have n1 : ¬ (0 : Int32) = 1 := by decide
    have n2 : ¬ (0 : Int32) = 2 := by decide
    have n4 : ¬ (0 : Int32) = 4 := by decide
    have e1 : sv_ends (I (a + (5 + v))) (I (a + 2)) = 0 := by unfold sv_ends; rw [z1, if_neg n4]
    have e2 : mo_ends r v = 0 := by unfold mo_ends; rw [v1, z1, if_neg n4]
    have e3 : sv_move (I (a + (5 + v))) (I (a + 2)) = I (a + (5 + v)) := by unfold sv_move; rw [z1, if_neg n1, if_neg n2, if_neg n4]
    have e4 : mo_sound r v = r := by unfold mo_sound; rw [v1, z1, if_neg n1, if_neg n2, if_neg n4]
    rw [e1, e2, e3, e4, if_pos rfl, mm_up_self]
    exact ⟨rfl, h⟩
  have pk : 10 * I (a + (5 + v)) 2 = nI (10 * st) := by rw [es, show (10 : Int32) = nI 10 from rfl, nJ_mul]
  have sm : I (a + (5 + v)) 3 + I (a + 2) 0 = nI (l + ri) := by rw [el, sr, nI_add]
  rcases hph with e | e | e | e
  · have n4 : ¬ (1 : Int32) = 4 := by decide
    have e1 : sv_ends (I (a + (5 + v))) (I (a + 2)) = 0 := by unfold sv_ends; rw [e, if_neg n4]
    have e2 : mo_ends r v = 0 := by unfold mo_ends; rw [v1, e, if_neg n4]
    have e3 : sv_move (I (a + (5 + v))) (I (a + 2)) = sv_rise (I (a + (5 + v))) (I (a + 2)) := by unfold sv_move; rw [e, if_pos rfl]
    refine ⟨e1.trans e2.symm, ?_⟩
    rw [e1, e3, if_pos rfl]
    unfold mo_sound sv_rise
    rw [v1, e, if_pos rfl, v3, q2, ← s0, sm, pk, sv_min_n (by omega) (by omega)]
    simp only [nJ_lt (show l + ri < 2 ^ 31 by omega) (show 10 * st < 2 ^ 31 by omega)]
    by_cases c : l + ri < 10 * st
    · rw [if_pos c, if_neg (show ¬ 10 * st < l + ri by omega), if_neg (fun g => by have := (nI_eq (by omega) (by omega)).mp g; omega)]
      refine SX_v h hv ⟨?_, ?_, ?_, Or.inr ⟨Or.inl ?_, ?_, ?_, hk, ⟨st, st1, st2, es⟩, l + ri, by omega, mm_up_s _ _ _⟩⟩ (fun x hx => (out x hx _ _ 0).2.1)
      · rw [mm_up_s]; exact e.symm
      · rw [mm_up_n _ _ (v5 v).2.2.2.2.2.1, mm_up_n _ _ (v5 v).2.1]; exact v2
      · rw [mm_up_n _ _ (by omega), mm_up_s]; rfl
      · exact e
      · rw [mm_up_n _ _ (by omega), mm_up_n _ _ (by omega)]; exact q2
      · rw [mm_up_n _ _ (by omega), mm_up_n _ _ (by omega)]; exact q4
    · have em : (if 10 * st < l + ri then 10 * st else l + ri) = 10 * st := by split <;> omega
      rw [if_neg c, em, if_pos rfl]
      refine SX_v h hv ⟨?_, ?_, ?_, Or.inr ⟨Or.inr (Or.inl rfl), ?_, ?_, hk, ⟨st, st1, st2, es⟩, 10 * st, by omega, rfl⟩⟩ (fun x hx => (out x hx _ _ 0).2.1)
      · rw [mm_up_s]; rfl
      · rw [mm_up_n _ _ (by omega), mm_up_n _ _ (by omega)]; exact v2
      · rw [mm_up_n _ _ (by omega), mm_up_s]; rfl
      · rw [mm_up_n _ _ (by omega), mm_up_n _ _ (by omega)]; exact q2
      · rw [mm_up_n _ _ (by omega), mm_up_n _ _ (by omega)]; exact q4
  · have n4 : ¬ (2 : Int32) = 4 := by decide
    have n1 : ¬ (2 : Int32) = 1 := by decide
    have e1 : sv_ends (I (a + (5 + v))) (I (a + 2)) = 0 := by unfold sv_ends; rw [e, if_neg n4]
    have e2 : mo_ends r v = 0 := by unfold mo_ends; rw [v1, e, if_neg n4]
    have e3 : sv_move (I (a + (5 + v))) (I (a + 2)) = sv_fall (I (a + (5 + v))) (I (a + 2)) := by unfold sv_move; rw [e, if_neg n1, if_pos rfl]
    have hm : st * sh ≤ 100 * 100 := Nat.mul_le_mul st2 sh2
    have hm2 : 10 * st * sh = 10 * (st * sh) := Nat.mul_assoc 10 st sh
    have hq : 10 * st * sh / 100 ≤ 1000 := by omega
    have rs : 10 * I (a + (5 + v)) 2 * I (a + 2) 2 / 100 = nI (10 * st * sh / 100) := by
      rw [pk, ss, nJ_mul, show (100 : Int32) = nI 100 from rfl, nJ_div (by omega) (by omega) (by omega)]
    refine ⟨e1.trans e2.symm, ?_⟩
    rw [e1, e3, if_pos rfl]
    unfold mo_sound sv_fall
    rw [v1, e, if_neg n1, if_pos rfl, v3, q2, ← s1, ← s2, rs]
    revert hq
    generalize 10 * st * sh / 100 = rn
    intro hq
    have tl : (I (a + (5 + v)) 3).toInt = l := by rw [el, nI_toInt (by omega)]
    have tf : (I (a + 2) 1).toInt = fa := by rw [sf, nI_toInt (by omega)]
    have td : (I (a + (5 + v)) 3 - I (a + 2) 1).toInt = (l : Int) - fa := by rw [i32_sub (by omega) (by omega) (by omega) (by omega), tl, tf]
    have tr : (nI rn).toInt = rn := nI_toInt (by omega)
    by_cases c : rn + fa < l
    · have c1 : nI rn < I (a + (5 + v)) 3 - I (a + 2) 1 := by rw [Int32.lt_iff_toInt_lt, td, tr]; omega
      have c2 : ¬ I (a + (5 + v)) 3 - I (a + 2) 1 < nI rn := by rw [Int32.lt_iff_toInt_lt, td, tr]; omega
      have c3 : ¬ I (a + (5 + v)) 3 - I (a + 2) 1 = nI rn := fun g => by rw [g] at c1; exact c2 (by rw [g]; exact c1)
      have em : sv_max (I (a + (5 + v)) 3 - I (a + 2) 1) (nI rn) = I (a + (5 + v)) 3 - I (a + 2) 1 := by unfold sv_max; rw [if_neg c2]
      have ev : I (a + (5 + v)) 3 - I (a + 2) 1 = nI (l - fa) := by
        apply Int32.toInt_inj.mp
        rw [td, nI_toInt (by omega)]
        omega
      rw [if_pos c1, em, if_neg c3]
      refine SX_v h hv ⟨?_, ?_, ?_, Or.inr ⟨Or.inr (Or.inl ?_), ?_, ?_, hk, ⟨st, st1, st2, es⟩, l - fa, by omega, by rw [mm_up_s]; exact ev⟩⟩ (fun x hx => (out x hx _ _ 0).2.1)
      · rw [mm_up_s]; exact e.symm
      · rw [mm_up_n _ _ (by omega), mm_up_n _ _ (by omega)]; exact v2
      · rw [mm_up_n _ _ (by omega), mm_up_s]; rfl
      · exact e
      · rw [mm_up_n _ _ (by omega), mm_up_n _ _ (by omega)]; exact q2
      · rw [mm_up_n _ _ (by omega), mm_up_n _ _ (by omega)]; exact q4
    · have c1 : ¬ nI rn < I (a + (5 + v)) 3 - I (a + 2) 1 := by rw [Int32.lt_iff_toInt_lt, td, tr]; omega
      have em : sv_max (I (a + (5 + v)) 3 - I (a + 2) 1) (nI rn) = nI rn := by
        unfold sv_max
        by_cases c2 : I (a + (5 + v)) 3 - I (a + 2) 1 < nI rn
        · rw [if_pos c2]
        · rw [if_neg c2]
          apply Int32.toInt_inj.mp
          rw [Int32.lt_iff_toInt_lt, td, tr] at c2
          rw [td, tr]
          omega
      rw [if_neg c1, em, if_pos rfl]
      refine SX_v h hv ⟨?_, ?_, ?_, Or.inr ⟨Or.inr (Or.inr (Or.inl rfl)), ?_, ?_, hk, ⟨st, st1, st2, es⟩, rn, hq, rfl⟩⟩ (fun x hx => (out x hx _ _ 0).2.1)
      · rw [mm_up_s]; rfl
      · rw [mm_up_n _ _ (by omega), mm_up_n _ _ (by omega)]; exact v2
      · rw [mm_up_n _ _ (by omega), mm_up_s]; rfl
      · rw [mm_up_n _ _ (by omega), mm_up_n _ _ (by omega)]; exact q2
      · rw [mm_up_n _ _ (by omega), mm_up_n _ _ (by omega)]; exact q4
  · have n1 : ¬ (3 : Int32) = 1 := by decide
    have n2 : ¬ (3 : Int32) = 2 := by decide
    have n4 : ¬ (3 : Int32) = 4 := by decide
    have e1 : sv_ends (I (a + (5 + v))) (I (a + 2)) = 0 := by unfold sv_ends; rw [e, if_neg n4]
    have e2 : mo_ends r v = 0 := by unfold mo_ends; rw [v1, e, if_neg n4]
    have e3 : sv_move (I (a + (5 + v))) (I (a + 2)) = I (a + (5 + v)) := by unfold sv_move; rw [e, if_neg n1, if_neg n2, if_neg n4]
    have e4 : mo_sound r v = r := by unfold mo_sound; rw [v1, e, if_neg n1, if_neg n2, if_neg n4]
    rw [e1, e2, e3, e4, if_pos rfl, mm_up_self]
    exact ⟨rfl, h⟩
  · have n1 : ¬ (4 : Int32) = 1 := by decide
    have n2 : ¬ (4 : Int32) = 2 := by decide
    have e3 : sv_move (I (a + (5 + v))) (I (a + 2)) = sv_fade (I (a + (5 + v))) (I (a + 2)) := by unfold sv_move; rw [e, if_neg n1, if_neg n2, if_pos rfl]
    have tl : (I (a + (5 + v)) 3).toInt = l := by rw [el, nI_toInt (by omega)]
    have tf : (I (a + 2) 3).toInt = dy := by rw [sd, nI_toInt (by omega)]
    have td : (I (a + (5 + v)) 3 - I (a + 2) 3).toInt = (l : Int) - dy := by rw [i32_sub (by omega) (by omega) (by omega) (by omega), tl, tf]
    have z : (0 : Int32).toInt = 0 := by decide
    rw [e3]
    unfold sv_ends mo_ends mo_sound sv_fade
    rw [v1, e, if_pos rfl, if_pos rfl, if_neg n1, if_neg n2, if_pos rfl, v3, ← s3]
    by_cases c : dy < l
    · have c1 : 0 < I (a + (5 + v)) 3 - I (a + 2) 3 := by rw [Int32.lt_iff_toInt_lt, td, z]; omega
      have c2 : I (a + 2) 3 < I (a + (5 + v)) 3 := by rw [Int32.lt_iff_toInt_lt, tf, tl]; omega
      have ev : I (a + (5 + v)) 3 - I (a + 2) 3 = nI (l - dy) := by
        apply Int32.toInt_inj.mp
        rw [td, nI_toInt (by omega)]
        omega
      rw [if_pos c1, if_pos c2, if_pos rfl, if_pos c1, if_pos c2]
      refine ⟨rfl, SX_v h hv ⟨?_, ?_, ?_, Or.inr ⟨Or.inr (Or.inr (Or.inr e)), ?_, ?_, hk, ⟨st, st1, st2, es⟩, l - dy, by omega, by rw [mm_up_s]; exact ev⟩⟩ (fun x hx => (out x hx _ 0 0).2.2)⟩
      · rw [mm_up_n _ _ (by omega), v1]; rfl
      · rw [mm_up_n _ _ (by omega), v2]; rfl
      · rw [mm_up_s]; rfl
      · rw [mm_up_n _ _ (by omega)]; exact q2
      · rw [mm_up_n _ _ (by omega)]; exact q4
    · have c1 : ¬ 0 < I (a + (5 + v)) 3 - I (a + 2) 3 := by rw [Int32.lt_iff_toInt_lt, td, z]; omega
      have c2 : ¬ I (a + 2) 3 < I (a + (5 + v)) 3 := by rw [Int32.lt_iff_toInt_lt, tf, tl]; omega
      rw [if_neg c1, if_neg c2, if_neg (show ¬ (1 : Int32) = 0 by decide), if_neg c1, if_neg c2]
      refine ⟨rfl, ?_⟩
      have h1 : SX dt dp B (mm_up I (a + (5 + v)) (sv_free (I (a + (5 + v))))) a (mm_up (mm_up (mm_up (mm_up r (5 * v + 3) (I (a + (5 + v)) 3 - I (a + 2) 3)) (5 * v) 0) (5 * v + 1) (-1)) (5 * v + 3) 0) := by
        refine SX_v h hv ⟨?_, ?_, ?_, Or.inl ⟨rfl, rfl, rfl⟩⟩ (fun x hx => (out x hx _ _ _).1)
        · rw [mm_up_n _ _ (by omega), mm_up_n _ _ (by omega), mm_up_s]; rfl
        · rw [mm_up_n _ _ (by omega), mm_up_s]; rfl
        · rw [mm_up_s]; rfl
      refine SX_g h1 ?_ (fun x hx => mm_up_n _ _ (by omega))
      have eo : ∀ x, 150 ≤ x → mm_up (mm_up (mm_up (mm_up r (5 * v + 3) (I (a + (5 + v)) 3 - I (a + 2) 3)) (5 * v) 0) (5 * v + 1) (-1)) (5 * v + 3) 0 x = r x := fun x hx => (out x (by omega) _ _ _).1
      rw [mm_up_n _ _ (show ¬ a + 2 = a + (5 + v) by omega)]
      unfold GR
      rw [mm_up_s, mm_up_n _ _ (show ¬ 150 = 159 by decide), mm_up_n _ _ (show ¬ 151 = 159 by decide), mm_up_n _ _ (show ¬ 152 = 159 by decide), mm_up_n _ _ (show ¬ 153 = 159 by decide), mm_up_n _ _ (show ¬ 154 = 159 by decide), mm_up_n _ _ (show ¬ 155 = 159 by decide), mm_up_n _ _ (show ¬ 156 = 159 by decide), mm_up_n _ _ (show ¬ 157 = 159 by decide), mm_up_n _ _ (show ¬ 158 = 159 by decide), mm_up_n _ _ (show ¬ 160 = 159 by decide), mm_up_n _ _ (show ¬ 161 = 159 by decide), mm_up_n _ _ (show ¬ 162 = 159 by decide),
        eo 150 (by omega), eo 151 (by omega), eo 152 (by omega), eo 153 (by omega), eo 154 (by omega), eo 155 (by omega), eo 156 (by omega), eo 157 (by omega), eo 158 (by omega), eo 160 (by omega), eo 161 (by omega), eo 162 (by omega)]
      simp +decide only [mm_up_s, mm_up_n, not_false_eq_true]
      exact ⟨gA, gB, gC, gD, ⟨g8, g9, by rw [g10], g11, g12⟩, ⟨s0, ri, ri1, ri2, sr⟩, ⟨s1, fa, fa1, fa2, sf⟩, ⟨s2, sh, sh2, ss⟩, ⟨s3, dy, dy1, dy2, sd⟩⟩
theorem R_tk (n : Nat) (hn : n ≤ 6) : ∀ {I : Nat → Nat → Int32} {r : Nat → Int32} (c : Int32), SX dt dp B I a r → SX dt dp B (sy_tk a n I) a (mo_tk n r c).2 := by
  induction n with
  | zero => intro I r c h; exact h
  | succ n ih =>
    intro I r c h
    unfold sy_tk mo_tk
    exact ih (by omega) _ (R_sound h (by omega)).2
theorem mo_sound_159 (r : Nat → Int32) {v : Nat} (hv : v < 6) : mo_sound r v 159 = r 159 + mo_ends r v := by
  have n0 : ¬ 159 = 5 * v := by omega
  have n1 : ¬ 159 = 5 * v + 1 := by omega
  have n3 : ¬ 159 = 5 * v + 3 := by omega
  unfold mo_sound mo_ends
  by_cases h1 : r (5 * v) = 1
  · rw [if_pos h1, h1, if_neg (show ¬ (1 : Int32) = 4 by decide), Int32.add_zero]
    split <;> rw [mm_up_n _ _ n0, mm_up_n _ _ n3]
  rw [if_neg h1]
  by_cases h2 : r (5 * v) = 2
  · rw [if_pos h2, h2, if_neg (show ¬ (2 : Int32) = 4 by decide), Int32.add_zero]
    split <;> rw [mm_up_n _ _ n0, mm_up_n _ _ n3]
  rw [if_neg h2]
  by_cases h4 : r (5 * v) = 4
  · rw [if_pos h4, if_pos h4]
    by_cases c : r 156 < r (5 * v + 3)
    · rw [if_pos c, if_pos c, mm_up_n _ _ n3, Int32.add_zero]
    · rw [if_neg c, if_neg c, mm_up_s]
  · rw [if_neg h4, if_neg h4, Int32.add_zero]
theorem mo_tk_159 (n : Nat) (hn : n ≤ 6) : ∀ (r : Nat → Int32) (c : Int32), (mo_tk n r c).1 + r 159 = c + (mo_tk n r c).2 159 := by
  induction n with
  | zero => intro r c; rfl
  | succ n ih =>
    intro r c
    unfold mo_tk
    have := ih (by omega) (mo_sound r (5 - n)) (c + mo_ends r (5 - n))
    rw [mo_sound_159 r (show 5 - n < 6 by omega)] at this
    have h2 : (mo_tk n (mo_sound r (5 - n)) (c + mo_ends r (5 - n))).1 + (r 159 + mo_ends r (5 - n)) - mo_ends r (5 - n) = c + mo_ends r (5 - n) + (mo_tk n (mo_sound r (5 - n)) (c + mo_ends r (5 - n))).2 159 - mo_ends r (5 - n) := by rw [this]
    rw [← Int32.add_assoc, Int32.add_sub_cancel, Int32.add_assoc c, Int32.add_comm (mo_ends r (5 - n)), ← Int32.add_assoc, Int32.add_sub_cancel] at h2
    exact h2
theorem mo_late_dn (r : Nat → Int32) (n : Nat) : ∀ (b : Int32), (b = -1 ∨ ∃ j, j < 60 ∧ b = nI j ∧ 0 < r (30 + 2 * j)) → n ≤ 60 → mo_late r n b = -1 ∨ ∃ j, j < 60 ∧ mo_late r n b = nI j ∧ 0 < r (30 + 2 * j) := by
  induction n with
  | zero => intro b h _; exact h
  | succ n ih =>
    intro b h hn
    unfold mo_late
    split
    · next hc => exact ih _ (Or.inr ⟨59 - n, by omega, rfl, hc.1.1⟩) (by omega)
    · exact ih _ h (by omega)
theorem mo_br_150 (n : Nat) : ∀ (r : Nat → Int32) {x : Nat}, 150 ≤ x → ¬ x = 157 → ¬ x = 158 → mo_br n r x = r x := by
  induction n with
  | zero => intro r x _ _ _; rfl
  | succ n ih =>
    intro r x h1 h2 h3
    unfold mo_br
    split
    · next hg =>
      rcases mo_free_c r with e | ⟨j, hj, ej, -⟩
      · exact absurd e hg.2.2
      · rw [ih _ h1 h2 h3, ej, (cV hj).2.1, mo_start_at r hj, if_neg (by omega), if_neg (by omega), if_neg (by omega), if_neg (by omega), if_neg (by omega), if_neg h2, if_neg h3]
    · rfl
theorem R_br (n : Nat) : ∀ {B : Nat} {I : Nat → Nat → Int32} {r : Nat → Int32}, SX dt dp B I a r → r 151 = 1 → SX dt dp (B + n) (sy_br a n I) a (mo_br n r) := by
  induction n with
  | zero => intro B I r h _; exact h
  | succ n ih =>
    intro B I r h h1
    unfold sy_br mo_br
    rw [R_fr h, R_lt h]
    by_cases c1 : mo_free r = -1
    · rw [if_pos c1, if_neg (fun g => g.2.2 c1)]
      exact SX_B h (by omega)
    by_cases c2 : mo_lt r = -1
    · rw [if_neg c1, if_pos c2, if_neg (fun g => g.2.1 c2)]
      exact SX_B h (by omega)
    rw [if_neg c1, if_neg c2, if_pos ⟨h1, c2, c1⟩]
    rcases mo_free_c r with e | ⟨j, hj, ej, -⟩
    · exact absurd e c1
    rcases mo_late_dn r 60 (-1) (Or.inl rfl) (by omega) with e | ⟨k, hk, ek, hd⟩
    · exact absurd e c2
    have ek : mo_lt r = nI k := ek
    rw [ej, ek, (cV hj).2.1, (cK hk).2.1]
    have h2 := ih (R_begin h hj hk hd) (by rw [mo_start_at r hj, if_neg (by omega), if_neg (by omega), if_neg (by omega), if_neg (by omega), if_neg (by omega), if_neg (by omega), if_neg (by omega)]; exact h1)
    rw [show B + 1 + n = B + (n + 1) by omega] at h2
    exact h2
theorem R_tick (h : SX 0 0 B I a r) : SX 0 0 (B + 6) (sy_tick I a) a (mo_tick r).2 := by
  have h1 : SX 1 0 B (mm_up I a (mm_up (I a) 8 (I a 8 + 1))) a r := by
    obtain ⟨g4, g5, g6, g7, ⟨g8, g9⟩, gs⟩ := h.2.2
    refine SX_g h ?_ (fun x hx => rfl)
    simp +decide only [GR, mm_up_s, mm_up_n, not_false_eq_true]
    exact ⟨g4, g5, g6, g7, ⟨by rw [g8, Int32.add_zero], g9⟩, gs⟩
  have h2 := R_tk 6 (by omega) 0 h1
  have fin : ∀ {J : Nat → Nat → Int32} {q : Nat → Int32}, SX 1 0 (B + 6) J a q → SX 0 0 (B + 6) J a (mm_up q 162 (q 162 + 1)) := fun {J q} h => by
    refine ⟨fun v hv => VR_eq (h.1 v hv) (fun _ _ => rfl) (fun i hi => mm_up_n _ _ (by omega)), fun k hk => KR_eq (h.2.1 k hk) rfl rfl (mm_up_n _ _ (by omega)) (mm_up_n _ _ (by omega)), ?_⟩
    obtain ⟨g4, g5, g6, g7, ⟨g8, g9⟩, gs⟩ := h.2.2
    simp +decide only [GR, mm_up_s, mm_up_n, not_false_eq_true]
    exact ⟨g4, g5, g6, g7, ⟨by rw [g8, Int32.add_zero], g9⟩, gs⟩
  unfold sy_tick mo_tick
  have e6 := h2.2.2.2.2.1
  revert h2 e6
  generalize sy_tk a 6 (mm_up I a (mm_up (I a) 8 (I a 8 + 1))) = J
  generalize (mo_tk 6 r 0).2 = q
  intro h2 e6
  rcases e6.2 with e | e
  · rw [if_pos e]
    have eb : mo_br 6 q = q := by
      unfold mo_br
      rw [if_neg]
      intro g
      rw [← e6.1, e] at g
      exact absurd g.1 (by decide)
    rw [eb]
    exact fin (SX_B h2 (by omega))
  · rw [if_neg (by rw [e]; decide)]
    exact fin (R_br 6 h2 (by rw [← e6.1]; exact e))
theorem mo_tick_159 (r : Nat → Int32) : (mo_tick r).1 + r 159 = (mo_tick r).2 159 := by
  have h := mo_tk_159 6 (by omega) r 0
  rw [Int32.zero_add] at h
  unfold mo_tick
  dsimp only
  rw [mm_up_n _ _ (by decide), mo_br_150 6 _ (by decide) (by decide) (by decide)]
  exact h
theorem mo_rn_159 (n : Nat) : ∀ (r : Nat → Int32) (c : Int32), (mo_rn n r c).1 + r 159 = c + (mo_rn n r c).2 159 := by
  induction n with
  | zero => intro r c; rfl
  | succ n ih =>
    intro r c
    unfold mo_rn
    have := ih (mo_tick r).2 (c + (mo_tick r).1)
    rw [← mo_tick_159] at this
    have h2 : (mo_rn n (mo_tick r).2 (c + (mo_tick r).1)).1 + ((mo_tick r).1 + r 159) - (mo_tick r).1 = c + (mo_tick r).1 + (mo_rn n (mo_tick r).2 (c + (mo_tick r).1)).2 159 - (mo_tick r).1 := by rw [this]
    rw [Int32.add_comm (mo_tick r).1, ← Int32.add_assoc, Int32.add_sub_cancel, Int32.add_assoc c, Int32.add_comm (mo_tick r).1, ← Int32.add_assoc, Int32.add_sub_cancel] at h2
    exact h2
theorem R_run (n : Nat) : ∀ {B : Nat} {I : Nat → Nat → Int32} {r : Nat → Int32} (c : Int32), SX 0 0 B I a r → SX 0 0 (B + 6 * n) (sy_run a n I) a (mo_rn n r c).2 := by
  induction n with
  | zero => intro B I r c h; exact h
  | succ n ih =>
    intro B I r c h
    unfold sy_run mo_rn
    have h2 := ih (c + (mo_tick r).1) (R_tick h)
    rw [show B + 6 + 6 * n = B + 6 * (n + 1) by omega] at h2
    exact h2
theorem R_run_ans (h : SX 0 0 B I a r) (n : Nat) : sy_run a n I a 10 - I a 10 = (mo_rn n r 0).1 := by
  have h1 := (R_run n 0 h).2.2.2.2.2.2.1.2.2.1
  have h2 := h.2.2.2.2.2.2.1.2.2.1
  rw [h1, h2]
  have h3 := mo_rn_159 n r 0
  rw [Int32.zero_add] at h3
  rw [← h3, Int32.add_sub_cancel]
theorem R_look (n : Nat) : ∀ {B : Nat} {I : Nat → Nat → Int32} {r : Nat → Int32} (c : Int32), SX 0 0 B I 172 r → (sy_look n I c).1 = (mo_look n r c).1 := by
  induction n with
  | zero => intro B I r c h; rfl
  | succ n ih =>
    intro B I r c h
    unfold sy_look mo_look
    have h1 := R_tick h
    rw [R_loud h1]
    exact ih _ h1
end XE
