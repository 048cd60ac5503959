/-! what the law's check of a state rests on, of rows alone -/
section KFA
variable {B E : Nat} {I : Nat → Nat → Int32} {r q : Nat → Int32}
/-- how many voices from the (6 - n)th on sound -/
def nuse (r : Nat → Int32) : Nat → Nat
  | 0 => 0
  | n + 1 => (if 0 < r (5 * (5 - n)) then 1 else 0) + nuse r n
theorem nuse_fold (r : Nat → Int32) (n : Nat) : ∀ m : Nat, sy_fold (fun v c => c + (if 0 < r (5 * v) then 1 else 0)) n (nI m) = nI (m + nuse r n) := by
  induction n with
  | zero => intro m; rfl
  | succ n ih =>
    intro m
    unfold sy_fold nuse
    by_cases c : 0 < r (5 * (5 - n))
    · rw [if_pos c, if_pos c, nI_1, ih]
      congr 1; omega
    · rw [if_neg c, if_neg c, Int32.add_zero, ih]
      congr 1; omega
theorem nuse_le (r : Nat → Int32) (n : Nat) : nuse r n ≤ n := by
  induction n with
  | zero => exact Nat.le_refl _
  | succ n ih => unfold nuse; split <;> omega
theorem nuse_0 (r : Nat → Int32) (n : Nat) : n ≤ 6 → (nuse r n = 0 ↔ ∀ v, 6 - n ≤ v → v < 6 → ¬ 0 < r (5 * v)) := by
  induction n with
  | zero => intro _; exact ⟨fun _ v h1 h2 => by omega, fun _ => rfl⟩
  | succ n ih =>
    intro hn
    have ih := ih (by omega)
    unfold nuse
    by_cases c : 0 < r (5 * (5 - n))
    · rw [if_pos c]
      exact ⟨fun h => by omega, fun h => absurd c (h _ (by omega) (by omega))⟩
    · rw [if_neg c, Nat.zero_add, ih]
      refine ⟨fun h v h1 h2 => ?_, fun h v h1 h2 => h v (by omega) h2⟩
      by_cases e : v = 5 - n
      · subst e; exact c
      · exact h v (by omega) h2
theorem nuse_f (r : Nat → Int32) (n : Nat) : n ≤ 6 → (nuse r n = n ↔ ∀ v, 6 - n ≤ v → v < 6 → 0 < r (5 * v)) := by
  induction n with
  | zero => intro _; exact ⟨fun _ v h1 h2 => by omega, fun _ => rfl⟩
  | succ n ih =>
    intro hn
    have ih := ih (by omega)
    have hl := nuse_le r n
    unfold nuse
    by_cases c : 0 < r (5 * (5 - n))
    · rw [if_pos c]
      refine ⟨fun h v h1 h2 => ?_, fun h => ?_⟩
      · by_cases e : v = 5 - n
        · subst e; exact c
        · exact ih.mp (by omega) v (by omega) h2
      · have := ih.mpr (fun v h1 h2 => h v (by omega) h2)
        omega
    · rw [if_neg c]
      exact ⟨fun h => by omega, fun h => absurd (h _ (by omega) (by omega)) c⟩
theorem use_n (r : Nat → Int32) : mo_use r = nI (nuse r 6) := by
  have := nuse_fold r 6 0
  rw [Nat.zero_add] at this
  exact this
theorem use_0 (r : Nat → Int32) : mo_use r = 0 ↔ ∀ v, v < 6 → ¬ 0 < r (5 * v) := by
  have h1 := nuse_le r 6
  rw [use_n, show (0 : Int32) = nI 0 from rfl, nI_eq (by omega) (by omega), nuse_0 r 6 (by omega)]
  exact ⟨fun h v hv => h v (by omega) hv, fun h v _ hv => h v hv⟩
theorem free_all (hi : mo_inv r) : mo_free r = -1 ↔ ∀ v, v < 6 → 0 < r (5 * v) := by
  refine ⟨fun h v hv => mo_free_all h hi hv, fun h => ?_⟩
  rcases mo_free_c r with e | ⟨j, hj, -, e⟩
  · exact e
  · have := h j hj
    rw [e] at this
    exact absurd this i1.2.2.2
theorem use_6 (hi : mo_inv r) : ¬ mo_use r < 6 ↔ mo_free r = -1 := by
  have h1 := nuse_le r 6
  rw [use_n, show (6 : Int32) = nI 6 from rfl, nI_ltI (by omega) (by omega), free_all hi]
  have h2 := nuse_f r 6 (by omega)
  refine ⟨fun h v hv => h2.mp (by omega) v (by omega) hv, fun h => ?_⟩
  have := h2.mpr (fun v _ hv => h v hv)
  omega
theorem use_66 (hi : mo_inv r) : mo_use r = 6 ↔ mo_free r = -1 := by
  have h1 := nuse_le r 6
  rw [← use_6 hi, use_n, show (6 : Int32) = nI 6 from rfl, nI_ltI (by omega) (by omega), nI_eq (by omega) (by omega)]
  omega
theorem use_in (r : Nat → Int32) : Int64.ofNat 0 ≤ (mo_use r).toInt64 ∧ (mo_use r).toInt64 ≤ Int64.ofNat 6 := by
  have h1 := nuse_le r 6
  have h2 : ∀ k, k < 7 → Int64.ofNat 0 ≤ (nI k).toInt64 ∧ (nI k).toInt64 ≤ Int64.ofNat 6 := by decide +kernel
  rw [use_n]
  exact h2 _ (by omega)
theorem KV_notes (h : KV E r) : r 158 = r 159 + r 160 + mo_use r := by
  have e : mo_use r = 0 + smv (usv r) 6 := by
    rw [← smv_fold]
    rfl
  rw [e, Int32.zero_add]
  exact h.2.1
theorem old_none (r : Nat → Int32) (n : Nat) : n ≤ 6 → ∀ b : Int32, mo_old r 1 n b = -1 → b = -1 ∧ ∀ v, 6 - n ≤ v → v < 6 → r (5 * v) < 1 := by
  induction n with
  | zero => intro _ b h; exact ⟨h, fun v h1 h2 => by omega⟩
  | succ n ih =>
    intro hn b h
    unfold mo_old at h
    by_cases c : ¬ r (5 * (5 - n)) < 1 ∧ (b = -1 ∨ r (5 * (5 - n) + 4) < r (5 * b.toNatClampNeg + 4))
    · rw [if_pos c] at h
      exact absurd (ih (by omega) _ h).1 (neN (by omega))
    · rw [if_neg c] at h
      obtain ⟨e, m⟩ := ih (by omega) _ h
      refine ⟨e, fun v h1 h2 => ?_⟩
      by_cases ev : v = 5 - n
      · subst ev
        exact Classical.byContradiction fun g => c ⟨g, Or.inl e⟩
      · exact m v (by omega) h2
theorem old_free (r : Nat → Int32) (n : Nat) : n ≤ 6 → (∀ v, v < 6 → r (5 * v) < 1) → mo_old r 1 n (-1) = -1 := by
  induction n with
  | zero => intro _ _; rfl
  | succ n ih =>
    intro hn h
    unfold mo_old
    rw [if_neg (fun g => g.1 (h _ (by omega)))]
    exact ih (by omega) h
theorem pos_1 (x : Int32) : (¬ 0 < x) = (x < 1) := by
  rw [okr_lt, okr_lt]
  have e0 : (0 : Int32).toInt = 0 := by decide
  have e1 : (1 : Int32).toInt = 1 := by decide
  rw [e0, e1]
  exact propext ⟨fun _ => by omega, fun _ => by omega⟩
theorem old_use (r : Nat → Int32) : (mo_old r 1 6 (-1) = -1) = (mo_use r = 0) := by
  rw [propext (use_0 r)]
  refine propext ⟨fun h v hv => ?_, fun h => old_free r 6 (by omega) fun v hv => ?_⟩
  · rw [pos_1]; exact (old_none r 6 (by omega) _ h).2 v (by omega) hv
  · rw [← pos_1]; exact h v hv
/-- how many keys from the (60 - n)th on are so -/
def nkey (W : Nat → Bool) : Nat → Nat
  | 0 => 0
  | n + 1 => (if W (59 - n) = true then 1 else 0) + nkey W n
theorem nkey_le (W : Nat → Bool) (n : Nat) : nkey W n ≤ n := by
  induction n with
  | zero => exact Nat.le_refl _
  | succ n ih => unfold nkey; split <;> omega
theorem nkey_0 (W : Nat → Bool) (n : Nat) : n ≤ 60 → (nkey W n = 0 ↔ ∀ k, 60 - n ≤ k → k < 60 → ¬ W k = true) := by
  induction n with
  | zero => intro _; exact ⟨fun _ v h1 h2 => by omega, fun _ => rfl⟩
  | succ n ih =>
    intro hn
    have ih := ih (by omega)
    unfold nkey
    by_cases c : W (59 - n) = true
    · rw [if_pos c]
      exact ⟨fun h => by omega, fun h => absurd c (h _ (by omega) (by omega))⟩
    · rw [if_neg c, Nat.zero_add, ih]
      refine ⟨fun h v h1 h2 => ?_, fun h v h1 h2 => h v (by omega) h2⟩
      by_cases e : v = 59 - n
      · subst e; exact c
      · exact h v (by omega) h2
theorem nwait_n (r : Nat → Int32) (n : Nat) : ∀ m : Nat, sy_keys (fun k c => c + (if 0 < r (30 + 2 * k) ∧ mo_voice r (nI k) = -1 then 1 else 0)) n (nI m) = nI (m + nkey (fun k => decide (0 < r (30 + 2 * k) ∧ mo_voice r (nI k) = -1)) n) := by
  induction n with
  | zero => intro m; rfl
  | succ n ih =>
    intro m
    unfold sy_keys nkey
    by_cases c : 0 < r (30 + 2 * (59 - n)) ∧ mo_voice r (nI (59 - n)) = -1
    · rw [if_pos c, if_pos (decide_eq_true c), nI_1, ih]
      congr 1; omega
    · rw [if_neg c, if_neg (by rw [decide_eq_true_iff]; exact c), Int32.add_zero, ih]
      congr 1; omega
theorem lt_wait (r : Nat → Int32) : (mo_lt r = -1) = (mo_nwait r = 0) := by
  have h1 := nkey_le (fun k => decide (0 < r (30 + 2 * k) ∧ mo_voice r (nI k) = -1)) 60
  have h2 : mo_nwait r = nI (nkey (fun k => decide (0 < r (30 + 2 * k) ∧ mo_voice r (nI k) = -1)) 60) := by
    have := nwait_n r 60 0
    rw [Nat.zero_add] at this
    exact this
  have h3 : nI (nkey (fun k => decide (0 < r (30 + 2 * k) ∧ mo_voice r (nI k) = -1)) 60) = 0 ↔ nkey (fun k => decide (0 < r (30 + 2 * k) ∧ mo_voice r (nI k) = -1)) 60 = 0 := nI_eq (b := 0) (by omega) (by omega)
  have h4 := nkey_0 (fun k => decide (0 < r (30 + 2 * k) ∧ mo_voice r (nI k) = -1)) 60 (by omega)
  rw [h2]
  refine propext ⟨fun h => h3.mpr (h4.mpr fun k _ hk g => ?_), fun h => ?_⟩
  · rcases lt_sp r with ⟨-, m⟩ | ⟨j, hj, e, -⟩
    · exact m k hk (of_decide_eq_true (p := 0 < r (30 + 2 * k) ∧ mo_voice r (nI k) = -1) g)
    · rw [e] at h; exact neN (by omega) h
  · rcases lt_sp r with ⟨e, -⟩ | ⟨j, hj, e, hw, -⟩
    · exact e
    · exact absurd (decide_eq_true (p := 0 < r (30 + 2 * j) ∧ mo_voice r (nI j) = -1) hw) (h4.mp (h3.mp h) j (by omega) hj)
theorem lt_ok (r : Nat → Int32) : mo_lt r = -1 ∨ ∃ j, j < 60 ∧ mo_lt r = nI j ∧ 0 < r (30 + 2 * j) ∧ mo_voice r (nI j) = -1 := by
  rcases lt_sp r with ⟨e, -⟩ | ⟨j, hj, e, hw, -⟩
  · exact Or.inl e
  · exact Or.inr ⟨j, hj, e, hw.1, hw.2⟩
theorem KV_stl (h : KV E r) (hE : E < 2 ^ 30) : ¬ r 158 < r 160 := by
  obtain ⟨-, -, -, s, b, e, a1, a2, a3, a4, a5, a6, -⟩ := h
  rw [a1, a2]
  exact nI_nlt a4 (by omega)
theorem rule_in (h : SX 0 0 B I 3 r) : Int64.ofNat 0 ≤ (r 152).toInt64 ∧ (r 152).toInt64 ≤ Int64.ofNat 3 := by
  rcases (SX_GR h).2.2.2.1 with e | e | e | e <;> rw [e] <;> decide
/-- a voice -/
theorem v_fact (h : SX 0 0 B I 3 r) (hk : KV E r) {v : Nat} (hv : v < 6) :
    (r (5 * v) = 0 ∧ r (5 * v + 1) = -1 ∧ r (5 * v + 3) = 0 ∧ mo_dies r v = 0 ∧ mo_held r v = false) ∨
    ∃ k l d, k < 60 ∧ l ≤ 1000 ∧ 1 ≤ d ∧ d ≤ 2000 ∧ (r (5 * v) = 1 ∨ r (5 * v) = 2 ∨ r (5 * v) = 3 ∨ r (5 * v) = 4) ∧ r (5 * v + 1) = nI k ∧ r (5 * v + 3) = nI l ∧ mo_dies r v = nI d ∧ mo_voice r (nI k) = nI v ∧
      (r (5 * v) = 4 → ¬ 0 < r (30 + 2 * k) ∧ mo_held r v = false) ∧ (¬ r (5 * v) = 4 → (mo_held r v = true ↔ ¬ 0 < r (30 + 2 * k)) ∧ (¬ 0 < r (30 + 2 * k) → r 150 = 1)) := by
  have hi := SX_inv h
  obtain ⟨-, e9⟩ := R_dies h hv
  obtain ⟨h1, h2, h3, h4 | ⟨h4, -, -, ⟨k, hk9, ek⟩, -⟩⟩ := h.1 v hv
  · refine Or.inl ⟨by rw [h1]; exact h4.1, by rw [h2]; exact h4.2.1, by rw [h3]; exact h4.2.2, ?_, ?_⟩
    · rcases e9 with e | e
      · exact e.2
      · exact absurd h4.1 e.1
    · cases hh : mo_held r v with
      | false => rfl
      | true => exact absurd (by rw [h1]; exact h4.1) (held_pos hi hv hh)
  · rw [← h1] at h4
    have hp : 0 < r (5 * v) := by rcases h4 with e | e | e | e <;> rw [e] <;> decide
    rw [← h2] at ek
    obtain ⟨f1, f2⟩ := hk.2.2.1 v k hv hk9 hp ek
    obtain ⟨l, hl, el⟩ := VR_lvl (h.1 v hv)
    refine Or.inr ⟨k, l, ?_⟩
    rcases e9 with e | ⟨-, l', d', l1, d1, d2, el', ed', em⟩
    · rw [← h1] at e
      rw [e.1] at hp
      exact absurd hp i1.2.2.2
    obtain ⟨n1, n2, -⟩ := die_n_c l1 d2 d1
    refine ⟨die_n l' d', hk9, hl, n2, n1, h4, ek, by rw [h3]; exact el, em, ?_, fun e4 => ⟨f1 e4, ?_⟩, fun e4 => ⟨?_, fun g => f2 e4 g⟩⟩
    · exact sy_find_first hv (decide_eq_true ⟨hp, ek⟩) fun u hu hP => by
        obtain ⟨g1, g2⟩ := of_decide_eq_true hP
        exact hk.1 u v hu hv g1 hp (g2.trans ek.symm)
    · cases hh : mo_held r v with
      | false => rfl
      | true =>
        obtain ⟨g, -⟩ := (held_iff hi hv hk9 ek).mp hh
        rw [e4] at g
        rcases g with g | g | g <;> exact absurd g (by decide)
    · rw [held_iff hi hv hk9 ek]
      refine ⟨fun g => g.2, fun g => ⟨?_, g⟩⟩
      rcases h4 with e | e | e | e
      · exact Or.inl e
      · exact Or.inr (Or.inl e)
      · exact Or.inr (Or.inr e)
      · exact absurd e e4
/-- how long until all is quiet -/
theorem quiet_n (h : SX 0 0 B I 3 r) (n : Nat) : n ≤ 6 → ∀ m : Nat, m ≤ 2000 → ∃ q, q ≤ 2000 ∧ m ≤ q ∧ sy_fold (fun v c => sv_max c (mo_dies r v)) n (nI m) = nI q ∧ (q = 0 ↔ m = 0 ∧ ∀ v, 6 - n ≤ v → v < 6 → ¬ 0 < r (5 * v)) ∧ ∀ v, 6 - n ≤ v → v < 6 → ∃ d, d ≤ q ∧ mo_dies r v = nI d := by
  induction n with
  | zero => intro _ m hm; exact ⟨m, hm, Nat.le_refl _, rfl, ⟨fun e => ⟨e, fun v h1 h2 => by omega⟩, fun e => e.1⟩, fun v h1 h2 => by omega⟩
  | succ n ih =>
    intro hn m hm
    have h5 : 5 - n < 6 := by omega
    have hd : ∃ d, d ≤ 2000 ∧ mo_dies r (5 - n) = nI d ∧ (d = 0 ↔ ¬ 0 < r (5 * (5 - n))) := by
      obtain ⟨-, e9⟩ := R_dies h h5
      have hp := VR_pos (h.1 (5 - n) h5)
      rcases e9 with ⟨e, e2⟩ | ⟨e, l', d', l1, d1, d2, el', ed', em⟩
      · exact ⟨0, by omega, e2, ⟨fun _ => by rw [hp]; exact fun g => g e, fun _ => rfl⟩⟩
      · obtain ⟨n1, n2, -⟩ := die_n_c l1 d2 d1
        exact ⟨_, n1, em, ⟨fun g => by omega, fun g => absurd (by rw [hp]; exact e) g⟩⟩
    obtain ⟨d, d1, d2, d3⟩ := hd
    have e : sv_max (nI m) (mo_dies r (5 - n)) = nI (if m < d then d else m) := by
      rw [d2]
      unfold sv_max
      simp only [nJ_lt (show m < 2 ^ 31 by omega) (show d < 2 ^ 31 by omega)]
      split <;> rfl
    obtain ⟨q, q1, q2, q3, q4, q5⟩ := ih (by omega) (if m < d then d else m) (by split <;> omega)
    refine ⟨q, q1, by revert q2; split <;> omega, ?_, ?_, fun v h1 h2 => ?_⟩
    · unfold sy_fold
      rw [e]
      exact q3
    · rw [q4]
      refine ⟨fun ⟨g1, g2⟩ => ?_, fun ⟨g1, g2⟩ => ⟨?_, fun v h1 h2 => g2 v (by omega) h2⟩⟩
      · have : m = 0 ∧ d = 0 := by revert g1; split <;> omega
        refine ⟨this.1, fun v h1 h2 => ?_⟩
        by_cases ev : v = 5 - n
        · subst ev; exact d3.mp this.2
        · exact g2 v (by omega) h2
      · have := d3.mpr (g2 _ (by omega) h5)
        rw [g1, this]
        rfl
    · by_cases ev : v = 5 - n
      · subst ev
        exact ⟨d, by revert q2; split <;> omega, d2⟩
      · exact q5 v (by omega) h2
theorem quiet_c (h : SX 0 0 B I 3 r) : ∃ q, q ≤ 2000 ∧ mo_quiet r = nI q ∧ (q = 0 ↔ mo_use r = 0) ∧ ∀ v, v < 6 → ∃ d, d ≤ q ∧ mo_dies r v = nI d := by
  obtain ⟨q, q1, -, q3, q4, q5⟩ := quiet_n h 6 (by omega) 0 (by omega)
  refine ⟨q, q1, q3, ?_, fun v hv => q5 v (by omega) hv⟩
  rw [q4, use_0]
  exact ⟨fun g v hv => g.2 v (by omega) hv, fun g => ⟨rfl, fun v _ hv => g v hv⟩⟩
theorem quiet_use (h : SX 0 0 B I 3 r) : (mo_quiet r = 0) = (mo_use r = 0) := by
  obtain ⟨q, q1, q2, q3, -⟩ := quiet_c h
  rw [q2, show (nI q = 0) = (q = 0) from propext (nI_eq (a := q) (b := 0) (by omega) (by omega))]
  exact propext q3
/-- how a key that is up would get a voice -/
theorem how_fact (hi : mo_inv r) {k : Nat} (hu : ¬ 0 < r (30 + 2 * k)) : mo_how r k = if ¬ mo_voice r (nI k) = -1 then 0 else if mo_use r < 6 then 1 else if ¬ mo_vict r = -1 then 2 else 3 := by
  unfold mo_how mo_vict
  rw [if_neg hu]
  have h6 := use_6 hi
  by_cases c1 : mo_voice r (nI k) = -1
  · by_cases c2 : mo_free r = -1
    · have c4 := h6.mpr c2
      by_cases c3 : mo_prey r = -1
      · simp only [c1, c2, c3, c4, not_true_eq_false, if_false, if_true]
      · simp only [c1, c2, c3, c4, not_true_eq_false, not_false_eq_true, if_false, if_true]
    · have c4 : mo_use r < 6 := Classical.byContradiction fun g => c2 (h6.mp g)
      simp only [c1, c2, c4, not_true_eq_false, if_false, if_true]
  · simp only [c1, not_false_eq_true, if_false, if_true]
theorem for_fact (hi : mo_inv r) {k : Nat} : (¬ mo_voice r (nI k) = -1 → mo_for r k = mo_voice r (nI k)) ∧ (mo_voice r (nI k) = -1 → ¬ mo_use r < 6 → mo_for r k = mo_vict r) := by
  unfold mo_for mo_vict mo_next
  refine ⟨fun c => if_neg c, fun c d => ?_⟩
  have := (use_6 hi).mp d
  rw [if_pos c, if_pos this, if_pos this]
end KFA
