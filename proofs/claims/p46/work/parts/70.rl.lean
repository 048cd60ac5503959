/-! the relation of a synth of the class and a row of the reference; what both answer -/
section XB
def VR (f r : Nat → Int32) (v : Nat) : Prop :=
  r (5 * v) = f 1 ∧ r (5 * v + 1) = f 0 ∧ r (5 * v + 3) = f 3 ∧
  (f 1 = 0 ∧ f 0 = -1 ∧ f 3 = 0 ∨ (f 1 = 1 ∨ f 1 = 2 ∨ f 1 = 3 ∨ f 1 = 4) ∧ r (5 * v + 2) = f 2 ∧ r (5 * v + 4) = f 4 ∧ (∃ k, k < 60 ∧ f 0 = nI k) ∧ (∃ s, 1 ≤ s ∧ s ≤ 100 ∧ f 2 = nI s) ∧ (∃ l, l ≤ 1000 ∧ f 3 = nI l))
def KR (h w r : Nat → Int32) (k : Nat) : Prop :=
  (h k = 0 ∧ r (30 + 2 * k) = 0) ∨ ((∃ s, 1 ≤ s ∧ s ≤ 100 ∧ h k = nI s) ∧ r (30 + 2 * k + 1) = h k ∧ w k = r (30 + 2 * k) ∧ 0 < r (30 + 2 * k))
def GR (dt dp : Int32) (B : Nat) (g s r : Nat → Int32) : Prop :=
  (g 4 = r 157 ∧ ∃ e, e ≤ B ∧ g 4 = nI e) ∧ (g 5 = r 150 + dp ∧ (g 5 = 0 ∨ g 5 = 1)) ∧ (g 6 = r 151 ∧ (g 6 = 0 ∨ g 6 = 1)) ∧ (g 7 = r 152 ∧ (g 7 = 0 ∨ g 7 = 1 ∨ g 7 = 2 ∨ g 7 = 3)) ∧ (g 8 = r 162 + dt ∧ g 9 = r 158 ∧ g 10 = r 159 ∧ g 11 = r 160 ∧ g 12 = r 161) ∧
  (s 0 = r 153 ∧ ∃ n, 1 ≤ n ∧ n ≤ 1000 ∧ s 0 = nI n) ∧ (s 1 = r 154 ∧ ∃ n, 1 ≤ n ∧ n ≤ 1000 ∧ s 1 = nI n) ∧ (s 2 = r 155 ∧ ∃ n, n ≤ 100 ∧ s 2 = nI n) ∧ (s 3 = r 156 ∧ ∃ n, 1 ≤ n ∧ n ≤ 1000 ∧ s 3 = nI n)
def SX (dt dp : Int32) (B : Nat) (I : Nat → Nat → Int32) (a : Nat) (r : Nat → Int32) : Prop := (∀ v, v < 6 → VR (I (a + (5 + v))) r v) ∧ (∀ k, k < 60 → KR (I (a + 3)) (I (a + 4)) r k) ∧ GR dt dp B (I a) (I (a + 2)) r
variable {dt dp : Int32} {B : Nat} {I : Nat → Nat → Int32} {a : Nat} {r : Nat → Int32}
theorem VR_iv {f r : Nat → Int32} {v : Nat} (h : VR f r v) : mo_iv r v := by
  obtain ⟨h1, h2, h3, h | ⟨h, -, -, hk, -, -⟩⟩ := h
  · exact Or.inl (by rw [h1]; exact h.1)
  · refine Or.inr ⟨by rw [h1]; exact h, ?_⟩
    rw [h2]
    exact hk
theorem SX_inv (h : SX dt dp B I a r) : mo_inv r := fun v hv => VR_iv (h.1 v hv)
theorem sy_find_congr {P P' : Nat → Bool} (n : Nat) (hn : n ≤ 6) (h : ∀ v, v < 6 → P v = P' v) : sy_find P n = sy_find P' n := by
  induction n with
  | zero => rfl
  | succ n ih =>
    unfold sy_find
    rw [h _ (by omega), ih (by omega)]
theorem sy_fold_congr {g g' : Nat → Int32 → Int32} (n : Nat) (hn : n ≤ 6) (h : ∀ v, v < 6 → ∀ c, g v c = g' v c) : ∀ c, sy_fold g n c = sy_fold g' n c := by
  induction n with
  | zero => intro c; rfl
  | succ n ih =>
    intro c
    unfold sy_fold
    rw [h _ (by omega), ih (by omega)]
theorem sy_keys_congr {g g' : Nat → Int32 → Int32} (n : Nat) (hn : n ≤ 60) (h : ∀ v, v < 60 → ∀ c, g v c = g' v c) : ∀ c, sy_keys g n c = sy_keys g' n c := by
  induction n with
  | zero => intro c; rfl
  | succ n ih =>
    intro c
    unfold sy_keys
    rw [h _ (by omega), ih (by omega)]
theorem VR_pos {f r : Nat → Int32} {v : Nat} (h : VR f r v) : (0 < r (5 * v)) = ¬ f 1 = 0 := by
  obtain ⟨h1, -, -, h | ⟨h, -⟩⟩ := h
  · rw [h1, h.1]; decide
  · rw [h1]; rcases h with e | e | e | e <;> rw [e] <;> decide
theorem R_own (h : SX dt dp B I a r) {k : Int32} (hk : ¬ k = -1) : sy_own I a k = mo_voice r k := by
  unfold sy_own mo_voice
  refine sy_find_congr 6 (by omega) fun v hv => ?_
  have hV := h.1 v hv
  have hp9 := VR_pos hV
  obtain ⟨h1, h2, -, h3 | ⟨h3, -⟩⟩ := hV
  · have e1 : ¬ (0 < r (5 * v)) := by rw [hp9]; exact fun h => h h3.1
    have e2 : ¬ (¬ k = -1 ∧ I (a + (5 + v)) 0 = k) := fun h => hk (by rw [← h.2, h3.2.1])
    have e3 : ¬ (0 < r (5 * v) ∧ r (5 * v + 1) = k) := fun h => e1 h.1
    rw [decide_eq_false e2, decide_eq_false e3]
  · have e1 : 0 < r (5 * v) := by rw [hp9]; rcases h3 with e | e | e | e <;> rw [e] <;> decide
    simp only [e1, hk, h2, not_false_eq_true, true_and]
theorem R_fr (h : SX dt dp B I a r) : sy_fr I a = mo_free r := by
  unfold sy_fr mo_free
  refine sy_find_congr 6 (by omega) fun v hv => ?_
  rw [(h.1 v hv).1]
theorem KR_pos {hd w r : Nat → Int32} {k : Nat} (h : KR hd w r k) : (0 < hd k) = (0 < r (30 + 2 * k)) := by
  rcases h with ⟨h1, h2⟩ | ⟨⟨s, s1, s2, e⟩, -, -, h⟩
  · rw [h1, h2]
  · refine propext ⟨fun _ => h, fun _ => ?_⟩
    rw [e, show (0 : Int32) = nI 0 from rfl]
    exact nI_lt (by omega) (by omega)
theorem sy_dn_j (f : Nat → Int32) {k : Nat} (hk : k < 60) : (sy_dn f (nI k) = true) = (0 < f k) := by
  unfold sy_dn
  rw [(cK hk).2.1]
  have h1 : ¬ nI k < 0 := nI_pos (by omega)
  have h2 : nI k < 60 := nI_lt (b := 60) hk (by omega)
  simp [h1, h2]
theorem R_dn (h : SX dt dp B I a r) {k : Nat} (hk : k < 60) : (sy_dn (I (a + 3)) (nI k) = true) = (0 < r (30 + 2 * k)) := by
  rw [sy_dn_j _ hk, KR_pos (h.2.1 k hk)]
theorem old_eq {P : Nat → Bool} {w r : Nat → Int32} {p : Int32} (hP : ∀ v, v < 6 → (P v = true ↔ ¬ r (5 * v) < p)) (hw : ∀ v, v < 6 → P v = true → w v = r (5 * v + 4)) (n : Nat) (hn : n ≤ 6) : ∀ b x : Int32, (b = -1 ∨ ∃ j, j < 6 ∧ b = nI j ∧ x = r (5 * j + 4)) → sy_old P w n b x = mo_old r p n b := by
  induction n with
  | zero => intro b x _; rfl
  | succ n ih =>
    intro b x h
    have h5 : 5 - n < 6 := by omega
    unfold sy_old mo_old
    by_cases h1 : P (5 - n) = true
    · have h2 := (hP _ h5).mp h1
      have h3 := hw _ h5 h1
      rcases h with rfl | ⟨j, hj, rfl, rfl⟩
      · rw [if_pos ⟨h1, Or.inl rfl⟩, if_pos ⟨h2, Or.inl rfl⟩]
        exact ih (by omega) _ _ (Or.inr ⟨_, h5, rfl, h3⟩)
      · rw [(cV hj).2.1, h3]
        by_cases h4 : r (5 * (5 - n) + 4) < r (5 * j + 4)
        · rw [if_pos ⟨h1, Or.inr h4⟩, if_pos ⟨h2, Or.inr h4⟩]
          exact ih (by omega) _ _ (Or.inr ⟨_, h5, rfl, rfl⟩)
        · have e : ¬ nI j = -1 := neN (by omega)
          rw [if_neg (fun h => h.2.elim e h4), if_neg (fun h => h.2.elim e h4)]
          exact ih (by omega) _ _ (Or.inr ⟨_, hj, rfl, rfl⟩)
    · have h2 : ¬ ¬ r (5 * (5 - n)) < p := fun h => h1 ((hP _ h5).mpr h)
      rw [if_neg (fun h => h1 h.1), if_neg (fun h => h2 h.1)]
      exact ih (by omega) _ _ h
theorem VR_4 {f r : Nat → Int32} {v : Nat} (h : VR f r v) (h1 : ¬ f 1 = 0) : f 4 = r (5 * v + 4) := by
  obtain ⟨-, -, -, h | ⟨-, -, h, -⟩⟩ := h
  · exact absurd h.1 h1
  · exact h.symm
theorem R_o1 (h : SX dt dp B I a r) : sy_o1 I a = mo_old r 1 6 (-1) := by
  refine old_eq (fun v hv => ?_) (fun v hv h1 => VR_4 (h.1 v hv) (of_decide_eq_true h1)) 6 (by omega) _ _ (Or.inl rfl)
  rw [decide_eq_true_iff, (h.1 v hv).1]
  obtain ⟨-, -, -, h | ⟨h, -⟩⟩ := h.1 v hv
  · rw [h.1]; decide
  · rcases h with e | e | e | e <;> rw [e] <;> decide
theorem R_o4 (h : SX dt dp B I a r) : sy_o4 I a = mo_old r 4 6 (-1) := by
  refine old_eq (fun v hv => ?_) (fun v hv h1 => VR_4 (h.1 v hv) (by rw [of_decide_eq_true h1]; decide)) 6 (by omega) _ _ (Or.inl rfl)
  rw [decide_eq_true_iff, (h.1 v hv).1]
  obtain ⟨-, -, -, h | ⟨h, -⟩⟩ := h.1 v hv
  · rw [h.1]; decide
  · rcases h with e | e | e | e <;> rw [e] <;> decide
theorem late_eq {P : Nat → Bool} {w r : Nat → Int32} (hP : ∀ k, k < 60 → (P k = true ↔ 0 < r (30 + 2 * k) ∧ mo_voice r (nI k) = -1)) (hw : ∀ k, k < 60 → P k = true → w k = r (30 + 2 * k)) (n : Nat) (hn : n ≤ 60) : ∀ b x : Int32, (b = -1 ∧ x = 0 ∨ ∃ j, j < 60 ∧ b = nI j ∧ x = r (30 + 2 * j)) → sy_late P w n b x = mo_late r n b := by
  induction n with
  | zero => intro b x _; rfl
  | succ n ih =>
    intro b x h
    have h5 : 59 - n < 60 := by omega
    unfold sy_late mo_late
    by_cases h1 : P (59 - n) = true
    · have h2 := (hP _ h5).mp h1
      have h3 := hw _ h5 h1
      rcases h with ⟨rfl, rfl⟩ | ⟨j, hj, rfl, rfl⟩
      · rw [if_pos ⟨h1, by rw [h3]; exact h2.1⟩, if_pos ⟨h2, Or.inl rfl⟩]
        exact ih (by omega) _ _ (Or.inr ⟨_, h5, rfl, h3⟩)
      · rw [(cK hj).2.1, h3]
        by_cases h4 : r (30 + 2 * j) < r (30 + 2 * (59 - n))
        · rw [if_pos ⟨h1, h4⟩, if_pos ⟨h2, Or.inr h4⟩]
          exact ih (by omega) _ _ (Or.inr ⟨_, h5, rfl, rfl⟩)
        · have e : ¬ nI j = -1 := neN (by omega)
          rw [if_neg (fun h => h4 h.2), if_neg (fun h => h.2.elim e h4)]
          exact ih (by omega) _ _ (Or.inr ⟨_, hj, rfl, rfl⟩)
    · have h2 : ¬ (0 < r (30 + 2 * (59 - n)) ∧ mo_voice r (nI (59 - n)) = -1) := fun h => h1 ((hP _ h5).mpr h)
      rw [if_neg (fun h => h1 h.1), if_neg (fun h => h2 h.1)]
      exact ih (by omega) _ _ h
theorem R_lt (h : SX dt dp B I a r) : sy_lt I a = mo_lt r := by
  refine late_eq (fun k hk => ?_) (fun k hk h1 => ?_) 60 (by omega) _ _ (Or.inl ⟨rfl, rfl⟩)
  · rw [decide_eq_true_iff, R_own h (neN (by omega)), KR_pos (h.2.1 k hk)]
  · have h2 := (of_decide_eq_true h1).1
    rcases h.2.1 k hk with ⟨e, -⟩ | ⟨-, -, e, -⟩
    · rw [e] at h2; exact absurd h2 (by decide)
    · exact e
theorem R_down (h : SX dt dp B I a r) : sy_keys (fun k c => if 0 < I (a + 3) k then c + 1 else c) 60 0 = sy_keys (fun k c => c + (if 0 < r (30 + 2 * k) then 1 else 0)) 60 0 := by
  refine sy_keys_congr 60 (by omega) (fun k hk c => ?_) _
  simp only [KR_pos (h.2.1 k hk)]
  by_cases h1 : 0 < r (30 + 2 * k)
  · rw [if_pos h1, if_pos h1]
  · rw [if_neg h1, if_neg h1, Int32.add_zero]
theorem R_wait (h : SX dt dp B I a r) : sy_keys (fun k c => if 0 < I (a + 3) k ∧ sy_own I a (nI k) = -1 then c + 1 else c) 60 0 = sy_keys (fun k c => c + (if 0 < r (30 + 2 * k) ∧ mo_voice r (nI k) = -1 then 1 else 0)) 60 0 := by
  refine sy_keys_congr 60 (by omega) (fun k hk c => ?_) _
  simp only [KR_pos (h.2.1 k hk), R_own h (neN (show k < 2 ^ 31 by omega))]
  by_cases h1 : 0 < r (30 + 2 * k) ∧ mo_voice r (nI k) = -1
  · rw [if_pos h1, if_pos h1]
  · rw [if_neg h1, if_neg h1, Int32.add_zero]
theorem R_loud (h : SX dt dp B I a r) : sy_loud I a = mo_loud r := by
  refine sy_fold_congr 6 (by omega) (fun v hv c => ?_) _
  rw [(h.1 v hv).2.2.1]
theorem R_cnt (h : SX dt dp B I a r) : sy_cnt I a = mo_use r := by
  refine sy_fold_congr 6 (by omega) (fun v hv c => ?_) _
  simp only [VR_pos (h.1 v hv)]
  by_cases h1 : I (a + (5 + v)) 1 = 0
  · rw [if_pos h1, if_neg (fun h => h h1), Int32.add_zero]
  · rw [if_neg h1, if_pos h1]
def smv (g : Nat → Int32) : Nat → Int32
  | 0 => 0
  | n + 1 => g (5 - n) + smv g n
theorem smv_fold (g : Nat → Int32) (n : Nat) : ∀ c, sy_fold (fun v c => c + g v) n c = c + smv g n := by
  induction n with
  | zero => intro c; exact (Int32.add_zero c).symm
  | succ n ih =>
    intro c
    unfold sy_fold smv
    rw [ih, Int32.add_assoc]
theorem smv_add (g h : Nat → Int32) (n : Nat) : smv g n + smv h n = smv (fun v => g v + h v) n := by
  induction n with
  | zero => rfl
  | succ n ih =>
    unfold smv
    rw [← ih]
    rw [Int32.add_assoc, Int32.add_assoc]
    congr 1
    rw [← Int32.add_assoc, ← Int32.add_assoc, Int32.add_comm (smv g n)]
theorem smv_congr {g h : Nat → Int32} (n : Nat) (hn : n ≤ 6) (e : ∀ v, v < 6 → g v = h v) : smv g n = smv h n := by
  induction n with
  | zero => rfl
  | succ n ih =>
    unfold smv
    rw [e _ (by omega), ih (by omega)]
theorem R_phases (h : SX dt dp B I 3 r) : 0 + sy_lp I 1 + sy_lp I 2 + sy_lp I 3 + sy_lp I 4 = mo_loud r := by
  have hl : ∀ p, sy_lp I p = 0 + smv (fun v => if I (3 + (5 + v)) 1 = p then I (3 + (5 + v)) 3 else 0) 6 := fun p => by
    rw [← smv_fold]
    refine sy_fold_congr 6 (by omega) (fun v hv c => ?_) _
    by_cases h1 : I (3 + (5 + v)) 1 = p
    · rw [if_pos h1, if_pos h1]
    · rw [if_neg h1, if_neg h1, Int32.add_zero]
  have hm : mo_loud r = 0 + smv (fun v => r (5 * v + 3)) 6 := by
    rw [← smv_fold]
    rfl
  rw [hl, hl, hl, hl, hm]
  simp only [Int32.zero_add, smv_add]
  refine smv_congr 6 (by omega) fun v hv => ?_
  obtain ⟨-, -, h3, h | ⟨h, -⟩⟩ := h.1 v hv
  · rw [h3, h.1, h.2.2]; decide
  · rw [h3]
    rcases h with e | e | e | e <;> rw [e]
    · rw [if_pos rfl, if_neg (by decide), if_neg (by decide), if_neg (by decide)]; simp only [Int32.zero_add, Int32.add_zero]
    · rw [if_pos rfl, if_neg (by decide), if_neg (by decide), if_neg (by decide)]; simp only [Int32.zero_add, Int32.add_zero]
    · rw [if_pos rfl, if_neg (by decide), if_neg (by decide), if_neg (by decide)]; simp only [Int32.zero_add, Int32.add_zero]
    · rw [if_pos rfl, if_neg (by decide), if_neg (by decide), if_neg (by decide)]; simp only [Int32.zero_add, Int32.add_zero]
theorem R_kept (h : SX dt dp B I a r) {v : Nat} (hv : v < 6) : (¬ I (a + (5 + v)) 1 = 0 ∧ ¬ I (a + (5 + v)) 1 = 4 ∧ ¬ sy_dn (I (a + 3)) (I (a + (5 + v)) 0) = true) = (mo_held r v = true) := by
  have hV := h.1 v hv
  unfold mo_held mo_in13
  obtain ⟨h1, h2, -, h3 | ⟨h3, -, -, ⟨k, hk, ek⟩, -⟩⟩ := hV
  · rw [h1, h3.1]
    simp only [not_true_eq_false, false_and]
    have e : decide (¬ (0 : Int32).toInt64 < Int64.ofNat 1 ∧ ¬ Int64.ofNat 3 < (0 : Int32).toInt64) = false := by decide
    rw [e]
    simp
  · rw [h1, h2, ek, R_dn h hk, (cK hk).2.1]
    rcases h3 with e | e | e | e <;> rw [e]
    · have e : decide (¬ (1 : Int32).toInt64 < Int64.ofNat 1 ∧ ¬ Int64.ofNat 3 < (1 : Int32).toInt64) = true := by decide
      rw [e]; simp
    · have e : decide (¬ (2 : Int32).toInt64 < Int64.ofNat 1 ∧ ¬ Int64.ofNat 3 < (2 : Int32).toInt64) = true := by decide
      rw [e]; simp
    · have e : decide (¬ (3 : Int32).toInt64 < Int64.ofNat 1 ∧ ¬ Int64.ofNat 3 < (3 : Int32).toInt64) = true := by decide
      rw [e]; simp
    · have e : decide (¬ (4 : Int32).toInt64 < Int64.ofNat 1 ∧ ¬ Int64.ofNat 3 < (4 : Int32).toInt64) = false := by decide
      rw [e]; simp
end XB
