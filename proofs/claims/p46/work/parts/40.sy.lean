/-! the class's voices, slopes: what each method does to its row -/
section VO
variable {sc : Nat × (Nat → Int32)} {I : Nat → Nat → Int32} {o : Int64} {t : Nat} {Q : mm_Q}
theorem cN : ((0 : Int32).toNatClampNeg = 0) ∧ ((1 : Int32).toNatClampNeg = 1) ∧ ((2 : Int32).toNatClampNeg = 2) ∧ ((3 : Int32).toNatClampNeg = 3) ∧ ((4 : Int32).toNatClampNeg = 4) ∧ ((5 : Int32).toNatClampNeg = 5) ∧ ((6 : Int32).toNatClampNeg = 6) := by decide
theorem cA : ((0 : Int32) + 1 = 1) ∧ ((1 : Int32) + 1 = 2) ∧ ((2 : Int32) + 1 = 3) ∧ ((3 : Int32) + 1 = 4) ∧ ((4 : Int32) + 1 = 5) ∧ ((5 : Int32) + 1 = 6) := by decide
def sv_free (f : Nat → Int32) : Nat → Int32 := mm_up (mm_up (mm_up (mm_up (mm_up f 0 (-1)) 1 0) 2 0) 3 0) 4 0
def sv_begin (f : Nat → Int32) (k s w : Int32) : Nat → Int32 := mm_up (mm_up (mm_up (mm_up (mm_up f 0 k) 1 1) 2 s) 3 0) 4 w
def sv_anew (f : Nat → Int32) (s w : Int32) : Nat → Int32 := mm_up (mm_up (mm_up f 1 1) 2 s) 4 w
def sv_copy (f g : Nat → Int32) : Nat → Int32 := mm_up (mm_up (mm_up (mm_up (mm_up f 0 (g 0)) 1 (g 1)) 2 (g 2)) 3 (g 3)) 4 (g 4)
def sv_min (a b : Int32) : Int32 := if b < a then b else a
def sv_max (a b : Int32) : Int32 := if a < b then b else a
def sv_rise (f s : Nat → Int32) : Nat → Int32 := if sv_min (f 3 + s 0) (10 * f 2) = 10 * f 2 then mm_up (mm_up f 3 (sv_min (f 3 + s 0) (10 * f 2))) 1 2 else mm_up f 3 (sv_min (f 3 + s 0) (10 * f 2))
def sv_fall (f s : Nat → Int32) : Nat → Int32 := if sv_max (f 3 - s 1) (10 * f 2 * s 2 / 100) = 10 * f 2 * s 2 / 100 then mm_up (mm_up f 3 (sv_max (f 3 - s 1) (10 * f 2 * s 2 / 100))) 1 3 else mm_up f 3 (sv_max (f 3 - s 1) (10 * f 2 * s 2 / 100))
def sv_fade (f s : Nat → Int32) : Nat → Int32 := if 0 < f 3 - s 3 then mm_up f 3 (f 3 - s 3) else sv_free f
def sv_move (f s : Nat → Int32) : Nat → Int32 := if f 1 = 1 then sv_rise f s else if f 1 = 2 then sv_fall f s else if f 1 = 4 then sv_fade f s else f
def sv_ends (f s : Nat → Int32) : Int32 := if f 1 = 4 then (if 0 < f 3 - s 3 then 0 else 1) else 0
theorem c45 {b : Nat} (hb : mm_is b 4) : mm_C (mm_entry 45 [.ref b] (hp sc I o t)) Q ↔ Q (.inl (some (.int (if I b 1 = 0 then 1 else 0)))) (hp sc I o t) := by
  simp +decide only [mM_45, cR, cH, hb]
  split <;> rfl
theorem c46 {b : Nat} (hb : mm_is b 4) : mm_C (mm_entry 46 [.ref b] (hp sc I o t)) Q ↔ Q (.inl none) (hp sc (mm_up I b (sv_free (I b))) o t) := by
  simp +decide only [mM_46, cR, cH, hb, mm_up_s, mm_up_up]
  rfl
theorem c47 {b : Nat} {k s w : Int32} (hb : mm_is b 4) : mm_C (mm_entry 47 [.ref b, .int k, .int s, .int w] (hp sc I o t)) Q ↔ Q (.inl none) (hp sc (mm_up I b (sv_begin (I b) k s w)) o t) := by
  simp +decide only [mM_47, cR, cH, hb, mm_up_s, mm_up_up]
  rfl
theorem c48 {b : Nat} {s w : Int32} (hb : mm_is b 4) : mm_C (mm_entry 48 [.ref b, .int s, .int w] (hp sc I o t)) Q ↔ Q (.inl none) (hp sc (mm_up I b (sv_anew (I b) s w)) o t) := by
  simp +decide only [mM_48, cR, cH, hb, mm_up_s, mm_up_up]
  rfl
theorem c49 {b c : Nat} (hb : mm_is b 4) (hc : mm_is c 4) (hne : ¬ c = b) : mm_C (mm_entry 49 [.ref b, .ref c] (hp sc I o t)) Q ↔ Q (.inl none) (hp sc (mm_up I b (sv_copy (I b) (I c))) o t) := by
  have hne2 : ∀ (f : Nat → Int32), mm_up I b f c = I c := fun f => mm_up_n _ _ hne
  simp +decide only [mM_49, cR, cH, hb, hc, mm_up_s, mm_up_up, hne2]
  rfl
theorem c51 {b : Nat} (hb : mm_is b 4) : mm_C (mm_entry 51 [.ref b] (hp sc I o t)) Q ↔ Q (.inl (some (.int (10 * I b 2)))) (hp sc I o t) := by
  simp +decide only [mM_51, cR, cH, hb, mm_up_s, mm_up_up]
theorem cB0 {p : Prop} [Decidable p] : ((if p then (1 : Int32) else 0) = 0) = ¬ p := by by_cases h : p <;> simp [h]
theorem cB1 {p : Prop} [Decidable p] : ((if p then (0 : Int32) else 1) = 0) = p := by by_cases h : p <;> simp [h]
/-- over the voices, from the (6 - n)th on -/
def sy_fold (g : Nat → Int32 → Int32) : Nat → Int32 → Int32
  | 0, c => c
  | n + 1, c => sy_fold g n (g (5 - n) c)
theorem c52 {b s : Nat} (hb : mm_is b 4) (hs : mm_is s 2) : mm_C (mm_entry 52 [.ref b, .ref s] (hp sc I o t)) Q ↔ Q (.inl none) (hp sc (mm_up I b (sv_rise (I b) (I s))) o t) := by
  simp +decide only [mM_52, cR, cH, hb, hs, mm_up_s, mm_up_up, mm_up_n, c51]
  show (if sv_min (I b 3 + I s 0) (10 * I b 2) = 10 * I b 2 then _ else _) ↔ _
  unfold sv_rise
  split <;> rfl
theorem c53 {b s : Nat} (hb : mm_is b 4) (hs : mm_is s 2) : mm_C (mm_entry 53 [.ref b, .ref s] (hp sc I o t)) Q ↔ Q (.inl none) (hp sc (mm_up I b (sv_fall (I b) (I s))) o t) := by
  simp +decide only [mM_53, cR, cH, hb, hs, mm_up_s, mm_up_up, mm_up_n, c51]
  show (if sv_max (I b 3 - I s 1) (10 * I b 2 * I s 2 / 100) = 10 * I b 2 * I s 2 / 100 then _ else _) ↔ _
  unfold sv_fall
  split <;> rfl
theorem sv_free_3 (f : Nat → Int32) (v : Int32) : sv_free (mm_up f 3 v) = sv_free f := by
  funext j
  unfold sv_free mm_up
  by_cases h : j = 3
  · simp [h]
  · simp [h]
theorem c54 {b s : Nat} (hb : mm_is b 4) (hs : mm_is s 2) : mm_C (mm_entry 54 [.ref b, .ref s] (hp sc I o t)) Q ↔ Q (.inl (some (.int (if 0 < I b 3 - I s 3 then 0 else 1)))) (hp sc (mm_up I b (sv_fade (I b) (I s))) o t) := by
  simp +decide only [mM_54, cR, cH, hb, hs, mm_up_s, mm_up_up, mm_up_n, c46, sv_free_3]
  unfold sv_fade
  split <;> rfl
theorem mm_sw_def {x v : Int32} {ax : List Nat} (h : ∀ j : Nat, j + 1 < ax.length → ¬ v.toInt = x.toInt + j) : mm_sw x ax v = ax.getD 0 0 := by
  unfold mm_sw
  split
  · next hc =>
    exfalso
    have h1 := Int32.le_iff_toInt_le.mp hc.1
    exact h _ hc.2 (by omega)
  · rfl
theorem mm_ni {v w : Int32} (h : ¬ v = w) : ¬ v.toInt = w.toInt := fun e => h (Int32.toInt_inj.mp e)
theorem c50_sw : mm_sw 1 [4, 1, 2, 4, 3] 1 = 1 ∧ mm_sw 1 [4, 1, 2, 4, 3] 2 = 2 ∧ mm_sw 1 [4, 1, 2, 4, 3] 4 = 3 ∧ mm_sw 1 [4, 1, 2, 4, 3] 3 = 4 := by decide
theorem c50_df {v : Int32} (h1 : ¬ v = 1) (h2 : ¬ v = 2) (h4 : ¬ v = 4) : mm_sw 1 [4, 1, 2, 4, 3] v = 4 := by
  by_cases h3 : v = 3
  · subst h3; exact c50_sw.2.2.2
  refine mm_sw_def fun j hj => ?_
  have hj : j < 4 := by simp at hj; omega
  match j, hj with
  | 0, _ => exact mm_ni h1
  | 1, _ => exact mm_ni h2
  | 2, _ => exact mm_ni h3
  | 3, _ => exact mm_ni h4
theorem c50 {b s : Nat} (hb : mm_is b 4) (hs : mm_is s 2) : mm_C (mm_entry 50 [.ref b, .ref s] (hp sc I o t)) Q ↔ Q (.inl (some (.int (sv_ends (I b) (I s))))) (hp sc (mm_up I b (sv_move (I b) (I s))) o t) := by
  by_cases h1 : I b 1 = 1
  · simp +decide only [mM_50, cR, cH, hb, hs, h1, c50_sw, c52 hb hs, sv_ends, sv_move, ↓reduceIte]
  by_cases h2 : I b 1 = 2
  · simp +decide only [mM_50, cR, cH, hb, hs, h2, c50_sw, c53 hb hs, sv_ends, sv_move, ↓reduceIte]
  by_cases h4 : I b 1 = 4
  · by_cases hp9 : 0 < I b 3 - I s 3 <;> simp +decide only [mM_50, cR, cH, hb, hs, h4, hp9, c50_sw, c54 hb hs, sv_ends, sv_move, ↓reduceIte]
  · simp +decide only [mM_50, cR, cH, hb, hs, c50_df h1 h2 h4, sv_ends, sv_move, h1, h2, h4, mm_up_self, ↓reduceIte]
theorem sy_fold_0 (g : Nat → Int32 → Int32) (c : Int32) : sy_fold g 0 c = c := rfl
/-- the first voice with P from the (6 - n)th on; none -/
def sy_find (P : Nat → Bool) : Nat → Int32
  | 0 => -1
  | n + 1 => if P (5 - n) = true then nI (5 - n) else sy_find P n
theorem sy_find_0 (P : Nat → Bool) : sy_find P 0 = -1 := rfl
/-- the oldest of those with P; none -/
def sy_old (P : Nat → Bool) (w : Nat → Int32) : Nat → Int32 → Int32 → Int32
  | 0, b, _ => b
  | n + 1, b, x => if P (5 - n) = true ∧ (b = -1 ∨ w (5 - n) < x) then sy_old P w n (nI (5 - n)) (w (5 - n)) else sy_old P w n b x
theorem sy_old_0 (P : Nat → Bool) (w : Nat → Int32) (b x : Int32) : sy_old P w 0 b x = b := rfl
def sy_quiet (l w : Nat → Int32) : Nat → Nat → Nat
  | 0, b => b
  | n + 1, b => if l (5 - n) - l b < 0 ∨ l (5 - n) - l b = 0 ∧ w (5 - n) < w b then sy_quiet l w n (5 - n) else sy_quiet l w n b
theorem sy_quiet_0 (l w : Nat → Int32) (b : Nat) : sy_quiet l w 0 b = b := rfl
def sy_dn (f : Nat → Int32) (k : Int32) : Bool := !decide (k < 0) && (decide (k < 60) && decide (0 < f k.toNatClampNeg))
theorem cK {k : Nat} (h : k < 60) : mm_in (nI k) 60 = true ∧ (nI k).toNatClampNeg = k ∧ (nI k < 60) = True ∧ (nI k < 0) = False ∧ nI k + 1 = nI (k + 1) ∧ (nI k = -1) = False := by
  have h2 : ∀ k, k < 60 → mm_in (nI k) 60 = true ∧ (nI k).toNatClampNeg = k ∧ nI k < 60 ∧ ¬ nI k < 0 ∧ nI k + 1 = nI (k + 1) ∧ ¬ nI k = -1 := by decide +kernel
  obtain ⟨h3, h4, h5, h6, h7, h8⟩ := h2 k h
  exact ⟨h3, h4, eq_true h5, eq_false h6, h7, eq_false h8⟩
theorem cV {k : Nat} (h : k < 6) : mm_in (nI k) 6 = true ∧ (nI k).toNatClampNeg = k ∧ (nI k = -1) = False := by
  have h2 : ∀ k, k < 6 → mm_in (nI k) 6 = true ∧ (nI k).toNatClampNeg = k ∧ ¬ nI k = -1 := by decide +kernel
  exact ⟨(h2 k h).1, (h2 k h).2.1, eq_false (h2 k h).2.2⟩
theorem mm_synV {a : Nat} (h : mm_isS a) {k : Nat} (hk : k < 6) : mm_is (a + (5 + k)) 4 ∧ mm_nn (a + 1) k ∧ mm_rg (a + 1) k = a + (5 + k) := by
  obtain ⟨-, ⟨v0, v1, v2, v3, v4, v5⟩, -, -, -, ⟨n0, n1, n2, n3, n4, n5⟩, ⟨r0, r1, r2, r3, r4, r5⟩⟩ := mm_syn h
  match k, hk with
  | 0, _ => exact ⟨v0, n0, r0⟩
  | 1, _ => exact ⟨v1, n1, r1⟩
  | 2, _ => exact ⟨v2, n2, r2⟩
  | 3, _ => exact ⟨v3, n3, r3⟩
  | 4, _ => exact ⟨v4, n4, r4⟩
  | 5, _ => exact ⟨v5, n5, r5⟩
theorem mm_in60 {k : Int32} (h1 : ¬ k < 0) (h2 : k < 60) : mm_in k 60 = true := by
  have h3 : (0 : Int32) ≤ k := Int32.not_lt.mp h1
  have h4 := Int32.le_iff_toInt_le.mp h3
  have h5 := Int32.lt_iff_toInt_lt.mp h2
  have e0 : (0 : Int32).toInt = 0 := by decide
  have e1 : (60 : Int32).toInt = 60 := by decide
  have e2 : k.toNatClampNeg = k.toInt.toNat := rfl
  simp only [mm_in, Bool.and_eq_true, decide_eq_true_eq]
  exact ⟨h3, by omega⟩
theorem c20_6 {a : Nat} (ha : mm_isS a) {c : Int32} : mm_C (20, mm_blk 20 1, [some (.ref a), some (.int c), some (.int 6)], [], (hp sc I o t)) Q ↔ Q (.inl (some (.int c))) (hp sc I o t) := by
  rw [mM_20.2.2.1]
  simp +decide only [mM_20.1, mM_20.2.1, mM_20.2.2.2.1, mM_20.2.2.2.2, cR, cH, mm_syn ha, cN, cA, ↓reduceIte]
theorem c20_5 {a : Nat} (ha : mm_isS a) {c : Int32} : mm_C (20, mm_blk 20 1, [some (.ref a), some (.int c), some (.int 5)], [], (hp sc I o t)) Q ↔ Q (.inl (some (.int (sy_fold (fun v c => if I (a + (5 + v)) 1 = 0 then c else c + 1) 1 c)))) (hp sc I o t) := by
  rw [mM_20.2.2.1]
  show _ ↔ Q (.inl (some (.int (sy_fold (fun v c => if I (a + (5 + v)) 1 = 0 then c else c + 1) 0 (if I (a + 10) 1 = 0 then c else c + 1))))) (hp sc I o t)
  by_cases h0 : I (a + 10) 1 = 0 <;> simp +decide only [mM_20.1, mM_20.2.1, mM_20.2.2.2.1, mM_20.2.2.2.2, cR, cH, mm_syn ha, c20_6 ha, c45, cN, cA, cB0, cB1, sy_fold_0, h0, ↓reduceIte]
theorem c20_4 {a : Nat} (ha : mm_isS a) {c : Int32} : mm_C (20, mm_blk 20 1, [some (.ref a), some (.int c), some (.int 4)], [], (hp sc I o t)) Q ↔ Q (.inl (some (.int (sy_fold (fun v c => if I (a + (5 + v)) 1 = 0 then c else c + 1) 2 c)))) (hp sc I o t) := by
  rw [mM_20.2.2.1]
  show _ ↔ Q (.inl (some (.int (sy_fold (fun v c => if I (a + (5 + v)) 1 = 0 then c else c + 1) 1 (if I (a + 9) 1 = 0 then c else c + 1))))) (hp sc I o t)
  by_cases h0 : I (a + 9) 1 = 0 <;> simp +decide only [mM_20.1, mM_20.2.1, mM_20.2.2.2.1, mM_20.2.2.2.2, cR, cH, mm_syn ha, c20_5 ha, c45, cN, cA, cB0, cB1, sy_fold_0, h0, ↓reduceIte]
theorem c20_3 {a : Nat} (ha : mm_isS a) {c : Int32} : mm_C (20, mm_blk 20 1, [some (.ref a), some (.int c), some (.int 3)], [], (hp sc I o t)) Q ↔ Q (.inl (some (.int (sy_fold (fun v c => if I (a + (5 + v)) 1 = 0 then c else c + 1) 3 c)))) (hp sc I o t) := by
  rw [mM_20.2.2.1]
  show _ ↔ Q (.inl (some (.int (sy_fold (fun v c => if I (a + (5 + v)) 1 = 0 then c else c + 1) 2 (if I (a + 8) 1 = 0 then c else c + 1))))) (hp sc I o t)
  by_cases h0 : I (a + 8) 1 = 0 <;> simp +decide only [mM_20.1, mM_20.2.1, mM_20.2.2.2.1, mM_20.2.2.2.2, cR, cH, mm_syn ha, c20_4 ha, c45, cN, cA, cB0, cB1, sy_fold_0, h0, ↓reduceIte]
theorem c20_2 {a : Nat} (ha : mm_isS a) {c : Int32} : mm_C (20, mm_blk 20 1, [some (.ref a), some (.int c), some (.int 2)], [], (hp sc I o t)) Q ↔ Q (.inl (some (.int (sy_fold (fun v c => if I (a + (5 + v)) 1 = 0 then c else c + 1) 4 c)))) (hp sc I o t) := by
  rw [mM_20.2.2.1]
  show _ ↔ Q (.inl (some (.int (sy_fold (fun v c => if I (a + (5 + v)) 1 = 0 then c else c + 1) 3 (if I (a + 7) 1 = 0 then c else c + 1))))) (hp sc I o t)
  by_cases h0 : I (a + 7) 1 = 0 <;> simp +decide only [mM_20.1, mM_20.2.1, mM_20.2.2.2.1, mM_20.2.2.2.2, cR, cH, mm_syn ha, c20_3 ha, c45, cN, cA, cB0, cB1, sy_fold_0, h0, ↓reduceIte]
theorem c20_1 {a : Nat} (ha : mm_isS a) {c : Int32} : mm_C (20, mm_blk 20 1, [some (.ref a), some (.int c), some (.int 1)], [], (hp sc I o t)) Q ↔ Q (.inl (some (.int (sy_fold (fun v c => if I (a + (5 + v)) 1 = 0 then c else c + 1) 5 c)))) (hp sc I o t) := by
  rw [mM_20.2.2.1]
  show _ ↔ Q (.inl (some (.int (sy_fold (fun v c => if I (a + (5 + v)) 1 = 0 then c else c + 1) 4 (if I (a + 6) 1 = 0 then c else c + 1))))) (hp sc I o t)
  by_cases h0 : I (a + 6) 1 = 0 <;> simp +decide only [mM_20.1, mM_20.2.1, mM_20.2.2.2.1, mM_20.2.2.2.2, cR, cH, mm_syn ha, c20_2 ha, c45, cN, cA, cB0, cB1, sy_fold_0, h0, ↓reduceIte]
theorem c20_0 {a : Nat} (ha : mm_isS a) {c : Int32} : mm_C (20, mm_blk 20 1, [some (.ref a), some (.int c), some (.int 0)], [], (hp sc I o t)) Q ↔ Q (.inl (some (.int (sy_fold (fun v c => if I (a + (5 + v)) 1 = 0 then c else c + 1) 6 c)))) (hp sc I o t) := by
  rw [mM_20.2.2.1]
  show _ ↔ Q (.inl (some (.int (sy_fold (fun v c => if I (a + (5 + v)) 1 = 0 then c else c + 1) 5 (if I (a + 5) 1 = 0 then c else c + 1))))) (hp sc I o t)
  by_cases h0 : I (a + 5) 1 = 0 <;> simp +decide only [mM_20.1, mM_20.2.1, mM_20.2.2.2.1, mM_20.2.2.2.2, cR, cH, mm_syn ha, c20_1 ha, c45, cN, cA, cB0, cB1, sy_fold_0, h0, ↓reduceIte]
theorem c20 {a : Nat} (ha : mm_isS a) : mm_C (mm_entry 20 [.ref a] (hp sc I o t)) Q ↔ Q (.inl (some (.int (sy_fold (fun v c => if I (a + (5 + v)) 1 = 0 then c else c + 1) 6 0)))) (hp sc I o t) := by
  simp +decide only [mM_20.1, mM_20.2.1, mM_20.2.2.2.1, mM_20.2.2.2.2, cR, cH, c20_0 ha]
theorem c21_6 {a : Nat} (ha : mm_isS a) {c : Int32} : mm_C (21, mm_blk 21 1, [some (.ref a), some (.int c), some (.int 6)], [], (hp sc I o t)) Q ↔ Q (.inl (some (.int c))) (hp sc I o t) := by
  rw [mM_21.2.2.1]
  simp +decide only [mM_21.1, mM_21.2.1, mM_21.2.2.2, cR, cH, mm_syn ha, cN, cA, ↓reduceIte]
theorem c21_5 {a : Nat} (ha : mm_isS a) {c : Int32} : mm_C (21, mm_blk 21 1, [some (.ref a), some (.int c), some (.int 5)], [], (hp sc I o t)) Q ↔ Q (.inl (some (.int (sy_fold (fun v c => c + I (a + (5 + v)) 3) 1 c)))) (hp sc I o t) := by
  rw [mM_21.2.2.1]
  show _ ↔ Q (.inl (some (.int (sy_fold (fun v c => c + I (a + (5 + v)) 3) 0 (c + I (a + 10) 3))))) (hp sc I o t)
  simp +decide only [mM_21.1, mM_21.2.1, mM_21.2.2.2, cR, cH, mm_syn ha, c21_6 ha, c45, cN, cA, cB0, cB1, sy_fold_0, ↓reduceIte]
theorem c21_4 {a : Nat} (ha : mm_isS a) {c : Int32} : mm_C (21, mm_blk 21 1, [some (.ref a), some (.int c), some (.int 4)], [], (hp sc I o t)) Q ↔ Q (.inl (some (.int (sy_fold (fun v c => c + I (a + (5 + v)) 3) 2 c)))) (hp sc I o t) := by
  rw [mM_21.2.2.1]
  show _ ↔ Q (.inl (some (.int (sy_fold (fun v c => c + I (a + (5 + v)) 3) 1 (c + I (a + 9) 3))))) (hp sc I o t)
  simp +decide only [mM_21.1, mM_21.2.1, mM_21.2.2.2, cR, cH, mm_syn ha, c21_5 ha, c45, cN, cA, cB0, cB1, sy_fold_0, ↓reduceIte]
theorem c21_3 {a : Nat} (ha : mm_isS a) {c : Int32} : mm_C (21, mm_blk 21 1, [some (.ref a), some (.int c), some (.int 3)], [], (hp sc I o t)) Q ↔ Q (.inl (some (.int (sy_fold (fun v c => c + I (a + (5 + v)) 3) 3 c)))) (hp sc I o t) := by
  rw [mM_21.2.2.1]
  show _ ↔ Q (.inl (some (.int (sy_fold (fun v c => c + I (a + (5 + v)) 3) 2 (c + I (a + 8) 3))))) (hp sc I o t)
  simp +decide only [mM_21.1, mM_21.2.1, mM_21.2.2.2, cR, cH, mm_syn ha, c21_4 ha, c45, cN, cA, cB0, cB1, sy_fold_0, ↓reduceIte]
theorem c21_2 {a : Nat} (ha : mm_isS a) {c : Int32} : mm_C (21, mm_blk 21 1, [some (.ref a), some (.int c), some (.int 2)], [], (hp sc I o t)) Q ↔ Q (.inl (some (.int (sy_fold (fun v c => c + I (a + (5 + v)) 3) 4 c)))) (hp sc I o t) := by
  rw [mM_21.2.2.1]
  show _ ↔ Q (.inl (some (.int (sy_fold (fun v c => c + I (a + (5 + v)) 3) 3 (c + I (a + 7) 3))))) (hp sc I o t)
  simp +decide only [mM_21.1, mM_21.2.1, mM_21.2.2.2, cR, cH, mm_syn ha, c21_3 ha, c45, cN, cA, cB0, cB1, sy_fold_0, ↓reduceIte]
theorem c21_1 {a : Nat} (ha : mm_isS a) {c : Int32} : mm_C (21, mm_blk 21 1, [some (.ref a), some (.int c), some (.int 1)], [], (hp sc I o t)) Q ↔ Q (.inl (some (.int (sy_fold (fun v c => c + I (a + (5 + v)) 3) 5 c)))) (hp sc I o t) := by
  rw [mM_21.2.2.1]
  show _ ↔ Q (.inl (some (.int (sy_fold (fun v c => c + I (a + (5 + v)) 3) 4 (c + I (a + 6) 3))))) (hp sc I o t)
  simp +decide only [mM_21.1, mM_21.2.1, mM_21.2.2.2, cR, cH, mm_syn ha, c21_2 ha, c45, cN, cA, cB0, cB1, sy_fold_0, ↓reduceIte]
theorem c21_0 {a : Nat} (ha : mm_isS a) {c : Int32} : mm_C (21, mm_blk 21 1, [some (.ref a), some (.int c), some (.int 0)], [], (hp sc I o t)) Q ↔ Q (.inl (some (.int (sy_fold (fun v c => c + I (a + (5 + v)) 3) 6 c)))) (hp sc I o t) := by
  rw [mM_21.2.2.1]
  show _ ↔ Q (.inl (some (.int (sy_fold (fun v c => c + I (a + (5 + v)) 3) 5 (c + I (a + 5) 3))))) (hp sc I o t)
  simp +decide only [mM_21.1, mM_21.2.1, mM_21.2.2.2, cR, cH, mm_syn ha, c21_1 ha, c45, cN, cA, cB0, cB1, sy_fold_0, ↓reduceIte]
theorem c21 {a : Nat} (ha : mm_isS a) : mm_C (mm_entry 21 [.ref a] (hp sc I o t)) Q ↔ Q (.inl (some (.int (sy_fold (fun v c => c + I (a + (5 + v)) 3) 6 0)))) (hp sc I o t) := by
  simp +decide only [mM_21.1, mM_21.2.1, mM_21.2.2.2, cR, cH, c21_0 ha]
theorem c22_6 {a : Nat} (ha : mm_isS a) {p c : Int32} : mm_C (22, mm_blk 22 1, [some (.ref a), some (.int p), some (.int c), some (.int 6)], [], (hp sc I o t)) Q ↔ Q (.inl (some (.int c))) (hp sc I o t) := by
  rw [mM_22.2.2.1]
  simp +decide only [mM_22.1, mM_22.2.1, mM_22.2.2.2.1, mM_22.2.2.2.2, cR, cH, mm_syn ha, cN, cA, ↓reduceIte]
theorem c22_5 {a : Nat} (ha : mm_isS a) {p c : Int32} : mm_C (22, mm_blk 22 1, [some (.ref a), some (.int p), some (.int c), some (.int 5)], [], (hp sc I o t)) Q ↔ Q (.inl (some (.int (sy_fold (fun v c => if I (a + (5 + v)) 1 = p then c + I (a + (5 + v)) 3 else c) 1 c)))) (hp sc I o t) := by
  rw [mM_22.2.2.1]
  show _ ↔ Q (.inl (some (.int (sy_fold (fun v c => if I (a + (5 + v)) 1 = p then c + I (a + (5 + v)) 3 else c) 0 (if I (a + 10) 1 = p then c + I (a + 10) 3 else c))))) (hp sc I o t)
  by_cases h0 : I (a + 10) 1 = p <;> simp +decide only [mM_22.1, mM_22.2.1, mM_22.2.2.2.1, mM_22.2.2.2.2, cR, cH, mm_syn ha, c22_6 ha, c45, cN, cA, cB0, cB1, sy_fold_0, h0, ↓reduceIte]
theorem c22_4 {a : Nat} (ha : mm_isS a) {p c : Int32} : mm_C (22, mm_blk 22 1, [some (.ref a), some (.int p), some (.int c), some (.int 4)], [], (hp sc I o t)) Q ↔ Q (.inl (some (.int (sy_fold (fun v c => if I (a + (5 + v)) 1 = p then c + I (a + (5 + v)) 3 else c) 2 c)))) (hp sc I o t) := by
  rw [mM_22.2.2.1]
  show _ ↔ Q (.inl (some (.int (sy_fold (fun v c => if I (a + (5 + v)) 1 = p then c + I (a + (5 + v)) 3 else c) 1 (if I (a + 9) 1 = p then c + I (a + 9) 3 else c))))) (hp sc I o t)
  by_cases h0 : I (a + 9) 1 = p <;> simp +decide only [mM_22.1, mM_22.2.1, mM_22.2.2.2.1, mM_22.2.2.2.2, cR, cH, mm_syn ha, c22_5 ha, c45, cN, cA, cB0, cB1, sy_fold_0, h0, ↓reduceIte]
theorem c22_3 {a : Nat} (ha : mm_isS a) {p c : Int32} : mm_C (22, mm_blk 22 1, [some (.ref a), some (.int p), some (.int c), some (.int 3)], [], (hp sc I o t)) Q ↔ Q (.inl (some (.int (sy_fold (fun v c => if I (a + (5 + v)) 1 = p then c + I (a + (5 + v)) 3 else c) 3 c)))) (hp sc I o t) := by
  rw [mM_22.2.2.1]
  show _ ↔ Q (.inl (some (.int (sy_fold (fun v c => if I (a + (5 + v)) 1 = p then c + I (a + (5 + v)) 3 else c) 2 (if I (a + 8) 1 = p then c + I (a + 8) 3 else c))))) (hp sc I o t)
  by_cases h0 : I (a + 8) 1 = p <;> simp +decide only [mM_22.1, mM_22.2.1, mM_22.2.2.2.1, mM_22.2.2.2.2, cR, cH, mm_syn ha, c22_4 ha, c45, cN, cA, cB0, cB1, sy_fold_0, h0, ↓reduceIte]
theorem c22_2 {a : Nat} (ha : mm_isS a) {p c : Int32} : mm_C (22, mm_blk 22 1, [some (.ref a), some (.int p), some (.int c), some (.int 2)], [], (hp sc I o t)) Q ↔ Q (.inl (some (.int (sy_fold (fun v c => if I (a + (5 + v)) 1 = p then c + I (a + (5 + v)) 3 else c) 4 c)))) (hp sc I o t) := by
  rw [mM_22.2.2.1]
  show _ ↔ Q (.inl (some (.int (sy_fold (fun v c => if I (a + (5 + v)) 1 = p then c + I (a + (5 + v)) 3 else c) 3 (if I (a + 7) 1 = p then c + I (a + 7) 3 else c))))) (hp sc I o t)
  by_cases h0 : I (a + 7) 1 = p <;> simp +decide only [mM_22.1, mM_22.2.1, mM_22.2.2.2.1, mM_22.2.2.2.2, cR, cH, mm_syn ha, c22_3 ha, c45, cN, cA, cB0, cB1, sy_fold_0, h0, ↓reduceIte]
theorem c22_1 {a : Nat} (ha : mm_isS a) {p c : Int32} : mm_C (22, mm_blk 22 1, [some (.ref a), some (.int p), some (.int c), some (.int 1)], [], (hp sc I o t)) Q ↔ Q (.inl (some (.int (sy_fold (fun v c => if I (a + (5 + v)) 1 = p then c + I (a + (5 + v)) 3 else c) 5 c)))) (hp sc I o t) := by
  rw [mM_22.2.2.1]
  show _ ↔ Q (.inl (some (.int (sy_fold (fun v c => if I (a + (5 + v)) 1 = p then c + I (a + (5 + v)) 3 else c) 4 (if I (a + 6) 1 = p then c + I (a + 6) 3 else c))))) (hp sc I o t)
  by_cases h0 : I (a + 6) 1 = p <;> simp +decide only [mM_22.1, mM_22.2.1, mM_22.2.2.2.1, mM_22.2.2.2.2, cR, cH, mm_syn ha, c22_2 ha, c45, cN, cA, cB0, cB1, sy_fold_0, h0, ↓reduceIte]
theorem c22_0 {a : Nat} (ha : mm_isS a) {p c : Int32} : mm_C (22, mm_blk 22 1, [some (.ref a), some (.int p), some (.int c), some (.int 0)], [], (hp sc I o t)) Q ↔ Q (.inl (some (.int (sy_fold (fun v c => if I (a + (5 + v)) 1 = p then c + I (a + (5 + v)) 3 else c) 6 c)))) (hp sc I o t) := by
  rw [mM_22.2.2.1]
  show _ ↔ Q (.inl (some (.int (sy_fold (fun v c => if I (a + (5 + v)) 1 = p then c + I (a + (5 + v)) 3 else c) 5 (if I (a + 5) 1 = p then c + I (a + 5) 3 else c))))) (hp sc I o t)
  by_cases h0 : I (a + 5) 1 = p <;> simp +decide only [mM_22.1, mM_22.2.1, mM_22.2.2.2.1, mM_22.2.2.2.2, cR, cH, mm_syn ha, c22_1 ha, c45, cN, cA, cB0, cB1, sy_fold_0, h0, ↓reduceIte]
theorem c22 {a : Nat} (ha : mm_isS a) {p : Int32} : mm_C (mm_entry 22 [.ref a, .int p] (hp sc I o t)) Q ↔ Q (.inl (some (.int (sy_fold (fun v c => if I (a + (5 + v)) 1 = p then c + I (a + (5 + v)) 3 else c) 6 0)))) (hp sc I o t) := by
  simp +decide only [mM_22.1, mM_22.2.1, mM_22.2.2.2.1, mM_22.2.2.2.2, cR, cH, c22_0 ha]
theorem c24_6 {a : Nat} (ha : mm_isS a) : mm_C (24, mm_blk 24 1, [some (.ref a), some (.int 6)], [], (hp sc I o t)) Q ↔ Q (.inl (some (.int (-1)))) (hp sc I o t) := by
  rw [mM_24.2.2.1]
  simp +decide only [mM_24.1, mM_24.2.1, mM_24.2.2.2.1, mM_24.2.2.2.2, cR, cH, mm_syn ha, cN, cA, ↓reduceIte]
theorem c24_5 {a : Nat} (ha : mm_isS a) : mm_C (24, mm_blk 24 1, [some (.ref a), some (.int 5)], [], (hp sc I o t)) Q ↔ Q (.inl (some (.int (sy_find (fun v => decide (I (a + (5 + v)) 1 = 0)) 1)))) (hp sc I o t) := by
  rw [mM_24.2.2.1]
  show _ ↔ Q (.inl (some (.int (if decide (I (a + 10) 1 = 0) = true then 5 else sy_find (fun v => decide (I (a + (5 + v)) 1 = 0)) 0)))) (hp sc I o t)
  by_cases h0 : I (a + 10) 1 = 0 <;> simp +decide only [mM_24.1, mM_24.2.1, mM_24.2.2.2.1, mM_24.2.2.2.2, cR, cH, mm_syn ha, c24_6 ha, c45, cN, cA, cB0, cB1, sy_find_0, decide_eq_true_eq, and_true, true_and, and_false, false_and, not_true_eq_false, not_false_eq_true, h0, ↓reduceIte]
theorem c24_4 {a : Nat} (ha : mm_isS a) : mm_C (24, mm_blk 24 1, [some (.ref a), some (.int 4)], [], (hp sc I o t)) Q ↔ Q (.inl (some (.int (sy_find (fun v => decide (I (a + (5 + v)) 1 = 0)) 2)))) (hp sc I o t) := by
  rw [mM_24.2.2.1]
  show _ ↔ Q (.inl (some (.int (if decide (I (a + 9) 1 = 0) = true then 4 else sy_find (fun v => decide (I (a + (5 + v)) 1 = 0)) 1)))) (hp sc I o t)
  by_cases h0 : I (a + 9) 1 = 0 <;> simp +decide only [mM_24.1, mM_24.2.1, mM_24.2.2.2.1, mM_24.2.2.2.2, cR, cH, mm_syn ha, c24_5 ha, c45, cN, cA, cB0, cB1, sy_find_0, decide_eq_true_eq, and_true, true_and, and_false, false_and, not_true_eq_false, not_false_eq_true, h0, ↓reduceIte]
theorem c24_3 {a : Nat} (ha : mm_isS a) : mm_C (24, mm_blk 24 1, [some (.ref a), some (.int 3)], [], (hp sc I o t)) Q ↔ Q (.inl (some (.int (sy_find (fun v => decide (I (a + (5 + v)) 1 = 0)) 3)))) (hp sc I o t) := by
  rw [mM_24.2.2.1]
  show _ ↔ Q (.inl (some (.int (if decide (I (a + 8) 1 = 0) = true then 3 else sy_find (fun v => decide (I (a + (5 + v)) 1 = 0)) 2)))) (hp sc I o t)
  by_cases h0 : I (a + 8) 1 = 0 <;> simp +decide only [mM_24.1, mM_24.2.1, mM_24.2.2.2.1, mM_24.2.2.2.2, cR, cH, mm_syn ha, c24_4 ha, c45, cN, cA, cB0, cB1, sy_find_0, decide_eq_true_eq, and_true, true_and, and_false, false_and, not_true_eq_false, not_false_eq_true, h0, ↓reduceIte]
theorem c24_2 {a : Nat} (ha : mm_isS a) : mm_C (24, mm_blk 24 1, [some (.ref a), some (.int 2)], [], (hp sc I o t)) Q ↔ Q (.inl (some (.int (sy_find (fun v => decide (I (a + (5 + v)) 1 = 0)) 4)))) (hp sc I o t) := by
  rw [mM_24.2.2.1]
  show _ ↔ Q (.inl (some (.int (if decide (I (a + 7) 1 = 0) = true then 2 else sy_find (fun v => decide (I (a + (5 + v)) 1 = 0)) 3)))) (hp sc I o t)
  by_cases h0 : I (a + 7) 1 = 0 <;> simp +decide only [mM_24.1, mM_24.2.1, mM_24.2.2.2.1, mM_24.2.2.2.2, cR, cH, mm_syn ha, c24_3 ha, c45, cN, cA, cB0, cB1, sy_find_0, decide_eq_true_eq, and_true, true_and, and_false, false_and, not_true_eq_false, not_false_eq_true, h0, ↓reduceIte]
theorem c24_1 {a : Nat} (ha : mm_isS a) : mm_C (24, mm_blk 24 1, [some (.ref a), some (.int 1)], [], (hp sc I o t)) Q ↔ Q (.inl (some (.int (sy_find (fun v => decide (I (a + (5 + v)) 1 = 0)) 5)))) (hp sc I o t) := by
  rw [mM_24.2.2.1]
  show _ ↔ Q (.inl (some (.int (if decide (I (a + 6) 1 = 0) = true then 1 else sy_find (fun v => decide (I (a + (5 + v)) 1 = 0)) 4)))) (hp sc I o t)
  by_cases h0 : I (a + 6) 1 = 0 <;> simp +decide only [mM_24.1, mM_24.2.1, mM_24.2.2.2.1, mM_24.2.2.2.2, cR, cH, mm_syn ha, c24_2 ha, c45, cN, cA, cB0, cB1, sy_find_0, decide_eq_true_eq, and_true, true_and, and_false, false_and, not_true_eq_false, not_false_eq_true, h0, ↓reduceIte]
theorem c24_0 {a : Nat} (ha : mm_isS a) : mm_C (24, mm_blk 24 1, [some (.ref a), some (.int 0)], [], (hp sc I o t)) Q ↔ Q (.inl (some (.int (sy_find (fun v => decide (I (a + (5 + v)) 1 = 0)) 6)))) (hp sc I o t) := by
  rw [mM_24.2.2.1]
  show _ ↔ Q (.inl (some (.int (if decide (I (a + 5) 1 = 0) = true then 0 else sy_find (fun v => decide (I (a + (5 + v)) 1 = 0)) 5)))) (hp sc I o t)
  by_cases h0 : I (a + 5) 1 = 0 <;> simp +decide only [mM_24.1, mM_24.2.1, mM_24.2.2.2.1, mM_24.2.2.2.2, cR, cH, mm_syn ha, c24_1 ha, c45, cN, cA, cB0, cB1, sy_find_0, decide_eq_true_eq, and_true, true_and, and_false, false_and, not_true_eq_false, not_false_eq_true, h0, ↓reduceIte]
theorem c24 {a : Nat} (ha : mm_isS a) : mm_C (mm_entry 24 [.ref a] (hp sc I o t)) Q ↔ Q (.inl (some (.int (sy_find (fun v => decide (I (a + (5 + v)) 1 = 0)) 6)))) (hp sc I o t) := by
  simp +decide only [mM_24.1, mM_24.2.1, mM_24.2.2.2.1, mM_24.2.2.2.2, cR, cH, c24_0 ha]
theorem c23_6 {a : Nat} (ha : mm_isS a) {k : Int32} : mm_C (23, mm_blk 23 1, [some (.ref a), some (.int k), some (.int 6)], [], (hp sc I o t)) Q ↔ Q (.inl (some (.int (-1)))) (hp sc I o t) := by
  rw [mM_23.2.2.1]
  simp +decide only [mM_23.1, mM_23.2.1, mM_23.2.2.2.1, mM_23.2.2.2.2, cR, cH, mm_syn ha, cN, cA, ↓reduceIte]
theorem c23_5 {a : Nat} (ha : mm_isS a) {k : Int32} : mm_C (23, mm_blk 23 1, [some (.ref a), some (.int k), some (.int 5)], [], (hp sc I o t)) Q ↔ Q (.inl (some (.int (sy_find (fun v => decide (¬ k = -1 ∧ I (a + (5 + v)) 0 = k)) 1)))) (hp sc I o t) := by
  rw [mM_23.2.2.1]
  show _ ↔ Q (.inl (some (.int (if decide (¬ k = -1 ∧ I (a + 10) 0 = k) = true then 5 else sy_find (fun v => decide (¬ k = -1 ∧ I (a + (5 + v)) 0 = k)) 0)))) (hp sc I o t)
  by_cases h0 : k = -1 <;> by_cases h1 : I (a + 10) 0 = k <;> simp +decide only [mM_23.1, mM_23.2.1, mM_23.2.2.2.1, mM_23.2.2.2.2, cR, cH, mm_syn ha, c23_6 ha, c45, cN, cA, cB0, cB1, sy_find_0, decide_eq_true_eq, and_true, true_and, and_false, false_and, not_true_eq_false, not_false_eq_true, h0, h1, ↓reduceIte]
theorem c23_4 {a : Nat} (ha : mm_isS a) {k : Int32} : mm_C (23, mm_blk 23 1, [some (.ref a), some (.int k), some (.int 4)], [], (hp sc I o t)) Q ↔ Q (.inl (some (.int (sy_find (fun v => decide (¬ k = -1 ∧ I (a + (5 + v)) 0 = k)) 2)))) (hp sc I o t) := by
  rw [mM_23.2.2.1]
  show _ ↔ Q (.inl (some (.int (if decide (¬ k = -1 ∧ I (a + 9) 0 = k) = true then 4 else sy_find (fun v => decide (¬ k = -1 ∧ I (a + (5 + v)) 0 = k)) 1)))) (hp sc I o t)
  by_cases h0 : k = -1 <;> by_cases h1 : I (a + 9) 0 = k <;> simp +decide only [mM_23.1, mM_23.2.1, mM_23.2.2.2.1, mM_23.2.2.2.2, cR, cH, mm_syn ha, c23_5 ha, c45, cN, cA, cB0, cB1, sy_find_0, decide_eq_true_eq, and_true, true_and, and_false, false_and, not_true_eq_false, not_false_eq_true, h0, h1, ↓reduceIte]
theorem c23_3 {a : Nat} (ha : mm_isS a) {k : Int32} : mm_C (23, mm_blk 23 1, [some (.ref a), some (.int k), some (.int 3)], [], (hp sc I o t)) Q ↔ Q (.inl (some (.int (sy_find (fun v => decide (¬ k = -1 ∧ I (a + (5 + v)) 0 = k)) 3)))) (hp sc I o t) := by
  rw [mM_23.2.2.1]
  show _ ↔ Q (.inl (some (.int (if decide (¬ k = -1 ∧ I (a + 8) 0 = k) = true then 3 else sy_find (fun v => decide (¬ k = -1 ∧ I (a + (5 + v)) 0 = k)) 2)))) (hp sc I o t)
  by_cases h0 : k = -1 <;> by_cases h1 : I (a + 8) 0 = k <;> simp +decide only [mM_23.1, mM_23.2.1, mM_23.2.2.2.1, mM_23.2.2.2.2, cR, cH, mm_syn ha, c23_4 ha, c45, cN, cA, cB0, cB1, sy_find_0, decide_eq_true_eq, and_true, true_and, and_false, false_and, not_true_eq_false, not_false_eq_true, h0, h1, ↓reduceIte]
theorem c23_2 {a : Nat} (ha : mm_isS a) {k : Int32} : mm_C (23, mm_blk 23 1, [some (.ref a), some (.int k), some (.int 2)], [], (hp sc I o t)) Q ↔ Q (.inl (some (.int (sy_find (fun v => decide (¬ k = -1 ∧ I (a + (5 + v)) 0 = k)) 4)))) (hp sc I o t) := by
  rw [mM_23.2.2.1]
  show _ ↔ Q (.inl (some (.int (if decide (¬ k = -1 ∧ I (a + 7) 0 = k) = true then 2 else sy_find (fun v => decide (¬ k = -1 ∧ I (a + (5 + v)) 0 = k)) 3)))) (hp sc I o t)
  by_cases h0 : k = -1 <;> by_cases h1 : I (a + 7) 0 = k <;> simp +decide only [mM_23.1, mM_23.2.1, mM_23.2.2.2.1, mM_23.2.2.2.2, cR, cH, mm_syn ha, c23_3 ha, c45, cN, cA, cB0, cB1, sy_find_0, decide_eq_true_eq, and_true, true_and, and_false, false_and, not_true_eq_false, not_false_eq_true, h0, h1, ↓reduceIte]
theorem c23_1 {a : Nat} (ha : mm_isS a) {k : Int32} : mm_C (23, mm_blk 23 1, [some (.ref a), some (.int k), some (.int 1)], [], (hp sc I o t)) Q ↔ Q (.inl (some (.int (sy_find (fun v => decide (¬ k = -1 ∧ I (a + (5 + v)) 0 = k)) 5)))) (hp sc I o t) := by
  rw [mM_23.2.2.1]
  show _ ↔ Q (.inl (some (.int (if decide (¬ k = -1 ∧ I (a + 6) 0 = k) = true then 1 else sy_find (fun v => decide (¬ k = -1 ∧ I (a + (5 + v)) 0 = k)) 4)))) (hp sc I o t)
  by_cases h0 : k = -1 <;> by_cases h1 : I (a + 6) 0 = k <;> simp +decide only [mM_23.1, mM_23.2.1, mM_23.2.2.2.1, mM_23.2.2.2.2, cR, cH, mm_syn ha, c23_2 ha, c45, cN, cA, cB0, cB1, sy_find_0, decide_eq_true_eq, and_true, true_and, and_false, false_and, not_true_eq_false, not_false_eq_true, h0, h1, ↓reduceIte]
theorem c23_0 {a : Nat} (ha : mm_isS a) {k : Int32} : mm_C (23, mm_blk 23 1, [some (.ref a), some (.int k), some (.int 0)], [], (hp sc I o t)) Q ↔ Q (.inl (some (.int (sy_find (fun v => decide (¬ k = -1 ∧ I (a + (5 + v)) 0 = k)) 6)))) (hp sc I o t) := by
  rw [mM_23.2.2.1]
  show _ ↔ Q (.inl (some (.int (if decide (¬ k = -1 ∧ I (a + 5) 0 = k) = true then 0 else sy_find (fun v => decide (¬ k = -1 ∧ I (a + (5 + v)) 0 = k)) 5)))) (hp sc I o t)
  by_cases h0 : k = -1 <;> by_cases h1 : I (a + 5) 0 = k <;> simp +decide only [mM_23.1, mM_23.2.1, mM_23.2.2.2.1, mM_23.2.2.2.2, cR, cH, mm_syn ha, c23_1 ha, c45, cN, cA, cB0, cB1, sy_find_0, decide_eq_true_eq, and_true, true_and, and_false, false_and, not_true_eq_false, not_false_eq_true, h0, h1, ↓reduceIte]
theorem c23 {a : Nat} (ha : mm_isS a) {k : Int32} : mm_C (mm_entry 23 [.ref a, .int k] (hp sc I o t)) Q ↔ Q (.inl (some (.int (sy_find (fun v => decide (¬ k = -1 ∧ I (a + (5 + v)) 0 = k)) 6)))) (hp sc I o t) := by
  simp +decide only [mM_23.1, mM_23.2.1, mM_23.2.2.2.1, mM_23.2.2.2.2, cR, cH, c23_0 ha]
theorem c30 {a : Nat} (ha : mm_isS a) {k : Int32} : mm_C (mm_entry 30 [.ref a, .int k] (hp sc I o t)) Q ↔ Q (.inl (some (.int (if sy_dn (I (a + 3)) k = true then 1 else 0)))) (hp sc I o t) := by
  by_cases h1 : k < 0
  · simp +decide only [mM_30, cR, cH, mm_syn ha, sy_dn, h1, and_true, true_and, and_false, false_and, or_true, true_or, or_false, false_or, not_true_eq_false, not_false_eq_true, decide_eq_true_eq, decide_true, decide_false, Bool.not_true, Bool.not_false, Bool.and_true, Bool.true_and, Bool.and_false, Bool.false_and, Bool.false_eq_true, eq_self, ↓reduceIte]
  by_cases h2 : k < 60
  · have h3 := mm_in60 h1 h2
    by_cases h4 : 0 < I (a + 3) k.toNatClampNeg <;> simp +decide only [mM_30, cR, cH, mm_syn ha, sy_dn, h1, h2, h3, h4, and_true, true_and, and_false, false_and, or_true, true_or, or_false, false_or, not_true_eq_false, not_false_eq_true, decide_eq_true_eq, decide_true, decide_false, Bool.not_true, Bool.not_false, Bool.and_true, Bool.true_and, Bool.and_false, Bool.false_and, Bool.false_eq_true, eq_self, ↓reduceIte]
  · simp +decide only [mM_30, cR, cH, mm_syn ha, sy_dn, h1, h2, and_true, true_and, and_false, false_and, or_true, true_or, or_false, false_or, not_true_eq_false, not_false_eq_true, decide_eq_true_eq, decide_true, decide_false, Bool.not_true, Bool.not_false, Bool.and_true, Bool.true_and, Bool.and_false, Bool.false_and, Bool.false_eq_true, eq_self, ↓reduceIte]
theorem c25a_6 {a : Nat} (ha : mm_isS a) {b x : Int32} {x5 x6 : Option Value} : mm_C (25, mm_blk 25 1, [some (.ref a), some (.int 0), some (.int b), some (.int x), some (.int 6), x5, x6], [], (hp sc I o t)) Q ↔ Q (.inl (some (.int b))) (hp sc I o t) := by
  rw [mM_25.2.2.1]
  simp +decide only [mM_25.1, mM_25.2.1, mM_25.2.2.2.1, mM_25.2.2.2.2.1, mM_25.2.2.2.2.2.1, mM_25.2.2.2.2.2.2.1, mM_25.2.2.2.2.2.2.2.1, mM_25.2.2.2.2.2.2.2.2.1, mM_25.2.2.2.2.2.2.2.2.2, cR, cH, mm_syn ha, cN, cA, ↓reduceIte]
theorem c25a_5 {a : Nat} (ha : mm_isS a) {b x : Int32} {x5 x6 : Option Value} : mm_C (25, mm_blk 25 1, [some (.ref a), some (.int 0), some (.int b), some (.int x), some (.int 5), x5, x6], [], (hp sc I o t)) Q ↔ Q (.inl (some (.int (sy_old (fun v => decide (¬ I (a + (5 + v)) 1 = 0)) (fun v => I (a + (5 + v)) 4) 1 b x)))) (hp sc I o t) := by
  rw [mM_25.2.2.1]
  show _ ↔ Q (.inl (some (.int (if decide (¬ I (a + 10) 1 = 0) = true ∧ (b = -1 ∨ I (a + 10) 4 < x) then sy_old (fun v => decide (¬ I (a + (5 + v)) 1 = 0)) (fun v => I (a + (5 + v)) 4) 0 5 (I (a + 10) 4) else sy_old (fun v => decide (¬ I (a + (5 + v)) 1 = 0)) (fun v => I (a + (5 + v)) 4) 0 b x)))) (hp sc I o t)
  by_cases h0 : I (a + 10) 1 = 0 <;> by_cases h1 : b = -1 <;> by_cases h2 : I (a + 10) 4 < x <;> simp +decide only [mM_25.1, mM_25.2.1, mM_25.2.2.2.1, mM_25.2.2.2.2.1, mM_25.2.2.2.2.2.1, mM_25.2.2.2.2.2.2.1, mM_25.2.2.2.2.2.2.2.1, mM_25.2.2.2.2.2.2.2.2.1, mM_25.2.2.2.2.2.2.2.2.2, cR, cH, mm_syn ha, c25a_6 ha, c45, cN, cA, cB0, cB1, sy_old_0, h0, h1, h2, and_true, true_and, and_false, false_and, or_true, true_or, or_false, false_or, not_true_eq_false, not_false_eq_true, decide_eq_true_eq, decide_true, decide_false, Bool.not_true, Bool.not_false, Bool.and_true, Bool.true_and, Bool.and_false, Bool.false_and, Bool.false_eq_true, eq_self, ↓reduceIte]
theorem c25a_4 {a : Nat} (ha : mm_isS a) {b x : Int32} {x5 x6 : Option Value} : mm_C (25, mm_blk 25 1, [some (.ref a), some (.int 0), some (.int b), some (.int x), some (.int 4), x5, x6], [], (hp sc I o t)) Q ↔ Q (.inl (some (.int (sy_old (fun v => decide (¬ I (a + (5 + v)) 1 = 0)) (fun v => I (a + (5 + v)) 4) 2 b x)))) (hp sc I o t) := by
  rw [mM_25.2.2.1]
  show _ ↔ Q (.inl (some (.int (if decide (¬ I (a + 9) 1 = 0) = true ∧ (b = -1 ∨ I (a + 9) 4 < x) then sy_old (fun v => decide (¬ I (a + (5 + v)) 1 = 0)) (fun v => I (a + (5 + v)) 4) 1 4 (I (a + 9) 4) else sy_old (fun v => decide (¬ I (a + (5 + v)) 1 = 0)) (fun v => I (a + (5 + v)) 4) 1 b x)))) (hp sc I o t)
  by_cases h0 : I (a + 9) 1 = 0 <;> by_cases h1 : b = -1 <;> by_cases h2 : I (a + 9) 4 < x <;> simp +decide only [mM_25.1, mM_25.2.1, mM_25.2.2.2.1, mM_25.2.2.2.2.1, mM_25.2.2.2.2.2.1, mM_25.2.2.2.2.2.2.1, mM_25.2.2.2.2.2.2.2.1, mM_25.2.2.2.2.2.2.2.2.1, mM_25.2.2.2.2.2.2.2.2.2, cR, cH, mm_syn ha, c25a_5 ha, c45, cN, cA, cB0, cB1, sy_old_0, h0, h1, h2, and_true, true_and, and_false, false_and, or_true, true_or, or_false, false_or, not_true_eq_false, not_false_eq_true, decide_eq_true_eq, decide_true, decide_false, Bool.not_true, Bool.not_false, Bool.and_true, Bool.true_and, Bool.and_false, Bool.false_and, Bool.false_eq_true, eq_self, ↓reduceIte]
theorem c25a_3 {a : Nat} (ha : mm_isS a) {b x : Int32} {x5 x6 : Option Value} : mm_C (25, mm_blk 25 1, [some (.ref a), some (.int 0), some (.int b), some (.int x), some (.int 3), x5, x6], [], (hp sc I o t)) Q ↔ Q (.inl (some (.int (sy_old (fun v => decide (¬ I (a + (5 + v)) 1 = 0)) (fun v => I (a + (5 + v)) 4) 3 b x)))) (hp sc I o t) := by
  rw [mM_25.2.2.1]
  show _ ↔ Q (.inl (some (.int (if decide (¬ I (a + 8) 1 = 0) = true ∧ (b = -1 ∨ I (a + 8) 4 < x) then sy_old (fun v => decide (¬ I (a + (5 + v)) 1 = 0)) (fun v => I (a + (5 + v)) 4) 2 3 (I (a + 8) 4) else sy_old (fun v => decide (¬ I (a + (5 + v)) 1 = 0)) (fun v => I (a + (5 + v)) 4) 2 b x)))) (hp sc I o t)
  by_cases h0 : I (a + 8) 1 = 0 <;> by_cases h1 : b = -1 <;> by_cases h2 : I (a + 8) 4 < x <;> simp +decide only [mM_25.1, mM_25.2.1, mM_25.2.2.2.1, mM_25.2.2.2.2.1, mM_25.2.2.2.2.2.1, mM_25.2.2.2.2.2.2.1, mM_25.2.2.2.2.2.2.2.1, mM_25.2.2.2.2.2.2.2.2.1, mM_25.2.2.2.2.2.2.2.2.2, cR, cH, mm_syn ha, c25a_4 ha, c45, cN, cA, cB0, cB1, sy_old_0, h0, h1, h2, and_true, true_and, and_false, false_and, or_true, true_or, or_false, false_or, not_true_eq_false, not_false_eq_true, decide_eq_true_eq, decide_true, decide_false, Bool.not_true, Bool.not_false, Bool.and_true, Bool.true_and, Bool.and_false, Bool.false_and, Bool.false_eq_true, eq_self, ↓reduceIte]
theorem c25a_2 {a : Nat} (ha : mm_isS a) {b x : Int32} {x5 x6 : Option Value} : mm_C (25, mm_blk 25 1, [some (.ref a), some (.int 0), some (.int b), some (.int x), some (.int 2), x5, x6], [], (hp sc I o t)) Q ↔ Q (.inl (some (.int (sy_old (fun v => decide (¬ I (a + (5 + v)) 1 = 0)) (fun v => I (a + (5 + v)) 4) 4 b x)))) (hp sc I o t) := by
  rw [mM_25.2.2.1]
  show _ ↔ Q (.inl (some (.int (if decide (¬ I (a + 7) 1 = 0) = true ∧ (b = -1 ∨ I (a + 7) 4 < x) then sy_old (fun v => decide (¬ I (a + (5 + v)) 1 = 0)) (fun v => I (a + (5 + v)) 4) 3 2 (I (a + 7) 4) else sy_old (fun v => decide (¬ I (a + (5 + v)) 1 = 0)) (fun v => I (a + (5 + v)) 4) 3 b x)))) (hp sc I o t)
  by_cases h0 : I (a + 7) 1 = 0 <;> by_cases h1 : b = -1 <;> by_cases h2 : I (a + 7) 4 < x <;> simp +decide only [mM_25.1, mM_25.2.1, mM_25.2.2.2.1, mM_25.2.2.2.2.1, mM_25.2.2.2.2.2.1, mM_25.2.2.2.2.2.2.1, mM_25.2.2.2.2.2.2.2.1, mM_25.2.2.2.2.2.2.2.2.1, mM_25.2.2.2.2.2.2.2.2.2, cR, cH, mm_syn ha, c25a_3 ha, c45, cN, cA, cB0, cB1, sy_old_0, h0, h1, h2, and_true, true_and, and_false, false_and, or_true, true_or, or_false, false_or, not_true_eq_false, not_false_eq_true, decide_eq_true_eq, decide_true, decide_false, Bool.not_true, Bool.not_false, Bool.and_true, Bool.true_and, Bool.and_false, Bool.false_and, Bool.false_eq_true, eq_self, ↓reduceIte]
theorem c25a_1 {a : Nat} (ha : mm_isS a) {b x : Int32} {x5 x6 : Option Value} : mm_C (25, mm_blk 25 1, [some (.ref a), some (.int 0), some (.int b), some (.int x), some (.int 1), x5, x6], [], (hp sc I o t)) Q ↔ Q (.inl (some (.int (sy_old (fun v => decide (¬ I (a + (5 + v)) 1 = 0)) (fun v => I (a + (5 + v)) 4) 5 b x)))) (hp sc I o t) := by
  rw [mM_25.2.2.1]
  show _ ↔ Q (.inl (some (.int (if decide (¬ I (a + 6) 1 = 0) = true ∧ (b = -1 ∨ I (a + 6) 4 < x) then sy_old (fun v => decide (¬ I (a + (5 + v)) 1 = 0)) (fun v => I (a + (5 + v)) 4) 4 1 (I (a + 6) 4) else sy_old (fun v => decide (¬ I (a + (5 + v)) 1 = 0)) (fun v => I (a + (5 + v)) 4) 4 b x)))) (hp sc I o t)
  by_cases h0 : I (a + 6) 1 = 0 <;> by_cases h1 : b = -1 <;> by_cases h2 : I (a + 6) 4 < x <;> simp +decide only [mM_25.1, mM_25.2.1, mM_25.2.2.2.1, mM_25.2.2.2.2.1, mM_25.2.2.2.2.2.1, mM_25.2.2.2.2.2.2.1, mM_25.2.2.2.2.2.2.2.1, mM_25.2.2.2.2.2.2.2.2.1, mM_25.2.2.2.2.2.2.2.2.2, cR, cH, mm_syn ha, c25a_2 ha, c45, cN, cA, cB0, cB1, sy_old_0, h0, h1, h2, and_true, true_and, and_false, false_and, or_true, true_or, or_false, false_or, not_true_eq_false, not_false_eq_true, decide_eq_true_eq, decide_true, decide_false, Bool.not_true, Bool.not_false, Bool.and_true, Bool.true_and, Bool.and_false, Bool.false_and, Bool.false_eq_true, eq_self, ↓reduceIte]
theorem c25a_0 {a : Nat} (ha : mm_isS a) {b x : Int32} {x5 x6 : Option Value} : mm_C (25, mm_blk 25 1, [some (.ref a), some (.int 0), some (.int b), some (.int x), some (.int 0), x5, x6], [], (hp sc I o t)) Q ↔ Q (.inl (some (.int (sy_old (fun v => decide (¬ I (a + (5 + v)) 1 = 0)) (fun v => I (a + (5 + v)) 4) 6 b x)))) (hp sc I o t) := by
  rw [mM_25.2.2.1]
  show _ ↔ Q (.inl (some (.int (if decide (¬ I (a + 5) 1 = 0) = true ∧ (b = -1 ∨ I (a + 5) 4 < x) then sy_old (fun v => decide (¬ I (a + (5 + v)) 1 = 0)) (fun v => I (a + (5 + v)) 4) 5 0 (I (a + 5) 4) else sy_old (fun v => decide (¬ I (a + (5 + v)) 1 = 0)) (fun v => I (a + (5 + v)) 4) 5 b x)))) (hp sc I o t)
  by_cases h0 : I (a + 5) 1 = 0 <;> by_cases h1 : b = -1 <;> by_cases h2 : I (a + 5) 4 < x <;> simp +decide only [mM_25.1, mM_25.2.1, mM_25.2.2.2.1, mM_25.2.2.2.2.1, mM_25.2.2.2.2.2.1, mM_25.2.2.2.2.2.2.1, mM_25.2.2.2.2.2.2.2.1, mM_25.2.2.2.2.2.2.2.2.1, mM_25.2.2.2.2.2.2.2.2.2, cR, cH, mm_syn ha, c25a_1 ha, c45, cN, cA, cB0, cB1, sy_old_0, h0, h1, h2, and_true, true_and, and_false, false_and, or_true, true_or, or_false, false_or, not_true_eq_false, not_false_eq_true, decide_eq_true_eq, decide_true, decide_false, Bool.not_true, Bool.not_false, Bool.and_true, Bool.true_and, Bool.and_false, Bool.false_and, Bool.false_eq_true, eq_self, ↓reduceIte]
theorem c25a {a : Nat} (ha : mm_isS a) : mm_C (mm_entry 25 [.ref a, .int 0] (hp sc I o t)) Q ↔ Q (.inl (some (.int (sy_old (fun v => decide (¬ I (a + (5 + v)) 1 = 0)) (fun v => I (a + (5 + v)) 4) 6 (-1) 0)))) (hp sc I o t) := by
  simp +decide only [mM_25.1, mM_25.2.1, mM_25.2.2.2.1, mM_25.2.2.2.2.1, mM_25.2.2.2.2.2.1, mM_25.2.2.2.2.2.2.1, mM_25.2.2.2.2.2.2.2.1, mM_25.2.2.2.2.2.2.2.2.1, mM_25.2.2.2.2.2.2.2.2.2, cR, cH, c25a_0 ha]
theorem c25b_6 {a : Nat} (ha : mm_isS a) {b x : Int32} {x5 x6 : Option Value} : mm_C (25, mm_blk 25 1, [some (.ref a), some (.int 1), some (.int b), some (.int x), some (.int 6), x5, x6], [], (hp sc I o t)) Q ↔ Q (.inl (some (.int b))) (hp sc I o t) := by
  rw [mM_25.2.2.1]
  simp +decide only [mM_25.1, mM_25.2.1, mM_25.2.2.2.1, mM_25.2.2.2.2.1, mM_25.2.2.2.2.2.1, mM_25.2.2.2.2.2.2.1, mM_25.2.2.2.2.2.2.2.1, mM_25.2.2.2.2.2.2.2.2.1, mM_25.2.2.2.2.2.2.2.2.2, cR, cH, mm_syn ha, cN, cA, ↓reduceIte]
theorem c25b_5 {a : Nat} (ha : mm_isS a) {b x : Int32} {x5 x6 : Option Value} : mm_C (25, mm_blk 25 1, [some (.ref a), some (.int 1), some (.int b), some (.int x), some (.int 5), x5, x6], [], (hp sc I o t)) Q ↔ Q (.inl (some (.int (sy_old (fun v => decide (I (a + (5 + v)) 1 = 4)) (fun v => I (a + (5 + v)) 4) 1 b x)))) (hp sc I o t) := by
  rw [mM_25.2.2.1]
  show _ ↔ Q (.inl (some (.int (if decide (I (a + 10) 1 = 4) = true ∧ (b = -1 ∨ I (a + 10) 4 < x) then sy_old (fun v => decide (I (a + (5 + v)) 1 = 4)) (fun v => I (a + (5 + v)) 4) 0 5 (I (a + 10) 4) else sy_old (fun v => decide (I (a + (5 + v)) 1 = 4)) (fun v => I (a + (5 + v)) 4) 0 b x)))) (hp sc I o t)
  by_cases h0 : I (a + 10) 1 = 4 <;> by_cases h1 : b = -1 <;> by_cases h2 : I (a + 10) 4 < x <;> simp +decide only [mM_25.1, mM_25.2.1, mM_25.2.2.2.1, mM_25.2.2.2.2.1, mM_25.2.2.2.2.2.1, mM_25.2.2.2.2.2.2.1, mM_25.2.2.2.2.2.2.2.1, mM_25.2.2.2.2.2.2.2.2.1, mM_25.2.2.2.2.2.2.2.2.2, cR, cH, mm_syn ha, c25b_6 ha, c45, cN, cA, cB0, cB1, sy_old_0, h0, h1, h2, and_true, true_and, and_false, false_and, or_true, true_or, or_false, false_or, not_true_eq_false, not_false_eq_true, decide_eq_true_eq, decide_true, decide_false, Bool.not_true, Bool.not_false, Bool.and_true, Bool.true_and, Bool.and_false, Bool.false_and, Bool.false_eq_true, eq_self, ↓reduceIte]
theorem c25b_4 {a : Nat} (ha : mm_isS a) {b x : Int32} {x5 x6 : Option Value} : mm_C (25, mm_blk 25 1, [some (.ref a), some (.int 1), some (.int b), some (.int x), some (.int 4), x5, x6], [], (hp sc I o t)) Q ↔ Q (.inl (some (.int (sy_old (fun v => decide (I (a + (5 + v)) 1 = 4)) (fun v => I (a + (5 + v)) 4) 2 b x)))) (hp sc I o t) := by
  rw [mM_25.2.2.1]
  show _ ↔ Q (.inl (some (.int (if decide (I (a + 9) 1 = 4) = true ∧ (b = -1 ∨ I (a + 9) 4 < x) then sy_old (fun v => decide (I (a + (5 + v)) 1 = 4)) (fun v => I (a + (5 + v)) 4) 1 4 (I (a + 9) 4) else sy_old (fun v => decide (I (a + (5 + v)) 1 = 4)) (fun v => I (a + (5 + v)) 4) 1 b x)))) (hp sc I o t)
  by_cases h0 : I (a + 9) 1 = 4 <;> by_cases h1 : b = -1 <;> by_cases h2 : I (a + 9) 4 < x <;> simp +decide only [mM_25.1, mM_25.2.1, mM_25.2.2.2.1, mM_25.2.2.2.2.1, mM_25.2.2.2.2.2.1, mM_25.2.2.2.2.2.2.1, mM_25.2.2.2.2.2.2.2.1, mM_25.2.2.2.2.2.2.2.2.1, mM_25.2.2.2.2.2.2.2.2.2, cR, cH, mm_syn ha, c25b_5 ha, c45, cN, cA, cB0, cB1, sy_old_0, h0, h1, h2, and_true, true_and, and_false, false_and, or_true, true_or, or_false, false_or, not_true_eq_false, not_false_eq_true, decide_eq_true_eq, decide_true, decide_false, Bool.not_true, Bool.not_false, Bool.and_true, Bool.true_and, Bool.and_false, Bool.false_and, Bool.false_eq_true, eq_self, ↓reduceIte]
theorem c25b_3 {a : Nat} (ha : mm_isS a) {b x : Int32} {x5 x6 : Option Value} : mm_C (25, mm_blk 25 1, [some (.ref a), some (.int 1), some (.int b), some (.int x), some (.int 3), x5, x6], [], (hp sc I o t)) Q ↔ Q (.inl (some (.int (sy_old (fun v => decide (I (a + (5 + v)) 1 = 4)) (fun v => I (a + (5 + v)) 4) 3 b x)))) (hp sc I o t) := by
  rw [mM_25.2.2.1]
  show _ ↔ Q (.inl (some (.int (if decide (I (a + 8) 1 = 4) = true ∧ (b = -1 ∨ I (a + 8) 4 < x) then sy_old (fun v => decide (I (a + (5 + v)) 1 = 4)) (fun v => I (a + (5 + v)) 4) 2 3 (I (a + 8) 4) else sy_old (fun v => decide (I (a + (5 + v)) 1 = 4)) (fun v => I (a + (5 + v)) 4) 2 b x)))) (hp sc I o t)
  by_cases h0 : I (a + 8) 1 = 4 <;> by_cases h1 : b = -1 <;> by_cases h2 : I (a + 8) 4 < x <;> simp +decide only [mM_25.1, mM_25.2.1, mM_25.2.2.2.1, mM_25.2.2.2.2.1, mM_25.2.2.2.2.2.1, mM_25.2.2.2.2.2.2.1, mM_25.2.2.2.2.2.2.2.1, mM_25.2.2.2.2.2.2.2.2.1, mM_25.2.2.2.2.2.2.2.2.2, cR, cH, mm_syn ha, c25b_4 ha, c45, cN, cA, cB0, cB1, sy_old_0, h0, h1, h2, and_true, true_and, and_false, false_and, or_true, true_or, or_false, false_or, not_true_eq_false, not_false_eq_true, decide_eq_true_eq, decide_true, decide_false, Bool.not_true, Bool.not_false, Bool.and_true, Bool.true_and, Bool.and_false, Bool.false_and, Bool.false_eq_true, eq_self, ↓reduceIte]
theorem c25b_2 {a : Nat} (ha : mm_isS a) {b x : Int32} {x5 x6 : Option Value} : mm_C (25, mm_blk 25 1, [some (.ref a), some (.int 1), some (.int b), some (.int x), some (.int 2), x5, x6], [], (hp sc I o t)) Q ↔ Q (.inl (some (.int (sy_old (fun v => decide (I (a + (5 + v)) 1 = 4)) (fun v => I (a + (5 + v)) 4) 4 b x)))) (hp sc I o t) := by
  rw [mM_25.2.2.1]
  show _ ↔ Q (.inl (some (.int (if decide (I (a + 7) 1 = 4) = true ∧ (b = -1 ∨ I (a + 7) 4 < x) then sy_old (fun v => decide (I (a + (5 + v)) 1 = 4)) (fun v => I (a + (5 + v)) 4) 3 2 (I (a + 7) 4) else sy_old (fun v => decide (I (a + (5 + v)) 1 = 4)) (fun v => I (a + (5 + v)) 4) 3 b x)))) (hp sc I o t)
  by_cases h0 : I (a + 7) 1 = 4 <;> by_cases h1 : b = -1 <;> by_cases h2 : I (a + 7) 4 < x <;> simp +decide only [mM_25.1, mM_25.2.1, mM_25.2.2.2.1, mM_25.2.2.2.2.1, mM_25.2.2.2.2.2.1, mM_25.2.2.2.2.2.2.1, mM_25.2.2.2.2.2.2.2.1, mM_25.2.2.2.2.2.2.2.2.1, mM_25.2.2.2.2.2.2.2.2.2, cR, cH, mm_syn ha, c25b_3 ha, c45, cN, cA, cB0, cB1, sy_old_0, h0, h1, h2, and_true, true_and, and_false, false_and, or_true, true_or, or_false, false_or, not_true_eq_false, not_false_eq_true, decide_eq_true_eq, decide_true, decide_false, Bool.not_true, Bool.not_false, Bool.and_true, Bool.true_and, Bool.and_false, Bool.false_and, Bool.false_eq_true, eq_self, ↓reduceIte]
theorem c25b_1 {a : Nat} (ha : mm_isS a) {b x : Int32} {x5 x6 : Option Value} : mm_C (25, mm_blk 25 1, [some (.ref a), some (.int 1), some (.int b), some (.int x), some (.int 1), x5, x6], [], (hp sc I o t)) Q ↔ Q (.inl (some (.int (sy_old (fun v => decide (I (a + (5 + v)) 1 = 4)) (fun v => I (a + (5 + v)) 4) 5 b x)))) (hp sc I o t) := by
  rw [mM_25.2.2.1]
  show _ ↔ Q (.inl (some (.int (if decide (I (a + 6) 1 = 4) = true ∧ (b = -1 ∨ I (a + 6) 4 < x) then sy_old (fun v => decide (I (a + (5 + v)) 1 = 4)) (fun v => I (a + (5 + v)) 4) 4 1 (I (a + 6) 4) else sy_old (fun v => decide (I (a + (5 + v)) 1 = 4)) (fun v => I (a + (5 + v)) 4) 4 b x)))) (hp sc I o t)
  by_cases h0 : I (a + 6) 1 = 4 <;> by_cases h1 : b = -1 <;> by_cases h2 : I (a + 6) 4 < x <;> simp +decide only [mM_25.1, mM_25.2.1, mM_25.2.2.2.1, mM_25.2.2.2.2.1, mM_25.2.2.2.2.2.1, mM_25.2.2.2.2.2.2.1, mM_25.2.2.2.2.2.2.2.1, mM_25.2.2.2.2.2.2.2.2.1, mM_25.2.2.2.2.2.2.2.2.2, cR, cH, mm_syn ha, c25b_2 ha, c45, cN, cA, cB0, cB1, sy_old_0, h0, h1, h2, and_true, true_and, and_false, false_and, or_true, true_or, or_false, false_or, not_true_eq_false, not_false_eq_true, decide_eq_true_eq, decide_true, decide_false, Bool.not_true, Bool.not_false, Bool.and_true, Bool.true_and, Bool.and_false, Bool.false_and, Bool.false_eq_true, eq_self, ↓reduceIte]
theorem c25b_0 {a : Nat} (ha : mm_isS a) {b x : Int32} {x5 x6 : Option Value} : mm_C (25, mm_blk 25 1, [some (.ref a), some (.int 1), some (.int b), some (.int x), some (.int 0), x5, x6], [], (hp sc I o t)) Q ↔ Q (.inl (some (.int (sy_old (fun v => decide (I (a + (5 + v)) 1 = 4)) (fun v => I (a + (5 + v)) 4) 6 b x)))) (hp sc I o t) := by
  rw [mM_25.2.2.1]
  show _ ↔ Q (.inl (some (.int (if decide (I (a + 5) 1 = 4) = true ∧ (b = -1 ∨ I (a + 5) 4 < x) then sy_old (fun v => decide (I (a + (5 + v)) 1 = 4)) (fun v => I (a + (5 + v)) 4) 5 0 (I (a + 5) 4) else sy_old (fun v => decide (I (a + (5 + v)) 1 = 4)) (fun v => I (a + (5 + v)) 4) 5 b x)))) (hp sc I o t)
  by_cases h0 : I (a + 5) 1 = 4 <;> by_cases h1 : b = -1 <;> by_cases h2 : I (a + 5) 4 < x <;> simp +decide only [mM_25.1, mM_25.2.1, mM_25.2.2.2.1, mM_25.2.2.2.2.1, mM_25.2.2.2.2.2.1, mM_25.2.2.2.2.2.2.1, mM_25.2.2.2.2.2.2.2.1, mM_25.2.2.2.2.2.2.2.2.1, mM_25.2.2.2.2.2.2.2.2.2, cR, cH, mm_syn ha, c25b_1 ha, c45, cN, cA, cB0, cB1, sy_old_0, h0, h1, h2, and_true, true_and, and_false, false_and, or_true, true_or, or_false, false_or, not_true_eq_false, not_false_eq_true, decide_eq_true_eq, decide_true, decide_false, Bool.not_true, Bool.not_false, Bool.and_true, Bool.true_and, Bool.and_false, Bool.false_and, Bool.false_eq_true, eq_self, ↓reduceIte]
theorem c25b {a : Nat} (ha : mm_isS a) : mm_C (mm_entry 25 [.ref a, .int 1] (hp sc I o t)) Q ↔ Q (.inl (some (.int (sy_old (fun v => decide (I (a + (5 + v)) 1 = 4)) (fun v => I (a + (5 + v)) 4) 6 (-1) 0)))) (hp sc I o t) := by
  simp +decide only [mM_25.1, mM_25.2.1, mM_25.2.2.2.1, mM_25.2.2.2.2.1, mM_25.2.2.2.2.2.1, mM_25.2.2.2.2.2.2.1, mM_25.2.2.2.2.2.2.2.1, mM_25.2.2.2.2.2.2.2.2.1, mM_25.2.2.2.2.2.2.2.2.2, cR, cH, c25b_0 ha]
theorem c28 {a b : Nat} (ha : mm_isS a) (hb : mm_is b 4) : mm_C (mm_entry 28 [.ref a, .ref b] (hp sc I o t)) Q ↔ Q (.inl (some (.int (if ¬ I b 1 = 0 ∧ ¬ I b 1 = 4 ∧ ¬ sy_dn (I (a + 3)) (I b 0) = true then 1 else 0)))) (hp sc I o t) := by
  by_cases h1 : I b 1 = 0 <;> by_cases h2 : I b 1 = 4 <;> by_cases h3 : sy_dn (I (a + 3)) (I b 0) = true <;> simp +decide only [mM_28, cR, cH, mm_syn ha, hb, c45, c30 ha, cB0, cB1, h1, h2, h3, and_true, true_and, and_false, false_and, or_true, true_or, or_false, false_or, not_true_eq_false, not_false_eq_true, decide_eq_true_eq, decide_true, decide_false, Bool.not_true, Bool.not_false, Bool.and_true, Bool.true_and, Bool.and_false, Bool.false_and, Bool.false_eq_true, eq_self, ↓reduceIte]
theorem c29 {a b : Nat} (ha : mm_isS a) (hb : mm_is b 4) : mm_C (mm_entry 29 [.ref a, .ref b] (hp sc I o t)) Q ↔ Q (.inl (some (.int (if ¬ I b 1 = 0 ∧ 0 < I (a + 2) 3 then sv_max 1 ((I b 3 + I (a + 2) 3 - 1) / I (a + 2) 3) else 0)))) (hp sc I o t) := by
  by_cases h1 : I b 1 = 0
  · simp +decide only [mM_29, cR, cH, mm_syn ha, hb, c45, cB0, cB1, h1, and_true, true_and, and_false, false_and, or_true, true_or, or_false, false_or, not_true_eq_false, not_false_eq_true, decide_eq_true_eq, decide_true, decide_false, Bool.not_true, Bool.not_false, Bool.and_true, Bool.true_and, Bool.and_false, Bool.false_and, Bool.false_eq_true, eq_self, ↓reduceIte]
  by_cases h2 : 0 < I (a + 2) 3
  · have h3 : ¬ I (a + 2) 3 = 0 := fun e => by rw [e] at h2; exact absurd h2 (by decide)
    simp +decide only [mM_29, cR, cH, mm_syn ha, hb, c45, cB0, cB1, h1, h2, h3, sv_max, and_true, true_and, and_false, false_and, or_true, true_or, or_false, false_or, not_true_eq_false, not_false_eq_true, decide_eq_true_eq, decide_true, decide_false, Bool.not_true, Bool.not_false, Bool.and_true, Bool.true_and, Bool.and_false, Bool.false_and, Bool.false_eq_true, eq_self, ↓reduceIte]
  · simp +decide only [mM_29, cR, cH, mm_syn ha, hb, c45, cB0, cB1, h1, h2, and_true, true_and, and_false, false_and, or_true, true_or, or_false, false_or, not_true_eq_false, not_false_eq_true, decide_eq_true_eq, decide_true, decide_false, Bool.not_true, Bool.not_false, Bool.and_true, Bool.true_and, Bool.and_false, Bool.false_and, Bool.false_eq_true, eq_self, ↓reduceIte]
end VO
