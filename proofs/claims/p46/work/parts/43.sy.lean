/-! the synth: ticks, new, copies -/
section VR
variable {sc : Nat × (Nat → Int32)} {I : Nat → Nat → Int32} {o : Int64} {t : Nat} {Q : mm_Q}
def sy_br (a : Nat) : Nat → (Nat → Nat → Int32) → (Nat → Nat → Int32)
  | 0, I => I
  | n + 1, I => if sy_fr I a = -1 then I else if sy_lt I a = -1 then I else sy_br a n (sy_begin I a (a + (5 + (sy_fr I a).toNatClampNeg)) (sy_lt I a))
theorem c43_n {a : Nat} (ha : mm_isS a) (n : Nat) : ∀ (hn : n ≤ 6) {I : Nat → Nat → Int32} {x2 x3 : Option Value} (h2 : mm_isJ [x2] 0 = false), mm_C (43, mm_blk 43 1, [some (.ref a), some (.int (nI (6 - n))), x2, x3], [], (hp sc I o t)) Q ↔ Q (.inl none) (hp sc (sy_br a n I) o t) := by
  induction n with
  | zero =>
    intro hn I x2 x3 hx
    rw [mM_43.2.2.1]
    simp +decide only [mM_43.1, mM_43.2.1, mM_43.2.2.2.1, mM_43.2.2.2.2.1, mM_43.2.2.2.2.2, cR, cH, Nat.sub_zero, cV66, sy_br, ↓reduceIte]
  | succ n ih =>
    intro hn I x2 x3 hx
    have hk : 5 - n < 6 := by omega
    have e1 : 6 - (n + 1) = 5 - n := by omega
    have e2 : 5 - n + 1 = 6 - n := by omega
    rw [mM_43.2.2.1, e1]
    rcases sy_fr_c I a with h | ⟨j, hj, h⟩
    · simp +decide only [mM_43.1, mM_43.2.1, mM_43.2.2.2.1, mM_43.2.2.2.2.1, mM_43.2.2.2.2.2, cR, cH, mm_syn ha, cV6 hk, c24' ha, sy_br, h, ↓reduceIte]
    by_cases h4 : sy_lt I a = -1
    · simp +decide only [mM_43.1, mM_43.2.1, mM_43.2.2.2.1, mM_43.2.2.2.2.1, mM_43.2.2.2.2.2, cR, cH, mm_syn ha, cV6 hk, cV hj, c24' ha, c33' ha, sy_br, h, h4, ↓reduceIte]
    · have ih2 := fun (I : Nat → Nat → Int32) (v w : Int32) => ih (by omega) (I := I) (x2 := some (.int v)) (x3 := some (.int w)) rfl
      simp +decide only [mM_43.1, mM_43.2.1, mM_43.2.2.2.1, mM_43.2.2.2.2.1, mM_43.2.2.2.2.2, cR, cH, mm_syn ha, mm_synV ha hj, cV6 hk, cV hj, e2, c24' ha, c33' ha, c38 ha hj, ih2, sy_br, h, h4, ↓reduceIte]
theorem c43 {a : Nat} (ha : mm_isS a) : mm_C (mm_entry 43 [.ref a] (hp sc I o t)) Q ↔ Q (.inl none) (hp sc (sy_br a 6 I) o t) := by
  have e1 := fun (I : Nat → Nat → Int32) => c43_n (sc := sc) (o := o) (t := t) (Q := Q) ha 6 (by omega) (I := I) (x2 := none) (x3 := none) rfl
  have e2 : nI (6 - 6) = 0 := rfl
  rw [e2] at e1
  simp +decide only [mM_43.1, mM_43.2.1, mM_43.2.2.2.1, mM_43.2.2.2.2.1, mM_43.2.2.2.2.2, cR, cH, e1]
def sy_tk (a : Nat) : Nat → (Nat → Nat → Int32) → (Nat → Nat → Int32)
  | 0, I => I
  | n + 1, I => sy_tk a n (if sv_ends (I (a + (5 + (5 - n)))) (I (a + 2)) = 0 then mm_up I (a + (5 + (5 - n))) (sv_move (I (a + (5 + (5 - n)))) (I (a + 2))) else mm_up (mm_up I (a + (5 + (5 - n))) (sv_move (I (a + (5 + (5 - n)))) (I (a + 2)))) a (mm_up (I a) 10 (I a 10 + 1)))
def sy_tick (I : Nat → Nat → Int32) (a : Nat) : Nat → Nat → Int32 := if sy_tk a 6 (mm_up I a (mm_up (I a) 8 (I a 8 + 1))) a 6 = 0 then sy_tk a 6 (mm_up I a (mm_up (I a) 8 (I a 8 + 1))) else sy_br a 6 (sy_tk a 6 (mm_up I a (mm_up (I a) 8 (I a 8 + 1))))
theorem c42_n {a : Nat} (ha : mm_isS a) (n : Nat) : ∀ (hn : n ≤ 6) {I : Nat → Nat → Int32}, mm_C (42, mm_blk 42 1, [some (.ref a), some (.int (nI (6 - n)))], [], (hp sc I o t)) Q ↔ Q (.inl none) (hp sc (if sy_tk a n I a 6 = 0 then sy_tk a n I else sy_br a 6 (sy_tk a n I)) o t) := by
  induction n with
  | zero =>
    intro hn I
    rw [mM_42.2.2.1]
    by_cases h : I a 6 = 0 <;> simp +decide only [mM_42.1, mM_42.2.1, mM_42.2.2.2.1, mM_42.2.2.2.2.1, mM_42.2.2.2.2.2, cR, cH, mm_syn ha, Nat.sub_zero, cV66, c43 ha, sy_tk, h, ↓reduceIte]
  | succ n ih =>
    intro hn I
    have hk : 5 - n < 6 := by omega
    have e1 : 6 - (n + 1) = 5 - n := by omega
    have e2 : 5 - n + 1 = 6 - n := by omega
    rw [mM_42.2.2.1, e1]
    by_cases h : sv_ends (I (a + (5 + (5 - n)))) (I (a + 2)) = 0
    · simp +decide only [mM_42.1, mM_42.2.1, mM_42.2.2.2.1, mM_42.2.2.2.2.1, mM_42.2.2.2.2.2, cR, cH, mm_syn ha, mm_synV ha hk, cV hk, cV6 hk, e2, c50 (mm_synV ha hk).1 (mm_syn ha).1.2.2.2.1, ih (by omega), sy_tk, h, mm_neA, mm_neV, mm_up_n, mm_up_s, mm_up_up, not_false_eq_true, ↓reduceIte]
    · simp +decide only [mM_42.1, mM_42.2.1, mM_42.2.2.2.1, mM_42.2.2.2.2.1, mM_42.2.2.2.2.2, cR, cH, mm_syn ha, mm_synV ha hk, cV hk, cV6 hk, e2, c50 (mm_synV ha hk).1 (mm_syn ha).1.2.2.2.1, ih (by omega), sy_tk, h, mm_neA, mm_neV, mm_up_n, mm_up_s, mm_up_up, not_false_eq_true, ↓reduceIte]
theorem c42 {a : Nat} (ha : mm_isS a) : mm_C (mm_entry 42 [.ref a] (hp sc I o t)) Q ↔ Q (.inl none) (hp sc (sy_tick I a) o t) := by
  have e1 := fun (I : Nat → Nat → Int32) => c42_n (sc := sc) (o := o) (t := t) (Q := Q) ha 6 (by omega) (I := I)
  have e2 : nI (6 - 6) = 0 := rfl
  rw [e2] at e1
  simp +decide only [mM_42.1, mM_42.2.1, mM_42.2.2.2.1, mM_42.2.2.2.2.1, mM_42.2.2.2.2.2, cR, cH, mm_syn ha, e1, mm_up_s, mm_up_up, sy_tick]
def sy_run (a : Nat) : Nat → (Nat → Nat → Int32) → (Nat → Nat → Int32)
  | 0, I => I
  | n + 1, I => sy_run a n (sy_tick I a)
theorem cM {i m : Nat} (h : i < m) (hm : m ≤ 99) : (nI i < nI m) = True ∧ (nI i < 99) = True ∧ nI i + 1 = nI (i + 1) := by
  have e1 := nI_toInt (n := i) (by omega)
  have e2 := nI_toInt (n := m) (by omega)
  have e3 : (99 : Int32).toInt = 99 := by decide
  refine ⟨eq_true (Int32.lt_iff_toInt_lt.mpr (by rw [e1, e2]; omega)), eq_true (Int32.lt_iff_toInt_lt.mpr (by rw [e1, e3]; omega)), ?_⟩
  have h2 : ∀ k, k < 99 → nI k + 1 = nI (k + 1) := by decide +kernel
  exact h2 i (by omega)
theorem cM0 {m : Nat} : (nI m < nI m) = False := eq_false (by rw [Int32.lt_iff_toInt_lt]; omega)
theorem c41_n {a m : Nat} (ha : mm_isS a) (hm : m ≤ 99) {b0 : Int32} (n : Nat) : ∀ (hn : n ≤ m) {I : Nat → Nat → Int32}, mm_C (41, mm_blk 41 1, [some (.ref a), some (.int (nI m)), some (.int b0), some (.int (nI (m - n)))], [], (hp sc I o t)) Q ↔ Q (.inl (some (.int (sy_run a n I a 10 - b0)))) (hp sc (sy_run a n I) o t) := by
  induction n with
  | zero =>
    intro hn I
    rw [mM_41.2.2.1]
    simp +decide only [mM_41.1, mM_41.2.1, mM_41.2.2.2, cR, cH, mm_syn ha, Nat.sub_zero, cM0, sy_run, ↓reduceIte]
  | succ n ih =>
    intro hn I
    have hk : m - (n + 1) < m := by omega
    have e2 : m - (n + 1) + 1 = m - n := by omega
    rw [mM_41.2.2.1]
    simp +decide only [mM_41.1, mM_41.2.1, mM_41.2.2.2, cR, cH, mm_syn ha, cM hk hm, e2, c42 ha, ih (by omega), sy_run, ↓reduceIte]
theorem c41 {a m : Nat} (ha : mm_isS a) (hm : m ≤ 99) : mm_C (mm_entry 41 [.ref a, .int (nI m)] (hp sc I o t)) Q ↔ Q (.inl (some (.int (sy_run a m I a 10 - I a 10)))) (hp sc (sy_run a m I) o t) := by
  have e1 := fun (I : Nat → Nat → Int32) (b0 : Int32) => c41_n (sc := sc) (o := o) (t := t) (Q := Q) ha hm (b0 := b0) m (by omega) (I := I)
  have e2 : nI (m - m) = 0 := by rw [Nat.sub_self]; rfl
  rw [e2] at e1
  simp +decide only [mM_41.1, mM_41.2.1, mM_41.2.2.2, cR, cH, mm_syn ha, e1]
/-! slopes -/
def ss_new (f : Nat → Int32) : Nat → Int32 := mm_up (mm_up (mm_up (mm_up f 0 200) 1 100) 2 60) 3 50
def ss_copy (f g : Nat → Int32) : Nat → Int32 := mm_up (mm_up (mm_up (mm_up f 0 (g 0)) 1 (g 1)) 2 (g 2)) 3 (g 3)
theorem c15 {b : Nat} (hb : mm_is b 2) : mm_C (mm_entry 15 [.ref b] (hp sc I o t)) Q ↔ Q (.inl none) (hp sc (mm_up I b (ss_new (I b))) o t) := by
  simp +decide only [mM_15, cR, cH, hb, mm_up_s, mm_up_up]
  rfl
theorem c16 {b c : Nat} (hb : mm_is b 2) (hc : mm_is c 2) (hne : ¬ c = b) : mm_C (mm_entry 16 [.ref b, .ref c] (hp sc I o t)) Q ↔ Q (.inl none) (hp sc (mm_up I b (ss_copy (I b) (I c))) o t) := by
  have hne2 : ∀ (f : Nat → Int32), mm_up I b f c = I c := fun f => mm_up_n _ _ hne
  simp +decide only [mM_16, cR, cH, hb, hc, mm_up_s, mm_up_up, hne2]
  rfl
/-! new -/
def sy_mk (a : Nat) : Nat → (Nat → Nat → Int32) → (Nat → Nat → Int32)
  | 0, I => I
  | n + 1, I => sy_mk a n (mm_up I (a + (5 + (5 - n))) (sv_free (I (a + (5 + (5 - n))))))
def sy_zk (a : Nat) : Nat → (Nat → Nat → Int32) → (Nat → Nat → Int32)
  | 0, I => I
  | n + 1, I => sy_zk a n (mm_up (mm_up I (a + 3) (mm_up (I (a + 3)) (59 - n) 0)) (a + 4) (mm_up (I (a + 4)) (59 - n) 0))
def sr_new (f : Nat → Int32) : Nat → Int32 := mm_up (mm_up (mm_up (mm_up (mm_up (mm_up (mm_up (mm_up (mm_up f 4 0) 5 0) 6 0) 7 0) 8 0) 9 0) 10 0) 11 0) 12 0
theorem cb01 : mm_b01 0 ∧ mm_b01 1 := ⟨Or.inl rfl, Or.inr rfl⟩
theorem c18_k {a : Nat} (ha : mm_isS a) (n : Nat) : ∀ (hn : n ≤ 60) {I : Nat → Nat → Int32}, mm_C (18, mm_blk 18 3, [some (.ref a), some (.int (nI (60 - n)))], [], (hp sc I o t)) Q ↔ Q (.inl none) (hp sc (mm_up (sy_zk a n I) a (sr_new (sy_zk a n I a))) o t) := by
  induction n with
  | zero =>
    intro hn I
    rw [mM_18.2.2.2.2.1]
    simp +decide only [mM_18.1, mM_18.2.1, mM_18.2.2.1, mM_18.2.2.2.1, mM_18.2.2.2.2.2, cR, cH, mm_syn ha, Nat.sub_zero, cK60, sy_zk, cb01, mm_up_s, mm_up_up, ↓reduceIte]
    rfl
  | succ n ih =>
    intro hn I
    have hk : 59 - n < 60 := by omega
    have e1 : 60 - (n + 1) = 59 - n := by omega
    have e2 : 59 - n + 1 = 60 - n := by omega
    rw [mM_18.2.2.2.2.1, e1]
    simp +decide only [mM_18.1, mM_18.2.1, mM_18.2.2.1, mM_18.2.2.2.1, mM_18.2.2.2.2.2, cR, cH, mm_syn ha, cK hk, e2, ih (by omega), sy_zk, mm_neA, mm_up_n, not_false_eq_true, ↓reduceIte]
def sy_new2 (I : Nat → Nat → Int32) (a : Nat) : Nat → Nat → Int32 := mm_up (sy_zk a 60 (mm_up I (a + 2) (ss_new (I (a + 2))))) a (sr_new (sy_zk a 60 (mm_up I (a + 2) (ss_new (I (a + 2)))) a))
theorem c18_v {a : Nat} (ha : mm_isS a) (n : Nat) : ∀ (hn : n ≤ 6) {I : Nat → Nat → Int32}, mm_C (18, mm_blk 18 1, [some (.ref a), some (.int (nI (6 - n)))], [], (hp sc I o t)) Q ↔ Q (.inl none) (hp sc (sy_new2 (sy_mk a n I) a) o t) := by
  have e1 := fun (I : Nat → Nat → Int32) => c18_k (sc := sc) (o := o) (t := t) (Q := Q) ha 60 (by omega) (I := I)
  have e2 : nI (60 - 60) = 0 := rfl
  rw [e2] at e1
  induction n with
  | zero =>
    intro hn I
    rw [mM_18.2.2.1]
    simp +decide only [mM_18.1, mM_18.2.1, mM_18.2.2.2.1, mM_18.2.2.2.2.2, cR, cH, mm_syn ha, Nat.sub_zero, cV66, sy_mk, c15 (mm_syn ha).1.2.2.2.1, e1, sy_new2, ↓reduceIte]
  | succ n ih =>
    intro hn I
    have hk : 5 - n < 6 := by omega
    have e3 : 6 - (n + 1) = 5 - n := by omega
    have e4 : 5 - n + 1 = 6 - n := by omega
    rw [mM_18.2.2.1, e3]
    simp +decide only [mM_18.1, mM_18.2.1, mM_18.2.2.2.1, mM_18.2.2.2.2.2, cR, cH, mm_syn ha, mm_synV ha hk, cV hk, cV6 hk, e4, c46 (mm_synV ha hk).1, ih (by omega), sy_mk, ↓reduceIte]
def sy_new (I : Nat → Nat → Int32) (a : Nat) : Nat → Nat → Int32 := sy_new2 (sy_mk a 6 I) a
theorem c18 {a : Nat} (ha : mm_isS a) : mm_C (mm_entry 18 [.ref a] (hp sc I o t)) Q ↔ Q (.inl none) (hp sc (sy_new I a) o t) := by
  have e1 := fun (I : Nat → Nat → Int32) => c18_v (sc := sc) (o := o) (t := t) (Q := Q) ha 6 (by omega) (I := I)
  have e2 : nI (6 - 6) = 0 := rfl
  rw [e2] at e1
  simp +decide only [mM_18.1, mM_18.2.1, mM_18.2.2.2.1, mM_18.2.2.2.2.2, cR, cH, mm_syn ha, e1, sy_new]
/-! a copy -/
theorem mm_ap : ∀ x ∈ mm_synL, ∀ y ∈ mm_synL, x = y ∨ x + 11 ≤ y ∨ y + 11 ≤ x := by decide +kernel
theorem mm_neB {a b : Nat} (ha : mm_isS a) (hb : mm_isS b) (hne : ¬ a = b) {i j : Nat} (hi : i < 11) (hj : j < 11) : ¬ b + i = a + j := by
  rcases mm_ap a ha b hb with h | h | h
  · exact absurd h hne
  · omega
  · omega
theorem mm_neB2 {a b : Nat} (ha : mm_isS a) (hb : mm_isS b) (hne : ¬ a = b) : ((b + 3 = a + 3) = False) ∧ ((b + 4 = a + 3) = False) ∧ ((b + 4 = a + 4) = False) ∧ ((b + 2 = a + 2) = False) ∧ ((b = a) = False) ∧ ((a = b) = False) :=
  ⟨eq_false (mm_neB ha hb hne (i := 3) (j := 3) (by decide) (by decide)), eq_false (mm_neB ha hb hne (i := 4) (j := 3) (by decide) (by decide)), eq_false (mm_neB ha hb hne (i := 4) (j := 4) (by decide) (by decide)), eq_false (mm_neB ha hb hne (i := 2) (j := 2) (by decide) (by decide)), eq_false (fun h => hne h.symm), eq_false hne⟩
def sy_cv (a b : Nat) : Nat → (Nat → Nat → Int32) → (Nat → Nat → Int32)
  | 0, I => I
  | n + 1, I => sy_cv a b n (mm_up I (a + (5 + (5 - n))) (sv_copy (I (a + (5 + (5 - n)))) (I (b + (5 + (5 - n))))))
def sy_ck (a b : Nat) : Nat → (Nat → Nat → Int32) → (Nat → Nat → Int32)
  | 0, I => I
  | n + 1, I => sy_ck a b n (mm_up (mm_up I (a + 3) (mm_up (I (a + 3)) (59 - n) (I (b + 3) (59 - n)))) (a + 4) (mm_up (I (a + 4)) (59 - n) (I (b + 4) (59 - n))))
def sr_copy (f g : Nat → Int32) : Nat → Int32 := mm_up (mm_up (mm_up (mm_up (mm_up (mm_up (mm_up (mm_up (mm_up f 4 (g 4)) 5 (g 5)) 6 (g 6)) 7 (g 7)) 8 (g 8)) 9 (g 9)) 10 (g 10)) 11 (g 11)) 12 (g 12)
theorem sy_ck_o (a b : Nat) (n : Nat) : ∀ (I : Nat → Nat → Int32) (x : Nat), ¬ x = a + 3 → ¬ x = a + 4 → sy_ck a b n I x = I x := by
  induction n with
  | zero => intro I x h1 h2; rfl
  | succ n ih =>
    intro I x h1 h2
    rw [show sy_ck a b (n + 1) I = _ from rfl, sy_ck, ih _ x h1 h2, mm_up_n _ _ h2, mm_up_n _ _ h1]
theorem c19_k {a b : Nat} (ha : mm_isS a) (hb : mm_isS b) (hne : ¬ a = b) (n : Nat) : ∀ (hn : n ≤ 60) {I : Nat → Nat → Int32} (h5 : mm_b01 (I b 5)) (h6 : mm_b01 (I b 6)), mm_C (19, mm_blk 19 3, [some (.ref a), some (.ref b), some (.int (nI (60 - n)))], [], (hp sc I o t)) Q ↔ Q (.inl none) (hp sc (mm_up (sy_ck a b n I) a (sr_copy (sy_ck a b n I a) (I b))) o t) := by
  induction n with
  | zero =>
    intro hn I h5 h6
    rw [mM_19.2.2.2.2.1]
    simp +decide only [mM_19.1, mM_19.2.1, mM_19.2.2.1, mM_19.2.2.2.1, mM_19.2.2.2.2.2, cR, cH, mm_syn ha, mm_syn hb, Nat.sub_zero, cK60, sy_ck, mm_neB2 ha hb hne, mm_up_n, mm_up_s, mm_up_up, h5, h6, not_false_eq_true, ↓reduceIte]
    rfl
  | succ n ih =>
    intro hn I h5 h6
    have hk : 59 - n < 60 := by omega
    have e1 : 60 - (n + 1) = 59 - n := by omega
    have e2 : 59 - n + 1 = 60 - n := by omega
    have e3 : ∀ f g : Nat → Int32, mm_up (mm_up I (a + 3) f) (a + 4) g b = I b := fun f g => by
      rw [mm_up_n _ _ (show ¬ b = a + 4 from mm_neB ha hb hne (i := 0) (j := 4) (by decide) (by decide)), mm_up_n _ _ (show ¬ b = a + 3 from mm_neB ha hb hne (i := 0) (j := 3) (by decide) (by decide))]
    have ih2 := fun (f g : Nat → Int32) => ih (by omega) (I := mm_up (mm_up I (a + 3) f) (a + 4) g) (by rw [e3]; exact h5) (by rw [e3]; exact h6)
    rw [mM_19.2.2.2.2.1, e1]
    simp +decide only [mM_19.1, mM_19.2.1, mM_19.2.2.1, mM_19.2.2.2.1, mM_19.2.2.2.2.2, cR, cH, mm_syn ha, mm_syn hb, cK hk, e2, e3, ih2, sy_ck, mm_neA, mm_neB2 ha hb hne, mm_up_n, not_false_eq_true, ↓reduceIte]
def sy_copy2 (I : Nat → Nat → Int32) (a b : Nat) : Nat → Nat → Int32 := mm_up (sy_ck a b 60 (mm_up I (a + 2) (ss_copy (I (a + 2)) (I (b + 2))))) a (sr_copy (sy_ck a b 60 (mm_up I (a + 2) (ss_copy (I (a + 2)) (I (b + 2)))) a) (I b))
theorem c19_v {a b : Nat} (ha : mm_isS a) (hb : mm_isS b) (hne : ¬ a = b) (n : Nat) : ∀ (hn : n ≤ 6) {I : Nat → Nat → Int32} (h5 : mm_b01 (I b 5)) (h6 : mm_b01 (I b 6)), mm_C (19, mm_blk 19 1, [some (.ref a), some (.ref b), some (.int (nI (6 - n)))], [], (hp sc I o t)) Q ↔ Q (.inl none) (hp sc (sy_copy2 (sy_cv a b n I) a b) o t) := by
  have e2 : nI (60 - 60) = 0 := rfl
  induction n with
  | zero =>
    intro hn I h5 h6
    have e3 : ∀ f : Nat → Int32, mm_up I (a + 2) f b = I b := fun f => mm_up_n _ _ (show ¬ b = a + 2 from mm_neB ha hb hne (i := 0) (j := 2) (by decide) (by decide))
    have e1 := fun (f : Nat → Int32) => c19_k (sc := sc) (o := o) (t := t) (Q := Q) ha hb hne 60 (by omega) (I := mm_up I (a + 2) f) (by rw [e3]; exact h5) (by rw [e3]; exact h6)
    rw [e2] at e1
    rw [mM_19.2.2.1]
    simp +decide only [mM_19.1, mM_19.2.1, mM_19.2.2.2.1, mM_19.2.2.2.2.2, cR, cH, mm_syn ha, mm_syn hb, Nat.sub_zero, cV66, sy_cv, c16 (mm_syn ha).1.2.2.2.1 (mm_syn hb).1.2.2.2.1 (mm_neB ha hb hne (i := 2) (j := 2) (by decide) (by decide)), e1, e3, sy_copy2, ↓reduceIte]
  | succ n ih =>
    intro hn I h5 h6
    have hk : 5 - n < 6 := by omega
    have e3 : 6 - (n + 1) = 5 - n := by omega
    have e4 : 5 - n + 1 = 6 - n := by omega
    have e5 : ∀ f : Nat → Int32, mm_up I (a + (5 + (5 - n))) f b = I b := fun f => mm_up_n _ _ (show ¬ b = a + (5 + (5 - n)) from mm_neB ha hb hne (i := 0) (j := 5 + (5 - n)) (by decide) (by omega))
    have ih2 := fun (f : Nat → Int32) => ih (by omega) (I := mm_up I (a + (5 + (5 - n))) f) (by rw [e5]; exact h5) (by rw [e5]; exact h6)
    rw [mM_19.2.2.1, e3]
    simp +decide only [mM_19.1, mM_19.2.1, mM_19.2.2.2.1, mM_19.2.2.2.2.2, cR, cH, mm_syn ha, mm_syn hb, mm_synV ha hk, mm_synV hb hk, cV hk, cV6 hk, e4, c49 (mm_synV ha hk).1 (mm_synV hb hk).1 (mm_neB ha hb hne (i := 5 + (5 - n)) (j := 5 + (5 - n)) (by omega) (by omega)), ih2, sy_cv, ↓reduceIte]
def sy_copy (I : Nat → Nat → Int32) (a b : Nat) : Nat → Nat → Int32 := sy_copy2 (sy_cv a b 6 I) a b
theorem c19 {a b : Nat} (ha : mm_isS a) (hb : mm_isS b) (hne : ¬ a = b) (h5 : mm_b01 (I b 5)) (h6 : mm_b01 (I b 6)) : mm_C (mm_entry 19 [.ref a, .ref b] (hp sc I o t)) Q ↔ Q (.inl none) (hp sc (sy_copy I a b) o t) := by
  have e1 := c19_v (sc := sc) (o := o) (t := t) (Q := Q) ha hb hne 6 (by omega) (I := I) h5 h6
  have e2 : nI (6 - 6) = 0 := rfl
  rw [e2] at e1
  simp +decide only [mM_19.1, mM_19.2.1, mM_19.2.2.2.1, mM_19.2.2.2.2.2, cR, cH, e1, sy_copy]
end VR
