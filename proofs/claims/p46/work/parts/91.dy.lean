/-! letting go of all keys that have voices, and dying away, of rows alone -/
section KDY
variable {B E : Nat} {I : Nat → Nat → Int32} {r q : Nat → Int32}
def LG (r q : Nat → Int32) (k : Nat) : Prop :=
  q 151 = 0 ∧ q 156 = r 156 ∧ (∀ v, v < 6 → (0 < q (5 * v)) = (0 < r (5 * v)) ∧ q (5 * v + 1) = r (5 * v + 1) ∧ q (5 * v + 3) = r (5 * v + 3)) ∧ ∀ v k', v < 6 → k' < k → 0 < q (5 * v) → q (5 * v + 1) = nI k' → ¬ 0 < q (30 + 2 * k')
/-- how many sounding voices have a key below k -/
def nkv (r : Nat → Int32) (k : Nat) : Nat → Nat
  | 0 => 0
  | n + 1 => (if 0 < r (5 * (5 - n)) ∧ (r (5 * (5 - n) + 1)).toNatClampNeg < k then 1 else 0) + nkv r k n
theorem nkv_le (r : Nat → Int32) (k n : Nat) : nkv r k n ≤ n := by
  induction n with
  | zero => exact Nat.le_refl _
  | succ n ih => unfold nkv; split <;> omega
theorem nkv_mono (r : Nat → Int32) (k n : Nat) : nkv r k n ≤ nkv r (k + 1) n := by
  induction n with
  | zero => exact Nat.le_refl _
  | succ n ih =>
    unfold nkv
    by_cases c : 0 < r (5 * (5 - n)) ∧ (r (5 * (5 - n) + 1)).toNatClampNeg < k
    · rw [if_pos c, if_pos ⟨c.1, by have := c.2; omega⟩]; omega
    · rw [if_neg c]; omega
theorem nkv_inc {j k : Nat} (hj : j < 6) (hk : k < 60) (h0 : 0 < r (5 * j)) (h1 : r (5 * j + 1) = nI k) (n : Nat) : n ≤ 6 → 6 - n ≤ j → nkv r k n + 1 ≤ nkv r (k + 1) n := by
  induction n with
  | zero => intro _ h; omega
  | succ n ih =>
    intro hn h
    unfold nkv
    by_cases e : 5 - n = j
    · have hm := nkv_mono r k n
      have e2 : (r (5 * j + 1)).toNatClampNeg = k := by rw [h1, (cK hk).2.1]
      rw [e, if_neg (fun g => by have := g.2; omega), if_pos ⟨h0, by omega⟩]
      omega
    · have h9 := ih (by omega) (by omega)
      by_cases c : 0 < r (5 * (5 - n)) ∧ (r (5 * (5 - n) + 1)).toNatClampNeg < k
      · rw [if_pos c, if_pos ⟨c.1, by have := c.2; omega⟩]; omega
      · rw [if_neg c]; omega
theorem LG_0 (r : Nat → Int32) : LG r (mm_up r 151 0) 0 := by
  have e0 : ∀ x, ¬ x = 151 → mm_up r 151 0 x = r x := fun x hx => mm_up_n _ _ hx
  exact ⟨mm_up_s _ _ _, e0 _ (by omega), fun v hv => ⟨by rw [e0 _ (by omega)], e0 _ (by omega), e0 _ (by omega)⟩, fun v k' _ h => absurd h (Nat.not_lt_zero k')⟩
theorem LG_no {k : Nat} (h : LG r q k) (hn : ¬ (0 < q (30 + 2 * k) ∧ ¬ mo_voice q (nI k) = -1)) : LG r q (k + 1) := by
  obtain ⟨h1, h2, h3, h4⟩ := h
  refine ⟨h1, h2, h3, fun v k' hv hk g1 g2 => ?_⟩
  by_cases e : k' = k
  · subst e
    intro g3
    refine hn ⟨g3, fun g4 => mo_voice_none g4 hv g1 g2⟩
  · exact h4 v k' hv (by omega) g1 g2
theorem lift_at (q : Nat → Int32) {k : Nat} (hk : k < 60) : mo_lift q k (30 + 2 * k) = 0 ∧ (∀ x, ¬ x = 30 + 2 * k → (∀ v, v < 6 → ¬ x = 5 * v) → mo_lift q k x = q x) ∧ ∀ v, v < 6 → (0 < mo_lift q k (5 * v)) = (0 < q (5 * v)) := by
  unfold mo_lift
  rcases mo_voice_c q (nI k) with e | ⟨j, hj, e, f1, f2⟩
  · rw [if_neg (fun g => g.1 e)]
    exact ⟨mm_up_s _ _ _, fun x h1 _ => mm_up_n _ _ h1, fun v hv => by rw [mm_up_n _ _ (by omega)]⟩
  · by_cases c : ¬ mo_voice q (nI k) = -1 ∧ q 150 = 0
    · rw [if_pos c, e, (cV hj).2.1]
      refine ⟨by rw [mm_up_n _ _ (by omega), mm_up_s], fun x h1 h2 => by rw [mm_up_n _ _ (h2 j hj), mm_up_n _ _ h1], fun v hv => ?_⟩
      by_cases ev : v = j
      · subst ev
        rw [mm_up_s]
        exact propext ⟨fun _ => f1, fun _ => i1.2.2.1⟩
      · rw [mm_up_n _ _ (by omega), mm_up_n _ _ (by omega)]
    · rw [if_neg c]
      exact ⟨mm_up_s _ _ _, fun x h1 _ => mm_up_n _ _ h1, fun v hv => by rw [mm_up_n _ _ (by omega)]⟩
theorem LG_yes {k : Nat} (hk : k < 60) (h : LG r q k) : LG r (mo_lift q k) (k + 1) := by
  obtain ⟨h1, h2, h3, h4⟩ := h
  obtain ⟨p1, p2, p3⟩ := lift_at q hk
  have e0 : ∀ x, 30 ≤ x → ¬ x = 30 + 2 * k → mo_lift q k x = q x := fun x x1 x2 => p2 x x2 (fun v hv => by omega)
  have e1 : ∀ v i, v < 6 → i < 4 → mo_lift q k (5 * v + (i + 1)) = q (5 * v + (i + 1)) := fun v i hv hi => p2 _ (by omega) (fun u hu => by omega)
  refine ⟨by rw [e0 _ (by omega) (by omega)]; exact h1, by rw [e0 _ (by omega) (by omega)]; exact h2, fun v hv => ⟨by rw [p3 v hv]; exact (h3 v hv).1, by rw [e1 v 0 hv (by omega)]; exact (h3 v hv).2.1, by rw [e1 v 2 hv (by omega)]; exact (h3 v hv).2.2⟩, fun v k' hv hk' g1 g2 => ?_⟩
  by_cases e : k' = k
  · subst e
    rw [p1]
    exact i1.2.2.2
  · rw [e0 _ (by omega) (by omega)]
    rw [p3 v hv] at g1
    rw [e1 v 0 hv (by omega)] at g2
    exact h4 v k' hv (by omega) g1 g2
/-- all that sounds dies -/
def DYr (r q : Nat → Int32) : Prop := q 151 = 0 ∧ q 156 = r 156 ∧ ∀ v, v < 6 → (0 < q (5 * v)) = (0 < r (5 * v)) ∧ (0 < q (5 * v) → q (5 * v) = 4) ∧ q (5 * v + 3) = r (5 * v + 3)
theorem LG_use {k : Nat} (h : LG r q k) : mo_use q = mo_use r := sy_fold_congr 6 (by omega) (fun v hv c => by simp only [(h.2.2.1 v hv).1]) _
theorem DYr_use (h : DYr r q) : mo_use q = mo_use r := sy_fold_congr 6 (by omega) (fun v hv c => by simp only [(h.2.2 v hv).1]) _
theorem DY_none {k : Nat} (h : LG r q k) (hu : mo_use r = 0) : DYr r q := by
  have h0 := (use_0 r).mp hu
  refine ⟨h.1, h.2.1, fun v hv => ⟨(h.2.2.1 v hv).1, fun g => absurd ((h.2.2.1 v hv).1 ▸ g) (h0 v hv), (h.2.2.1 v hv).2.2⟩⟩
theorem DY_pedal (h : LG r q 60) (hi : mo_inv q) : DYr r (mo_pedal q 0).2 := by
  obtain ⟨h1, h2, h3, h4⟩ := h
  obtain ⟨p1, p2, p3⟩ := pedal_at hi
  have e0 : ∀ x, 30 ≤ x → ¬ x = 150 → (mo_pedal q 0).2 x = q x := fun x x1 x2 => p2 x (fun v hv => by omega) x2
  have e5 : ∀ v, v < 6 → (0 < (mo_pedal q 0).2 (5 * v)) = (0 < q (5 * v)) := fun v hv => by
    rw [p1 v hv]
    by_cases c : mo_held q v = true
    · rw [if_pos c]
      exact propext ⟨fun _ => mo_pos hi hv (held_pos hi hv c), fun _ => i1.2.2.1⟩
    · rw [if_neg c]
  refine ⟨by rw [e0 _ (by omega) (by omega)]; exact h1, by rw [e0 _ (by omega) (by omega)]; exact h2, fun v hv => ⟨by rw [e5 v hv]; exact (h3 v hv).1, fun g => ?_, by rw [p2 _ (fun u hu => by omega) (by omega)]; exact (h3 v hv).2.2⟩⟩
  rw [e5 v hv] at g
  rw [p1 v hv]
  by_cases c : mo_held q v = true
  · rw [if_pos c]
  · rw [if_neg c]
    have h0 : ¬ q (5 * v) = 0 := fun e => by rw [e] at g; exact absurd g i1.2.2.2
    obtain ⟨k, hk, ek⟩ := mo_inv_key hi hv h0
    have hu := h4 v k hv hk g ek
    refine Classical.byContradiction fun n4 => c ((held_iff hi hv hk ek).mpr ⟨?_, hu⟩)
    rcases mo_inv_ph5 hi hv with z | z | z | z | z
    · exact absurd z h0
    · exact Or.inl z
    · exact Or.inr (Or.inl z)
    · exact Or.inr (Or.inr z)
    · exact absurd z n4
theorem nn_0 (hi : mo_inv r) {v : Nat} (hv : v < 6) : (r (5 * v) = 0) = ¬ 0 < r (5 * v) := (mo_inv_nn hi hv).1
theorem DY_quiet (h : DYr r q) (hi : mo_inv r) (hq : mo_inv q) : mo_quiet q = mo_quiet r := sy_fold_congr 6 (by omega) (fun v hv c => by
  have e : mo_dies q v = mo_dies r v := by
    obtain ⟨-, h2, h3⟩ := h
    obtain ⟨g1, -, g3⟩ := h3 v hv
    have e0 : (q (5 * v) = 0) = (r (5 * v) = 0) := by rw [nn_0 hi hv, nn_0 hq hv, g1]
    unfold mo_dies
    rw [h2, g3]
    simp only [e0]
  rw [e]) _
/-! ticks of dying voices -/
def DN (n d : Nat) (q : Nat → Int32) (v : Nat) : Prop := q (5 * v) = 0 ∨ q (5 * v) = 4 ∧ ∃ l, l ≤ 1000 ∧ q (5 * v + 3) = nI l ∧ die_n l d ≤ n
theorem nI_sub {a b : Nat} (h : b ≤ a) : nI a - nI b = nI (a - b) := by
  have : nI a = nI (a - b) + nI b := by
    rw [nI_add]
    congr 1
    omega
  rw [this, Int32.add_sub_cancel]
theorem die_step {l d : Nat} (h0 : 1 ≤ d) (h1 : d < l) : die_n (l - d) d + 1 = die_n l d := by
  unfold die_n
  rw [if_neg (by omega), if_neg (by omega), show l - d + d - 1 = l - 1 by omega, show l + d - 1 = (l - 1) + d by omega, Nat.add_div_right _ (by omega)]
theorem DN_sound {n d v : Nat} (hv : v < 6) (h0 : 1 ≤ d) (hd2 : d ≤ 1000) (h : DN (n + 1) d q v) (hd : q 156 = nI d) : DN n d (mo_sound q v) v ∧ (∀ u, u < 6 → ¬ u = v → ∀ i, i < 5 → mo_sound q v (5 * u + i) = q (5 * u + i)) := by
  have n41 : ¬ (4 : Int32) = 1 := by decide
  have n42 : ¬ (4 : Int32) = 2 := by decide
  have n01 : ¬ (0 : Int32) = 1 := by decide
  have n02 : ¬ (0 : Int32) = 2 := by decide
  have n04 : ¬ (0 : Int32) = 4 := by decide
  unfold mo_sound
  rcases h with h | ⟨h, l, hl, el, hn⟩
  · rw [h, if_neg n01, if_neg n02, if_neg n04]
    exact ⟨Or.inl h, fun _ _ _ _ _ => rfl⟩
  · rw [h, if_neg n41, if_neg n42, if_pos rfl, hd, el]
    by_cases c : nI d < nI l
    · rw [if_pos c]
      have hdl := (nI_ltI (by omega) (by omega)).mp c
      refine ⟨Or.inr ⟨by rw [mm_up_n _ _ (by omega)]; exact h, l - d, by omega, by rw [mm_up_s, nI_sub (by omega)], by have := die_step h0 hdl; omega⟩, fun u hu hne i hi => mm_up_n _ _ (by omega)⟩
    · rw [if_neg c]
      refine ⟨Or.inl ?_, fun u hu hne i hi => ?_⟩
      · rw [mm_up_n _ _ (by omega), mm_up_n _ _ (by omega), mm_up_n _ _ (by omega), mm_up_s]
      · rw [mm_up_n _ _ (by omega), mm_up_n _ _ (by omega), mm_up_n _ _ (by omega), mm_up_n _ _ (by omega), mm_up_n _ _ (by omega)]
theorem DN_ext {n d v : Nat} {p : Nat → Int32} (h : DN n d q v) (e0 : p (5 * v) = q (5 * v)) (e3 : p (5 * v + 3) = q (5 * v + 3)) : DN n d p v := by
  unfold DN at h ⊢
  rw [e0, e3]
  exact h
theorem DN_tk {n d : Nat} (h0 : 1 ≤ d) (hd2 : d ≤ 1000) (m : Nat) : m ≤ 6 → ∀ (q : Nat → Int32) (c : Int32), q 156 = nI d → (∀ v, v < 6 → (v < 6 - m → DN n d q v) ∧ (6 - m ≤ v → DN (n + 1) d q v)) → ∀ v, v < 6 → DN n d (mo_tk m q c).2 v := by
  induction m with
  | zero => intro _ q c _ h v hv; exact (h v hv).1 (by omega)
  | succ m ih =>
    intro hm q c hd h
    have h5 : 5 - m < 6 := by omega
    unfold mo_tk
    obtain ⟨s1, s2⟩ := DN_sound h5 h0 hd2 ((h _ h5).2 (by omega)) hd
    refine ih (by omega) _ _ (by rw [sound_far _ h5 (by omega) (by omega)]; exact hd) fun v hv => ⟨fun hv1 => ?_, fun hv1 => ?_⟩
    · by_cases e : v = 5 - m
      · subst e; exact s1
      · exact DN_ext ((h v hv).1 (by omega)) (s2 v hv e 0 (by omega)) (s2 v hv e 3 (by omega))
    · exact DN_ext ((h v hv).2 (by omega)) (s2 v hv (by omega) 0 (by omega)) (s2 v hv (by omega) 3 (by omega))
theorem br_off (n : Nat) (q : Nat → Int32) (h : q 151 = 0) : mo_br n q = q := by
  cases n with
  | zero => rfl
  | succ n =>
    unfold mo_br
    rw [if_neg (fun g => by rw [h] at g; exact absurd g.1 (by decide))]
theorem tick_off (q : Nat → Int32) (h : q 151 = 0) : (∀ x, ¬ x = 162 → (mo_tick q).2 x = (mo_tk 6 q 0).2 x) ∧ (mo_tick q).2 151 = 0 ∧ ∀ x, 30 ≤ x → ¬ x = 159 → ¬ x = 162 → (mo_tick q).2 x = q x := by
  have e1 : (mo_tk 6 q 0).2 151 = 0 := by rw [tk_far 6 (by omega) q 0 (by omega) (by omega)]; exact h
  have e2 : ∀ x, ¬ x = 162 → (mo_tick q).2 x = (mo_tk 6 q 0).2 x := fun x hx => by
    show mm_up (mo_br 6 (mo_tk 6 q 0).2) 162 (mo_br 6 (mo_tk 6 q 0).2 162 + 1) x = _
    rw [mm_up_n _ _ hx, br_off 6 _ e1]
  exact ⟨e2, by rw [e2 _ (by omega)]; exact e1, fun x x1 x2 x3 => by rw [e2 x x3, tk_far 6 (by omega) q 0 x1 x2]⟩
theorem DN_rn {d : Nat} (h0 : 1 ≤ d) (hd2 : d ≤ 1000) (n : Nat) : ∀ (q : Nat → Int32) (c : Int32), q 151 = 0 → q 156 = nI d → (∀ v, v < 6 → DN n d q v) → (∀ v, v < 6 → DN 0 d (mo_rn n q c).2 v) ∧ ∀ x, 30 ≤ x → ¬ x = 159 → ¬ x = 162 → (mo_rn n q c).2 x = q x := by
  induction n with
  | zero => intro q c _ _ h; exact ⟨h, fun _ _ _ _ => rfl⟩
  | succ n ih =>
    intro q c h1 h2 h3
    obtain ⟨t1, t2, t3⟩ := tick_off q h1
    unfold mo_rn
    have hd : (mo_tick q).2 156 = nI d := by rw [t3 _ (by omega) (by omega) (by omega)]; exact h2
    obtain ⟨i1, i2⟩ := ih (mo_tick q).2 (c + (mo_tick q).1) t2 hd fun v hv => DN_ext (DN_tk h0 hd2 6 (by omega) q 0 h2 (fun v hv => ⟨fun g => by omega, fun _ => h3 v hv⟩) v hv) (t1 _ (by omega)) (t1 _ (by omega))
    exact ⟨i1, fun x x1 x2 x3 => by rw [i2 x x1 x2 x3, t3 x x1 x2 x3]⟩
theorem i32_canc {a b c : Int32} (h : a + c = b + c) : a = b := by
  have := congrArg (fun x => x - c) h
  simpa only [Int32.add_sub_cancel] using this
/-- all quiet when it is said -/
theorem all_die {n : Nat} (h : SX 0 0 B I 3 q) (hK : KV E q) (hD : DYr r q) (hn : mo_quiet q = nI n) (hn9 : n ≤ 2000) :
    (∀ v, v < 6 → (mo_rn n q 0).2 (5 * v) = 0) ∧ mo_use (mo_rn n q 0).2 = 0 ∧ (mo_rn n q 0).1 = mo_use q := by
  obtain ⟨-, -, -, -, -, -, -, -, ⟨e156, d, d1, d2, e9⟩⟩ := h.2.2
  have h156 : q 156 = nI d := by rw [← e156]; exact e9
  obtain ⟨m, m1, m2, -, m4⟩ := quiet_c h
  have hnm : n = m := (nI_eq (by omega) (by omega)).mp (hn.symm.trans m2)
  subst hnm
  have hall : ∀ v, v < 6 → DN n d q v := fun v hv => by
    obtain ⟨-, g⟩ := R_dies h hv
    obtain ⟨dv, v1, v2⟩ := m4 v hv
    rcases g with ⟨g, -⟩ | ⟨g, l, d', l1, d1', d2', el, ed, em⟩
    · exact Or.inl (by rw [(h.1 v hv).1]; exact g)
    · have hp : 0 < q (5 * v) := by rw [VR_pos (h.1 v hv)]; exact g
      have hdd : d' = d := (nI_eq (by omega) (by omega)).mp (ed.symm.trans (e156.trans h156))
      subst hdd
      obtain ⟨n1, n2, -⟩ := die_n_c l1 d2' d1'
      have : die_n l d' = dv := (nI_eq (by omega) (by omega)).mp (em.symm.trans v2)
      exact Or.inr ⟨(hD.2.2 v hv).2.1 hp, l, l1, by rw [(h.1 v hv).2.2.1]; exact el, by omega⟩
  obtain ⟨z1, z2⟩ := DN_rn d1 d2 n q 0 hD.1 h156 hall
  have z3 : ∀ v, v < 6 → (mo_rn n q 0).2 (5 * v) = 0 := fun v hv => by
    rcases z1 v hv with g | ⟨-, l, l1, -, l3⟩
    · exact g
    · have := (die_n_c l1 d2 d1).2.1
      omega
  have z4 : mo_use (mo_rn n q 0).2 = 0 := (use_0 _).mpr fun v hv => by rw [z3 v hv]; exact i1.2.2.2
  refine ⟨z3, z4, ?_⟩
  have k1 := KV_notes hK
  have k2 := KV_notes (KV_rn n q 0 hK)
  have k3 := mo_rn_159 n q 0
  rw [z4, z2 158 (by omega) (by omega) (by omega), z2 160 (by omega) (by omega) (by omega), Int32.add_zero] at k2
  rw [Int32.zero_add] at k3
  have k4 : (mo_rn n q 0).1 + (q 159 + q 160) = mo_use q + (q 159 + q 160) := by
    rw [← Int32.add_assoc, k3, ← k2, k1]
    exact Int32.add_comm _ _
  exact i32_canc k4
theorem loud_0 (h : SX 0 0 B I 3 q) (hz : ∀ v, v < 6 → q (5 * v) = 0) : mo_loud q = 0 := by
  have e : mo_loud q = sy_fold (fun _ c => c) 6 0 := sy_fold_congr 6 (by omega) (fun v hv c => by
    have h3 : q (5 * v + 3) = 0 := by
      obtain ⟨g1, -, g3, g | ⟨g, -⟩⟩ := h.1 v hv
      · rw [g3]; exact g.2.2
      · rw [← g1, hz v hv] at g
        rcases g with g | g | g | g <;> exact absurd g (by decide)
    rw [h3, Int32.add_zero]) _
  rw [e]
  rfl
/-- the pedal's answer, the waiting keys -/
theorem pd_ans (n : Nat) : ∀ (r : Nat → Int32) (c : Int32), ∃ m, m ≤ n ∧ (mo_pd n r c).1 = c + nI m := by
  induction n with
  | zero => intro r c; exact ⟨0, Nat.le_refl _, (Int32.add_zero c).symm⟩
  | succ n ih =>
    intro r c
    unfold mo_pd
    split
    · obtain ⟨m, hm, e⟩ := ih (mm_up r (5 * (5 - n)) 4) (c + 1)
      exact ⟨m + 1, by omega, by rw [e, Int32.add_assoc, show (1 : Int32) = nI 1 from rfl, nI_add, Nat.add_comm]⟩
    · obtain ⟨m, hm, e⟩ := ih r c
      exact ⟨m, by omega, e⟩
theorem pedal_ans (r : Nat → Int32) : ¬ (mo_pedal r 0).1 < 0 := by
  obtain ⟨m, hm, e⟩ := pd_ans 6 r 0
  have : (mo_pedal r 0).1 = nI m := by
    unfold mo_pedal
    rw [if_pos rfl]
    show (mo_pd 6 r 0).1 = nI m
    rw [e, Int32.zero_add]
  rw [this]
  exact nI_pos (by omega)
theorem wait_ans (r : Nat → Int32) : ¬ mo_nwait r < 0 := by
  have h1 := nkey_le (fun k => decide (0 < r (30 + 2 * k) ∧ mo_voice r (nI k) = -1)) 60
  have h2 : mo_nwait r = nI (nkey (fun k => decide (0 < r (30 + 2 * k) ∧ mo_voice r (nI k) = -1)) 60) := by
    have := nwait_n r 60 0
    rw [Nat.zero_add] at this
    exact this
  rw [h2]
  exact nI_pos (by omega)
end KDY
