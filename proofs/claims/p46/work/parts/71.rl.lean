/-! the prey; how long a voice takes to die -/
section XC
variable {dt dp : Int32} {B : Nat} {I : Nat → Nat → Int32} {a : Nat} {r : Nat → Int32}
/-- the least of the voices by an order, from the (6 - n)th on -/
def mnv (lt : Nat → Nat → Bool) : Nat → Nat → Nat
  | 0, b => b
  | n + 1, b => if lt (5 - n) b = true then mnv lt n (5 - n) else mnv lt n b
theorem mnv_spec {lt : Nat → Nat → Bool} (irr : ∀ x, lt x x = false) (tr : ∀ x y z, lt x y = true → lt y z = true → lt x z = true) (ng : ∀ x y z, lt x z = true → lt x y = true ∨ lt y z = true) (n : Nat) (hn : n ≤ 6) : ∀ b, (mnv lt n b = b ∨ 6 - n ≤ mnv lt n b ∧ mnv lt n b < 6 ∧ lt (mnv lt n b) b = true ∧ ∀ u, 6 - n ≤ u → u < mnv lt n b → lt (mnv lt n b) u = true) ∧ lt b (mnv lt n b) = false ∧ ∀ u, 6 - n ≤ u → u < 6 → lt u (mnv lt n b) = false := by
  induction n with
  | zero =>
    intro b
    exact ⟨Or.inl rfl, irr b, fun u h1 h2 => by omega⟩
  | succ n ih =>
    intro b
    unfold mnv
    by_cases h : lt (5 - n) b = true
    · rw [if_pos h]
      obtain ⟨h1, h2, h3⟩ := ih (by omega) (5 - n)
      have hb : lt b (mnv lt n (5 - n)) = false := by
        cases hx : lt b (mnv lt n (5 - n)) with
        | false => rfl
        | true =>
          have := tr _ _ _ h hx
          rw [h2] at this
          cases this
      refine ⟨Or.inr ?_, hb, fun u g1 g2 => ?_⟩
      · rcases h1 with e | ⟨e1, e2, e3, e4⟩
        · rw [e]
          exact ⟨by omega, by omega, h, fun u g1 g2 => by omega⟩
        · refine ⟨by omega, e2, tr _ _ _ e3 h, fun u g1 g2 => ?_⟩
          by_cases eu : u = 5 - n
          · rw [eu]; exact e3
          · exact e4 u (by omega) g2
      · by_cases eu : u = 5 - n
        · rw [eu]; exact h2
        · exact h3 u (by omega) g2
    · rw [if_neg h]
      obtain ⟨h1, h2, h3⟩ := ih (by omega) b
      have h5 : lt (5 - n) (mnv lt n b) = false := by
        cases hx : lt (5 - n) (mnv lt n b) with
        | false => rfl
        | true =>
          exfalso
          rcases h1 with e | ⟨-, -, e3, -⟩
          · rw [e] at hx; exact h hx
          · exact h (tr _ _ _ hx e3)
      refine ⟨?_, h2, fun u g1 g2 => ?_⟩
      · rcases h1 with e | ⟨e1, e2, e3, e4⟩
        · exact Or.inl e
        · refine Or.inr ⟨by omega, e2, e3, fun u g1 g2 => ?_⟩
          by_cases eu : u = 5 - n
          · rw [eu]
            rcases ng _ (5 - n) _ e3 with g | g
            · exact g
            · exact absurd g h
          · exact e4 u (by omega) g2
      · by_cases eu : u = 5 - n
        · rw [eu]; exact h5
        · exact h3 u (by omega) g2
/-- from the first, and from one that no earlier one equals -/
theorem mnv_eq {lt : Nat → Nat → Bool} (irr : ∀ x, lt x x = false) (tr : ∀ x y z, lt x y = true → lt y z = true → lt x z = true) (ng : ∀ x y z, lt x z = true → lt x y = true ∨ lt y z = true) {j : Nat} (hj : j < 6) (hf : ∀ u, u < j → lt u j = true ∨ lt j u = true) : mnv lt 5 0 = mnv lt 6 j := by
  show _ = if lt (5 - 5) j = true then mnv lt 5 (5 - 5) else mnv lt 5 j
  by_cases h : lt (5 - 5) j = true
  · rw [if_pos h]
  rw [if_neg h]
  have h : ¬ lt 0 j = true := h
  obtain ⟨a1, a2, a3⟩ := mnv_spec irr tr ng 5 (by omega) 0
  obtain ⟨b1, b2, b3⟩ := mnv_spec irr tr ng 5 (by omega) j
  revert a1 a2 a3 b1 b2 b3
  generalize mnv lt 5 0 = c
  generalize mnv lt 5 j = d
  intro a1 a2 a3 b1 b2 b3
  have c6 : c < 6 := by rcases a1 with e | e <;> omega
  have d6 : d < 6 := by rcases b1 with e | e <;> omega
  have ac : ∀ u, u < 6 → lt u c = false := fun u hu => by
    by_cases e : u = 0
    · rw [e]; exact a2
    · exact a3 u (by omega) hu
  have h0d : lt 0 d = false := by
    cases hx : lt 0 d with
    | false => rfl
    | true =>
      exfalso
      rcases b1 with e | ⟨-, -, e, -⟩
      · rw [e] at hx; exact h hx
      · exact h (tr _ _ _ hx e)
  have bd : ∀ u, u < 6 → lt u d = false := fun u hu => by
    by_cases e : u = 0
    · rw [e]; exact h0d
    · exact b3 u (by omega) hu
  have fc : ∀ u, u < c → lt c u = true := fun u hu => by
    rcases a1 with e | ⟨-, -, e2, e3⟩
    · omega
    · by_cases e : u = 0
      · rw [e]; exact e2
      · exact e3 u (by omega) hu
  have fd : ∀ u, u < d → lt d u = true := fun u hu => by
    rcases b1 with e | ⟨-, -, e2, e3⟩
    · rw [e] at hu ⊢
      rcases hf u hu with g | g
      · have := bd u (by omega)
        rw [e] at this
        rw [this] at g
        cases g
      · exact g
    · by_cases e : u = 0
      · rw [e]
        rcases ng _ 0 _ e2 with g | g
        · exact g
        · exact absurd g h
      · exact e3 u (by omega) hu
  rcases Nat.lt_trichotomy c d with g | g | g
  · have := fd c g
    rw [ac d d6] at this
    cases this
  · exact g
  · have := fc d g
    rw [bd c c6] at this
    cases this
def qlt (l w : Nat → Int32) (x y : Nat) : Bool := decide (l x < l y ∨ l x = l y ∧ w x < w y)
theorem i32_sub {x y : Int32} (h1 : -1000000 ≤ x.toInt) (h2 : x.toInt ≤ 1000000) (h3 : -1000000 ≤ y.toInt) (h4 : y.toInt ≤ 1000000) : (x - y).toInt = x.toInt - y.toInt := by
  rw [Int32.toInt_sub]
  exact Int.bmod_eq_of_le (by omega) (by omega)
theorem qlt_c {l w : Nat → Int32} {x y : Nat} (hx : ∃ n, n ≤ 1000 ∧ l x = nI n) (hy : ∃ n, n ≤ 1000 ∧ l y = nI n) : (l x - l y < 0 ∨ l x - l y = 0 ∧ w x < w y ↔ qlt l w x y = true) ∧ (0 < l y - l x ∨ l y - l x = 0 ∧ w x < w y ↔ qlt l w x y = true) := by
  obtain ⟨n, hn, e1⟩ := hx
  obtain ⟨m, hm, e2⟩ := hy
  have t1 : (l x).toInt = n := by rw [e1, nI_toInt (by omega)]
  have t2 : (l y).toInt = m := by rw [e2, nI_toInt (by omega)]
  have s1 := i32_sub (x := l x) (y := l y) (by omega) (by omega) (by omega) (by omega)
  have s2 := i32_sub (x := l y) (y := l x) (by omega) (by omega) (by omega) (by omega)
  have z : (0 : Int32).toInt = 0 := by decide
  unfold qlt
  rw [decide_eq_true_iff]
  simp only [Int32.lt_iff_toInt_lt, ← Int32.toInt_inj, s1, s2, z, t1, t2]
  constructor <;> (constructor <;> (intro h; rcases h with h | h <;> first | (left; omega) | (right; exact ⟨by omega, h.2⟩)))
theorem qlt_irr (l w : Nat → Int32) (x : Nat) : qlt l w x x = false := by
  unfold qlt
  rw [decide_eq_false_iff_not]
  simp only [Int32.lt_iff_toInt_lt]
  omega
theorem qlt_tr (l w : Nat → Int32) (x y z : Nat) (h1 : qlt l w x y = true) (h2 : qlt l w y z = true) : qlt l w x z = true := by
  unfold qlt at *
  rw [decide_eq_true_iff] at *
  simp only [Int32.lt_iff_toInt_lt, ← Int32.toInt_inj] at *
  omega
theorem qlt_ng (l w : Nat → Int32) (x y z : Nat) (h : qlt l w x z = true) : qlt l w x y = true ∨ qlt l w y z = true := by
  unfold qlt at *
  simp only [decide_eq_true_iff] at *
  simp only [Int32.lt_iff_toInt_lt, ← Int32.toInt_inj] at *
  omega
theorem quiet_mn {l w : Nat → Int32} (hl : ∀ v, v < 6 → ∃ n, n ≤ 1000 ∧ l v = nI n) (n : Nat) (hn : n ≤ 6) : ∀ b, b < 6 → sy_quiet l w n b = mnv (qlt l w) n b := by
  induction n with
  | zero => intro b _; rfl
  | succ n ih =>
    intro b hb
    unfold sy_quiet mnv
    have h := (qlt_c (w := w) (hl (5 - n) (by omega)) (hl b hb)).1
    by_cases h1 : qlt l w (5 - n) b = true
    · rw [if_pos h1, if_pos (h.mpr h1)]
      exact ih (by omega) _ (by omega)
    · rw [if_neg h1, if_neg (fun g => h1 (h.mp g))]
      exact ih (by omega) _ hb
theorem preyL_mn {l w : Nat → Int32} (hl : ∀ v, v < 6 → ∃ n, n ≤ 1000 ∧ l v = nI n) (el : ∀ v, v < 6 → r (5 * v + 3) = l v) (ew : ∀ v, v < 6 → r (5 * v + 4) = w v) (n : Nat) (hn : n ≤ 6) : ∀ b, b < 6 → mo_preyL r n b = mnv (qlt l w) n b := by
  induction n with
  | zero => intro b _; rfl
  | succ n ih =>
    intro b hb
    unfold mo_preyL mnv
    rw [el b hb, el (5 - n) (by omega), ew b hb, ew (5 - n) (by omega)]
    have h := (qlt_c (w := w) (hl (5 - n) (by omega)) (hl b hb)).2
    by_cases h1 : qlt l w (5 - n) b = true
    · rw [if_pos h1, if_pos (h.mpr h1)]
      exact ih (by omega) _ (by omega)
    · rw [if_neg h1, if_neg (fun g => h1 (h.mp g))]
      exact ih (by omega) _ hb
/-- the oldest is the first of those that began first -/
theorem old_first (hr : ∀ v, v < 6 → ¬ r (5 * v) < 1) (n : Nat) (hn : n ≤ 6) : ∀ b : Int32, (b = -1 ∧ n = 6 ∨ ∃ j, j < 6 - n ∧ b = nI j ∧ (∀ u, u < j → r (5 * j + 4) < r (5 * u + 4)) ∧ ∀ u, u < 6 - n → ¬ r (5 * u + 4) < r (5 * j + 4)) → ∃ j, j < 6 ∧ mo_old r 1 n b = nI j ∧ ∀ u, u < j → r (5 * j + 4) < r (5 * u + 4) := by
  induction n with
  | zero =>
    intro b h
    rcases h with ⟨-, h⟩ | ⟨j, hj, e, h1, -⟩
    · omega
    · exact ⟨j, by omega, e, h1⟩
  | succ n ih =>
    intro b h
    unfold mo_old
    rcases h with ⟨rfl, h⟩ | ⟨j, hj, rfl, h1, h2⟩
    · rw [if_pos ⟨hr _ (by omega), Or.inl rfl⟩]
      refine ih (by omega) _ (Or.inr ⟨5 - n, by omega, rfl, fun u hu => by omega, fun u hu => ?_⟩)
      have : u = 5 - n := by omega
      rw [this, Int32.lt_iff_toInt_lt]
      omega
    · rw [(cV (show j < 6 by omega)).2.1]
      by_cases h4 : r (5 * (5 - n) + 4) < r (5 * j + 4)
      · rw [if_pos ⟨hr _ (by omega), Or.inr h4⟩]
        have hu4 : ∀ u, u < 5 - n → r (5 * (5 - n) + 4) < r (5 * u + 4) := fun u hu => by
          have g := h2 u (by omega)
          rw [Int32.lt_iff_toInt_lt] at h4 g ⊢
          omega
        refine ih (by omega) _ (Or.inr ⟨5 - n, by omega, rfl, hu4, fun u hu => ?_⟩)
        by_cases e : u = 5 - n
        · rw [e, Int32.lt_iff_toInt_lt]; omega
        · have g := hu4 u (by omega)
          rw [Int32.lt_iff_toInt_lt] at g ⊢
          omega
      · have e : ¬ nI j = -1 := neN (by omega)
        rw [if_neg (fun h => h.2.elim e h4)]
        refine ih (by omega) _ (Or.inr ⟨j, by omega, rfl, h1, fun u hu => ?_⟩)
        by_cases e : u = 5 - n
        · rw [e]; exact h4
        · exact h2 u (by omega)
theorem VR_lvl {f r : Nat → Int32} {v : Nat} (h : VR f r v) : ∃ l, l ≤ 1000 ∧ f 3 = nI l := by
  obtain ⟨-, -, -, h | ⟨-, -, -, -, -, h⟩⟩ := h
  · exact ⟨0, by omega, by rw [h.2.2]; rfl⟩
  · exact h
theorem R_quiet (h : SX dt dp B I a r) (hf : mo_free r = -1) : nI (sy_q I a) = nI (mo_preyL r 6 (mo_old r 1 6 (-1)).toNatClampNeg) := by
  have hi := SX_inv h
  have hs : ∀ v, v < 6 → ¬ r (5 * v) < 1 := fun v hv hl => mo_free_none hf hv (by rw [(mo_inv_nn hi hv).2]; exact hl)
  obtain ⟨j, hj, e, h1⟩ := old_first hs 6 (by omega) (-1) (Or.inl ⟨rfl, rfl⟩)
  rw [e, (cV hj).2.1]
  have hl : ∀ v, v < 6 → ∃ n, n ≤ 1000 ∧ I (a + (5 + v)) 3 = nI n := fun v hv => VR_lvl (h.1 v hv)
  have ew : ∀ v, v < 6 → r (5 * v + 4) = I (a + (5 + v)) 4 := fun v hv => (VR_4 (h.1 v hv) (by rw [← (h.1 v hv).1]; exact mo_free_none hf hv)).symm
  unfold sy_q
  rw [quiet_mn hl 5 (by omega) 0 (by omega), preyL_mn hl (fun v hv => (h.1 v hv).2.2.1) ew 6 (by omega) j hj]
  congr 1
  refine mnv_eq (qlt_irr _ _) (qlt_tr _ _) (qlt_ng _ _) hj fun u hu => ?_
  have h2 := h1 u hu
  rw [ew j hj, ew u (by omega)] at h2
  unfold qlt
  simp only [decide_eq_true_iff]
  simp only [Int32.lt_iff_toInt_lt, ← Int32.toInt_inj] at *
  omega
theorem R_steal (h : SX dt dp B I a r) (hf : mo_free r = -1) : sy_steal I a = mo_prey r := by
  unfold sy_steal mo_prey
  rw [R_o1 h, R_o4 h, R_quiet h hf]
  obtain ⟨-, -, -, ⟨e7, h7⟩, -⟩ := h.2.2
  rw [← e7]
  rcases h7 with e | e | e | e <;> rw [e]
  · rw [if_pos rfl, if_neg (fun g => g.elim (by decide) (fun g => absurd g.1 (by decide))), if_neg (by decide)]
  · rw [if_neg (by decide), if_neg (by decide), if_neg (by decide), if_pos (Or.inl rfl), if_neg (by decide)]
  · rw [if_neg (by decide), if_pos rfl]
    by_cases h4 : mo_old r 4 6 (-1) = -1
    · rw [if_pos h4, if_pos (Or.inr ⟨by decide, h4⟩), if_neg (by decide)]
    · rw [if_neg h4, if_neg (fun g => g.elim (by decide) (fun g => h4 g.2)), if_pos (by decide)]
  · rw [if_neg (by decide), if_neg (by decide), if_pos rfl]
    by_cases h4 : mo_old r 4 6 (-1) = -1
    · rw [if_pos (Or.inr ⟨by decide, h4⟩), if_pos rfl, h4]
    · rw [if_neg (fun g => g.elim (by decide) (fun g => h4 g.2)), if_pos (by decide)]
theorem R_next (h : SX dt dp B I a r) : (if sy_fr I a = -1 then sy_steal I a else sy_fr I a) = mo_next r := by
  unfold mo_next
  rw [R_fr h]
  by_cases hf : mo_free r = -1
  · rw [if_pos hf, if_pos hf, R_steal h hf]
  · rw [if_neg hf, if_neg hf]
theorem nJ_div {x y : Nat} (hx : x < 2 ^ 31) (hy : y < 2 ^ 31) (h0 : 0 < y) : nI x / nI y = nI (x / y) := by
  apply Int32.toInt_inj.mp
  have hd : x / y ≤ x := Nat.div_le_self x y
  rw [Int32.toInt_div, nI_toInt hx, nI_toInt hy, nI_toInt (by omega), ← Int.ofNat_tdiv]
  revert hd
  generalize x / y = z
  intro hd
  exact Int.bmod_eq_of_le (by omega) (by omega)
theorem die_num {l d : Nat} (hl : l ≤ 1000) (hd : d ≤ 1000) (h0 : 1 ≤ d) : (nI l + nI d - 1) / nI d = nI ((l + d - 1) / d) := by
  rw [nI_add, show l + d = (l + d - 1) + 1 by omega, nI_pred, Nat.add_sub_cancel, nJ_div (by omega) (by omega) (by omega)]
def die_n (l d : Nat) : Nat := if l = 0 then 1 else (l + d - 1) / d
theorem die_n_c {l d : Nat} (hl : l ≤ 1000) (hd : d ≤ 1000) (h0 : 1 ≤ d) : die_n l d ≤ 2000 ∧ 1 ≤ die_n l d ∧ ((l + d - 1) / d = 0 ↔ l = 0) := by
  have h1 : (l + d - 1) / d ≤ l + d - 1 := Nat.div_le_self _ _
  have h2 : (l + d - 1) / d = 0 ↔ l + d - 1 < d := Nat.div_eq_zero_iff_lt (by omega)
  unfold die_n
  revert h1 h2
  generalize (l + d - 1) / d = q
  intro h1 h2
  split
  · next h => exact ⟨by omega, by omega, by rw [h2]; omega⟩
  · next h =>
    refine ⟨by omega, ?_, by rw [h2]; omega⟩
    have : ¬ q = 0 := by rw [h2]; omega
    omega
theorem R_dies (h : SX dt dp B I 3 r) {v : Nat} (hv : v < 6) : sy_die I (3 + (5 + v)) = mo_dies r v ∧ (I (3 + (5 + v)) 1 = 0 ∧ mo_dies r v = 0 ∨ ¬ I (3 + (5 + v)) 1 = 0 ∧ ∃ l d, l ≤ 1000 ∧ 1 ≤ d ∧ d ≤ 1000 ∧ I (3 + (5 + v)) 3 = nI l ∧ I (3 + 2) 3 = nI d ∧ mo_dies r v = nI (die_n l d)) := by
  obtain ⟨h1, -, h3, -⟩ := h.1 v hv
  obtain ⟨l, hl, el⟩ := VR_lvl (h.1 v hv)
  obtain ⟨-, -, -, -, -, -, -, -, ⟨e6, d, hd0, hd, ed⟩⟩ := h.2.2
  unfold sy_die mo_dies
  rw [h1, h3, ← e6]
  by_cases hz : I (3 + (5 + v)) 1 = 0
  · rw [if_pos hz, if_neg (fun g => g.1 hz)]
    exact ⟨rfl, Or.inl ⟨hz, rfl⟩⟩
  · have hp9 : 0 < I (3 + 2) 3 := by
      rw [ed, show (0 : Int32) = nI 0 from rfl]
      exact nI_lt (by omega) (by omega)
    rw [if_neg hz, if_pos ⟨hz, hp9⟩, ed, el, die_num hl hd hd0]
    obtain ⟨c1, c2, c3⟩ := die_n_c hl hd hd0
    have b1 : (l + d - 1) / d ≤ l + d - 1 := Nat.div_le_self _ _
    have e : (if nI ((l + d - 1) / d) = 0 then (1 : Int32) else nI ((l + d - 1) / d)) = nI (die_n l d) := by
      unfold die_n
      by_cases hl0 : l = 0
      · rw [if_pos hl0, if_pos (by rw [c3.mpr hl0]; rfl)]; rfl
      · rw [if_neg hl0, if_neg]
        intro g
        have := (nI_eq (a := (l + d - 1) / d) (b := 0) (Nat.lt_of_le_of_lt b1 (by omega)) (by omega)).mp g
        exact hl0 (c3.mp this)
    refine ⟨?_, Or.inr ⟨hz, l, d, hl, hd0, hd, rfl, rfl, e⟩⟩
    rw [e]
    unfold sv_max die_n
    by_cases hl0 : l = 0
    · rw [if_pos hl0, c3.mpr hl0]; rfl
    · rw [if_neg hl0]
      have h5 : ¬ (l + d - 1) / d = 0 := fun g => hl0 (c3.mp g)
      by_cases h6 : (1 : Int32) < nI ((l + d - 1) / d)
      · rw [if_pos h6]
      · rw [if_neg h6]
        rw [show (1 : Int32) = nI 1 from rfl, nJ_lt (by omega) (Nat.lt_of_le_of_lt b1 (by omega))] at h6
        have h7 : (l + d - 1) / d = 1 := by
          revert h5 h6
          generalize (l + d - 1) / d = q
          intro h5 h6
          omega
        rw [h7]; rfl
/-- a voice that dies away, run -/
theorem fb_run {d : Nat} (h0 : 1 ≤ d) (hd : d ≤ 1000) (n : Nat) : ∀ (J : Nat → Nat → Int32) (c : Int32) (l : Nat), l ≤ 1000 → l ≤ d * n → 1 ≤ n → J 183 1 = 4 → J 183 3 = nI l → J (3 + 2) 3 = nI d → (sy_fb n J c).1 = c + nI (die_n l d) := by
  induction n with
  | zero => intro J c l _ _ h; omega
  | succ n ih =>
    intro J c l hl hln _ e1 e3 ed
    unfold sy_fb
    have hz : ¬ J 183 1 = 0 := by rw [e1]; decide
    rw [if_neg hz]
    have em : sv_move (J 183) (J (3 + 2)) = sv_fade (J 183) (J (3 + 2)) := by
      unfold sv_move
      rw [e1, if_neg (by decide), if_neg (by decide), if_pos rfl]
    rw [em]
    unfold sv_fade
    have t1 : (nI l).toInt = l := nI_toInt (by omega)
    have t2 : (nI d).toInt = d := nI_toInt (by omega)
    have hs : (nI l - nI d).toInt = (l : Int) - d := by rw [i32_sub (by omega) (by omega) (by omega) (by omega), t1, t2]
    by_cases hld : d < l
    · have hp9 : 0 < J 183 3 - J (3 + 2) 3 := by
        rw [e3, ed, Int32.lt_iff_toInt_lt, hs, show (0 : Int32).toInt = 0 by decide]
        omega
      rw [if_pos hp9]
      have en : J 183 3 - J (3 + 2) 3 = nI (l - d) := by
        rw [e3, ed]
        apply Int32.toInt_inj.mp
        rw [hs, nI_toInt (by omega)]
        omega
      rw [en]
      have hn1 : 1 ≤ n := by
        rcases n with _ | n
        · simp at hln; omega
        · omega
      have hmul : d * (n + 1) = d * n + d := Nat.mul_succ d n
      rw [ih _ _ (l - d) (by omega) (by omega) hn1 (by rw [mm_up_s, mm_up_n _ _ (by decide)]; exact e1) (by rw [mm_up_s, mm_up_s]) (by rw [mm_up_n _ _ (by decide)]; exact ed)]
      have hdv : die_n l d = die_n (l - d) d + 1 := by
        unfold die_n
        rw [if_neg (show ¬ l = 0 by omega), if_neg (show ¬ l - d = 0 by omega)]
        rw [show l + d - 1 = (l - d + d - 1) + d by omega, Nat.add_div_right _ (by omega)]
      rw [hdv, nI_succ, Int32.add_assoc, Int32.add_comm 1]
    · have hp9 : ¬ 0 < J 183 3 - J (3 + 2) 3 := by
        rw [e3, ed, Int32.lt_iff_toInt_lt, hs, show (0 : Int32).toInt = 0 by decide]
        omega
      rw [if_neg hp9]
      have hdv : die_n l d = 1 := by
        unfold die_n
        split
        · rfl
        · rw [Nat.div_eq_of_lt_le] <;> omega
      rw [hdv]
      cases n with
      | zero => rfl
      | succ n =>
        unfold sy_fb
        rw [mm_up_s, if_pos (show sv_free (J 183) 1 = 0 from rfl)]
        rfl
end XC
