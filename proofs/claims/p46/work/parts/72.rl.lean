/-! the relation kept: presses, notes, releases, the pedal -/
section XD
variable {dt dp : Int32} {B : Nat} {I : Nat → Nat → Int32} {a : Nat} {r : Nat → Int32}
theorem VR_eq {f f' r q : Nat → Int32} {v : Nat} (h : VR f r v) (ef : ∀ i, i < 5 → f' i = f i) (e : ∀ i, i < 5 → q (5 * v + i) = r (5 * v + i)) : VR f' q v := by
  have e0 : q (5 * v) = r (5 * v) := e 0 (by omega)
  unfold VR at h ⊢
  rw [e0, e 1 (by omega), e 2 (by omega), e 3 (by omega), e 4 (by omega), ef 0 (by omega), ef 1 (by omega), ef 2 (by omega), ef 3 (by omega), ef 4 (by omega)]
  exact h
theorem KR_eq {hd hd' w w' r q : Nat → Int32} {k : Nat} (h : KR hd w r k) (e1 : hd' k = hd k) (e2 : w' k = w k) (e3 : q (30 + 2 * k) = r (30 + 2 * k)) (e4 : q (30 + 2 * k + 1) = r (30 + 2 * k + 1)) : KR hd' w' q k := by
  unfold KR at h ⊢
  rw [e1, e2, e3, e4]
  exact h
theorem GR_eq {g g' s s' r q : Nat → Int32} (h : GR dt dp B g s r) (eg : ∀ i, 4 ≤ i → i ≤ 12 → g' i = g i) (es : ∀ i, i < 4 → s' i = s i) (e : ∀ i, 150 ≤ i → i ≤ 162 → q i = r i) : GR dt dp B g' s' q := by
  unfold GR at h ⊢
  rw [eg 4 (by omega) (by omega), eg 5 (by omega) (by omega), eg 6 (by omega) (by omega), eg 7 (by omega) (by omega), eg 8 (by omega) (by omega), eg 9 (by omega) (by omega), eg 10 (by omega) (by omega), eg 11 (by omega) (by omega), eg 12 (by omega) (by omega), es 0 (by omega), es 1 (by omega), es 2 (by omega), es 3 (by omega),
    e 150 (by omega) (by omega), e 151 (by omega) (by omega), e 152 (by omega) (by omega), e 153 (by omega) (by omega), e 154 (by omega) (by omega), e 155 (by omega) (by omega), e 156 (by omega) (by omega), e 157 (by omega) (by omega), e 158 (by omega) (by omega), e 159 (by omega) (by omega), e 160 (by omega) (by omega), e 161 (by omega) (by omega), e 162 (by omega) (by omega)]
  exact h
theorem GR_B {B' : Nat} {g s r : Nat → Int32} (h : GR dt dp B g s r) (hB : B ≤ B') : GR dt dp B' g s r := by
  obtain ⟨⟨h1, e, h2, h3⟩, h4⟩ := h
  exact ⟨⟨h1, e, by omega, h3⟩, h4⟩
theorem SX_B {B' : Nat} (h : SX dt dp B I a r) (hB : B ≤ B') : SX dt dp B' I a r := ⟨h.1, h.2.1, GR_B h.2.2 hB⟩
theorem SX_ext {I' : Nat → Nat → Int32} {b : Nat} {q : Nat → Int32} (h : SX dt dp B I b r) (hv : ∀ v, v < 6 → ∀ i, i < 5 → I' (a + (5 + v)) i = I (b + (5 + v)) i) (hk : ∀ k, k < 60 → I' (a + 3) k = I (b + 3) k ∧ I' (a + 4) k = I (b + 4) k) (hg : ∀ i, 4 ≤ i → i ≤ 12 → I' a i = I b i) (hs : ∀ i, i < 4 → I' (a + 2) i = I (b + 2) i) (hq : ∀ j, j < 163 → q j = r j) : SX dt dp B I' a q :=
  ⟨fun v hv9 => VR_eq (h.1 v hv9) (hv v hv9) (fun i hi => hq _ (by omega)), fun k hk9 => KR_eq (h.2.1 k hk9) (hk k hk9).1 (hk k hk9).2 (hq _ (by omega)) (hq _ (by omega)), GR_eq h.2.2 hg hs (fun i h1 h2 => hq _ (by omega))⟩
theorem SX_row {q : Nat → Int32} (h : SX dt dp B I a r) (hq : ∀ j, j < 163 → q j = r j) : SX dt dp B I a q := SX_ext h (fun _ _ _ _ => rfl) (fun _ _ => ⟨rfl, rfl⟩) (fun _ _ _ => rfl) (fun _ _ => rfl) hq
theorem SX_pl {I' : Nat → Nat → Int32} (h : SX dt dp B I a r) (hI : ∀ x, a ≤ x → x < a + 11 → I' x = I x) : SX dt dp B I' a r := SX_ext h (fun v hv i _ => by rw [hI _ (by omega) (by omega)]) (fun k _ => ⟨by rw [hI _ (by omega) (by omega)], by rw [hI _ (by omega) (by omega)]⟩) (fun i _ _ => by rw [hI _ (by omega) (by omega)]) (fun i _ => by rw [hI _ (by omega) (by omega)]) (fun _ _ => rfl)
/-- a change of one voice -/
theorem SX_v {q f : Nat → Int32} {j : Nat} (h : SX dt dp B I a r) (hj : j < 6) (hf : VR f q j) (hq : ∀ x, ¬ (5 * j ≤ x ∧ x < 5 * j + 5) → q x = r x) : SX dt dp B (mm_up I (a + (5 + j)) f) a q := by
  refine ⟨fun v hv => ?_, fun k hk => ?_, ?_⟩
  · by_cases e : v = j
    · subst e
      rw [mm_up_s]
      exact hf
    · rw [mm_up_n _ _ (show ¬ a + (5 + v) = a + (5 + j) by omega)]
      exact VR_eq (h.1 v hv) (fun _ _ => rfl) (fun i hi => hq _ (by omega))
  · rw [mm_up_n _ _ (show ¬ a + 3 = a + (5 + j) by omega), mm_up_n _ _ (show ¬ a + 4 = a + (5 + j) by omega)]
    exact KR_eq (h.2.1 k hk) rfl rfl (hq _ (by omega)) (hq _ (by omega))
  · rw [mm_up_n _ _ (show ¬ a = a + (5 + j) by omega), mm_up_n _ _ (show ¬ a + 2 = a + (5 + j) by omega)]
    exact GR_eq h.2.2 (fun _ _ _ => rfl) (fun _ _ => rfl) (fun i h1 h2 => hq _ (by omega))
/-- a change of the counts -/
theorem SX_g {dt' dp' : Int32} {B' : Nat} {q g : Nat → Int32} (h : SX dt dp B I a r) (hg : GR dt' dp' B' g (I (a + 2)) q) (hq : ∀ x, x < 150 → q x = r x) : SX dt' dp' B' (mm_up I a g) a q := by
  refine ⟨fun v hv => ?_, fun k hk => ?_, ?_⟩
  · rw [mm_up_n _ _ (show ¬ a + (5 + v) = a by omega)]
    exact VR_eq (h.1 v hv) (fun _ _ => rfl) (fun i hi => hq _ (by omega))
  · rw [mm_up_n _ _ (show ¬ a + 3 = a by omega), mm_up_n _ _ (show ¬ a + 4 = a by omega)]
    exact KR_eq (h.2.1 k hk) rfl rfl (hq _ (by omega)) (hq _ (by omega))
  · rw [mm_up_s, mm_up_n _ _ (show ¬ a + 2 = a by omega)]
    exact hg
theorem mo_start_at (r : Nat → Int32) {v k : Nat} (hv : v < 6) (x : Nat) : mo_start r v k x = if x = 5 * v then 1 else if x = 5 * v + 1 then nI k else if x = 5 * v + 2 then r (30 + 2 * k + 1) else if x = 5 * v + 3 then 0 else if x = 5 * v + 4 then r 157 + 1 else if x = 157 then r 157 + 1 else if x = 158 then r 158 + 1 else r x := by
  unfold mo_start mm_up
  by_cases h0 : x = 5 * v
  · simp only [h0, show ¬ 5 * v = 158 by omega, show ¬ 5 * v = 5 * v + 4 by omega, show ¬ 5 * v = 157 by omega, show ¬ 5 * v = 5 * v + 3 by omega, show ¬ 5 * v = 5 * v + 2 by omega, show ¬ 5 * v = 5 * v + 1 by omega, if_false, if_true]
  by_cases h1 : x = 5 * v + 1
  · simp only [h1, show ¬ 5 * v + 1 = 158 by omega, show ¬ 5 * v + 1 = 5 * v + 4 by omega, show ¬ 5 * v + 1 = 157 by omega, show ¬ 5 * v + 1 = 5 * v + 3 by omega, show ¬ 5 * v + 1 = 5 * v + 2 by omega, show ¬ 5 * v + 1 = 5 * v by omega, if_false, if_true]
  by_cases h2 : x = 5 * v + 2
  · simp only [h2, show ¬ 5 * v + 2 = 158 by omega, show ¬ 5 * v + 2 = 5 * v + 4 by omega, show ¬ 5 * v + 2 = 157 by omega, show ¬ 5 * v + 2 = 5 * v + 3 by omega, show ¬ 5 * v + 2 = 5 * v + 1 by omega, show ¬ 5 * v + 2 = 5 * v by omega, if_false, if_true]
  by_cases h3 : x = 5 * v + 3
  · simp only [h3, show ¬ 5 * v + 3 = 158 by omega, show ¬ 5 * v + 3 = 5 * v + 4 by omega, show ¬ 5 * v + 3 = 157 by omega, show ¬ 5 * v + 3 = 5 * v + 2 by omega, show ¬ 5 * v + 3 = 5 * v + 1 by omega, show ¬ 5 * v + 3 = 5 * v by omega, if_false, if_true]
  by_cases h4 : x = 5 * v + 4
  · simp only [h4, show ¬ 5 * v + 4 = 158 by omega, show ¬ 5 * v + 4 = 157 by omega, show ¬ 5 * v + 4 = 5 * v + 3 by omega, show ¬ 5 * v + 4 = 5 * v + 2 by omega, show ¬ 5 * v + 4 = 5 * v + 1 by omega, show ¬ 5 * v + 4 = 5 * v by omega, if_false, if_true]
  by_cases h5 : x = 157
  · simp only [h5, show ¬ 157 = 158 by omega, show ¬ 157 = 5 * v + 4 by omega, show ¬ 157 = 5 * v + 3 by omega, show ¬ 157 = 5 * v + 2 by omega, show ¬ 157 = 5 * v + 1 by omega, show ¬ 157 = 5 * v by omega, if_false, if_true]
  by_cases h6 : x = 158
  · simp only [h6, show ¬ 158 = 157 by omega, show ¬ 158 = 5 * v + 4 by omega, show ¬ 158 = 5 * v + 3 by omega, show ¬ 158 = 5 * v + 2 by omega, show ¬ 158 = 5 * v + 1 by omega, show ¬ 158 = 5 * v by omega, if_false, if_true]
  · simp only [h0, h1, h2, h3, h4, h5, h6, if_false]
theorem KR_dn {hd w r : Nat → Int32} {k : Nat} (h : KR hd w r k) (hp9 : 0 < r (30 + 2 * k)) : (∃ s, 1 ≤ s ∧ s ≤ 100 ∧ hd k = nI s) ∧ r (30 + 2 * k + 1) = hd k := by
  rcases h with ⟨-, h⟩ | ⟨h1, h2, -, -⟩
  · rw [h] at hp9; exact absurd hp9 (by decide)
  · exact ⟨h1, h2⟩
theorem R_begin (h : SX dt dp B I a r) {j k : Nat} (hj : j < 6) (hk : k < 60) (hd : 0 < r (30 + 2 * k)) : SX dt dp (B + 1) (sy_begin I a (a + (5 + j)) (nI k)) a (mo_start r j k) := by
  unfold sy_begin
  rw [if_pos (by rw [R_dn h hk]; exact hd), (cK hk).2.1]
  obtain ⟨hs, es⟩ := KR_dn (h.2.1 k hk) hd
  obtain ⟨⟨g4, e, he, ge⟩, g5, g6, g7, ⟨g8, g9, g10, g11, g12⟩, gs⟩ := h.2.2
  have hG : GR dt dp (B + 1) (mm_up (mm_up (I a) 9 (I a 9 + 1)) 4 (I a 4 + 1)) (I (a + 2)) (mm_up (mm_up r 157 (r 157 + 1)) 158 (r 158 + 1)) := by
    simp +decide only [GR, mm_up_s, mm_up_n, not_false_eq_true]
    exact ⟨⟨by rw [g4], e + 1, by omega, by rw [ge, nI_1]⟩, g5, g6, g7, ⟨g8, by rw [g9], g10, g11, g12⟩, gs⟩
  have h1 := SX_g h hG (fun x hx => by rw [mm_up_n _ _ (by omega), mm_up_n _ _ (by omega)])
  refine SX_v h1 hj ?_ (fun x hx => ?_)
  · refine ⟨?_, ?_, ?_, Or.inr ⟨Or.inl rfl, ?_, ?_, ⟨k, hk, rfl⟩, hs, 0, by omega, rfl⟩⟩
    · rw [mo_start_at r hj, if_pos rfl]; rfl
    · rw [mo_start_at r hj, if_neg (by omega), if_pos rfl]; rfl
    · rw [mo_start_at r hj, if_neg (by omega), if_neg (by omega), if_neg (by omega), if_pos rfl]; rfl
    · rw [mo_start_at r hj, if_neg (by omega), if_neg (by omega), if_pos rfl]; exact es
    · rw [mo_start_at r hj, if_neg (by omega), if_neg (by omega), if_neg (by omega), if_neg (by omega), if_pos rfl, ← g4]; rfl
  · rw [mo_start_at r hj, if_neg (by omega), if_neg (by omega), if_neg (by omega), if_neg (by omega), if_neg (by omega)]
    unfold mm_up
    by_cases h5 : x = 157
    · subst h5; rfl
    · by_cases h6 : x = 158
      · subst h6; rfl
      · simp only [h5, h6, if_false]
theorem R_pressk (h : SX dt dp B I a r) (hB : B < 2 ^ 30) {k s : Nat} (hk : k < 60) (hs1 : 1 ≤ s) (hs : s ≤ 100) : SX dt dp (B + 1) (sy_press I a (nI k) (nI s)) a (mo_press r k (nI s)) := by
  obtain ⟨⟨g4, e, he, ge⟩, g5, g6, g7, ⟨g8, g9, g10, g11, g12⟩, gs⟩ := h.2.2
  have q_at : ∀ x, mo_press r k (nI s) x = if x = 30 + 2 * k + 1 then nI s else if x = 30 + 2 * k then r 157 + 1 else if x = 157 then r 157 + 1 else r x := fun x => rfl
  unfold sy_press
  rw [(cK hk).2.1]
  refine ⟨fun v hv => ?_, fun u hu => ?_, ?_⟩
  · rw [mm_up_n _ _ (show ¬ a + (5 + v) = a + 4 by omega), mm_up_n _ _ (show ¬ a + (5 + v) = a by omega), mm_up_n _ _ (show ¬ a + (5 + v) = a + 3 by omega)]
    exact VR_eq (h.1 v hv) (fun _ _ => rfl) (fun i hi => by rw [q_at, if_neg (by omega), if_neg (by omega), if_neg (by omega)])
  · rw [mm_up_n _ _ (show ¬ a + 3 = a + 4 by omega), mm_up_n _ _ (show ¬ a + 3 = a by omega), mm_up_s, mm_up_s]
    by_cases eu : u = k
    · subst eu
      refine Or.inr ⟨⟨s, hs1, hs, mm_up_s _ _ _⟩, ?_, ?_, ?_⟩
      · rw [q_at, if_pos rfl, mm_up_s]
      · rw [q_at, if_neg (by omega), if_pos rfl, mm_up_s, g4]
      · rw [q_at, if_neg (by omega), if_pos rfl, ← g4, ge, nI_1, show (0 : Int32) = nI 0 from rfl]
        exact nI_lt (by omega) (by omega)
    · exact KR_eq (h.2.1 u hu) (mm_up_n _ _ eu) (mm_up_n _ _ eu) (by rw [q_at, if_neg (by omega), if_neg (by omega), if_neg (by omega)]) (by rw [q_at, if_neg (by omega), if_neg (by omega), if_neg (by omega)])
  · rw [mm_up_n _ _ (show ¬ a = a + 4 by omega), mm_up_s, mm_up_n _ _ (show ¬ a + 2 = a + 4 by omega), mm_up_n _ _ (show ¬ a + 2 = a by omega), mm_up_n _ _ (show ¬ a + 2 = a + 3 by omega)]
    have e157 : mo_press r k (nI s) 157 = r 157 + 1 := by rw [q_at, if_neg (by omega), if_neg (by omega), if_pos rfl]
    have eo : ∀ x, 150 ≤ x → ¬ x = 157 → mo_press r k (nI s) x = r x := fun x h1 h2 => by rw [q_at, if_neg (by omega), if_neg (by omega), if_neg h2]
    unfold GR
    rw [e157, eo 150 (by omega) (by omega), eo 151 (by omega) (by omega), eo 152 (by omega) (by omega), eo 153 (by omega) (by omega), eo 154 (by omega) (by omega), eo 155 (by omega) (by omega), eo 156 (by omega) (by omega), eo 158 (by omega) (by omega), eo 159 (by omega) (by omega), eo 160 (by omega) (by omega), eo 161 (by omega) (by omega), eo 162 (by omega) (by omega)]
    simp +decide only [mm_up_s, mm_up_n, not_false_eq_true]
    exact ⟨⟨by rw [g4], e + 1, by omega, by rw [ge, nI_1]⟩, g5, g6, g7, ⟨g8, g9, g10, g11, g12⟩, gs⟩
theorem mo_press_dn (r : Nat → Int32) {k : Nat} (s : Int32) (h : 0 < r 157 + 1) : 0 < mo_press r k s (30 + 2 * k) := by
  have : mo_press r k s (30 + 2 * k) = r 157 + 1 := by
    unfold mo_press
    rw [mm_up_n _ _ (by omega), mm_up_s]
  rw [this]; exact h
theorem R_anew (h : SX dt dp B I a r) {j s : Nat} (hj : j < 6) (h0 : 0 < r (5 * j)) (hs1 : 1 ≤ s) (hs : s ≤ 100) : SX dt dp B (mm_up I (a + (5 + j)) (sv_anew (I (a + (5 + j))) (nI s) (I a 4))) a (mm_up (mm_up (mm_up r (5 * j) 1) (5 * j + 2) (nI s)) (5 * j + 4) (r 157)) := by
  have hV := h.1 j hj
  have hp9 := VR_pos hV
  have g4 := h.2.2.1.1
  obtain ⟨v1, v2, v3, v4 | ⟨-, -, -, hk, -, hl⟩⟩ := hV
  · rw [hp9] at h0; exact absurd v4.1 h0
  refine SX_v h hj ?_ (fun x hx => by rw [mm_up_n _ _ (by omega), mm_up_n _ _ (by omega), mm_up_n _ _ (by omega)])
  refine ⟨?_, ?_, ?_, Or.inr ⟨Or.inl rfl, ?_, ?_, hk, ⟨s, hs1, hs, rfl⟩, hl⟩⟩
  · rw [mm_up_n _ _ (by omega), mm_up_n _ _ (by omega), mm_up_s]; rfl
  · rw [mm_up_n _ _ (by omega), mm_up_n _ _ (by omega), mm_up_n _ _ (by omega), v2]; rfl
  · rw [mm_up_n _ _ (by omega), mm_up_n _ _ (by omega), mm_up_n _ _ (by omega), v3]; rfl
  · rw [mm_up_n _ _ (by omega), mm_up_s]; rfl
  · rw [mm_up_s, ← g4]; rfl
theorem R_strike (h : SX dt dp B I a r) (hB : B < 2 ^ 30) {k s : Nat} (hk : k < 60) (hs1 : 1 ≤ s) (hs : s ≤ 100) : (sy_strike I a (nI k) (nI s)).1 = (mo_goJ (mo_press r k (nI s)) k (nI s)).1 ∧ SX dt dp (B + 2) (sy_strike I a (nI k) (nI s)).2 a (mo_goJ (mo_press r k (nI s)) k (nI s)).2 := by
  have h1 := R_pressk h hB hk hs1 hs
  have hd : 0 < mo_press r k (nI s) (30 + 2 * k) := mo_press_dn r _ (by
    obtain ⟨⟨g4, e, he, ge⟩, -⟩ := h.2.2
    rw [← g4, ge, nI_1, show (0 : Int32) = nI 0 from rfl]
    exact nI_lt (by omega) (by omega))
  unfold sy_strike
  revert h1 hd
  generalize sy_press I a (nI k) (nI s) = J
  generalize mo_press r k (nI s) = q
  intro h1 hd
  unfold sy_strikeJ mo_goJ
  rw [R_own h1 (neN (by omega)), R_fr h1]
  by_cases c1 : mo_voice q (nI k) = -1
  · rw [if_pos c1, if_pos c1]
    by_cases c2 : mo_free q = -1
    · rw [if_pos c2, if_pos c2]
      unfold sy_stealFor
      rw [R_steal h1 c2]
      obtain ⟨⟨g4, e, he, ge⟩, g5, g6, g7, ⟨g8, g9, g10, g11, g12⟩, gs⟩ := h1.2.2
      by_cases c3 : mo_prey q = -1
      · rw [if_pos c3, if_pos c3]
        refine ⟨rfl, SX_B (SX_g h1 (B' := B + 1) (dt' := dt) (dp' := dp) ?_ (fun x hx => mm_up_n _ _ (by omega))) (by omega)⟩
        simp +decide only [GR, mm_up_s, mm_up_n, not_false_eq_true]
        exact ⟨⟨g4, e, he, ge⟩, g5, g6, g7, ⟨g8, g9, g10, g11, by rw [g12]⟩, gs⟩
      · rw [if_neg c3, if_neg c3]
        rcases mo_prey_c (mo_inv_pok (SX_inv h1) c2) with e9 | ⟨j, hj, e9⟩
        · exact absurd e9 c3
        · rw [e9, (cV hj).2.1]
          refine ⟨rfl, R_begin (SX_g h1 (B' := B + 1) (dt' := dt) (dp' := dp) ?_ (fun x hx => mm_up_n _ _ (by omega))) hj hk (by rw [mm_up_n _ _ (by omega)]; exact hd)⟩
          simp +decide only [GR, mm_up_s, mm_up_n, not_false_eq_true]
          exact ⟨⟨g4, e, he, ge⟩, g5, g6, g7, ⟨g8, g9, g10, by rw [g11], g12⟩, gs⟩
    · rw [if_neg c2, if_neg c2]
      rcases mo_free_c q with e9 | ⟨j, hj, e9, -⟩
      · exact absurd e9 c2
      · rw [e9, (cV hj).2.1]
        exact ⟨rfl, R_begin h1 hj hk hd⟩
  · rw [if_neg c1, if_neg c1]
    rcases mo_voice_c q (nI k) with e9 | ⟨j, hj, e9, e8, -⟩
    · exact absurd e9 c1
    · rw [e9, (cV hj).2.1]
      exact ⟨rfl, SX_B (R_anew h1 hj e8 hs1 hs) (by omega)⟩
/-- a voice dies away from now on -/
theorem R_ph4 (h : SX dt dp B I a r) {j : Nat} (hj : j < 6) (h0 : 0 < r (5 * j)) : SX dt dp B (mm_up I (a + (5 + j)) (mm_up (I (a + (5 + j))) 1 4)) a (mm_up r (5 * j) 4) := by
  have hV := h.1 j hj
  have hp9 := VR_pos hV
  obtain ⟨v1, v2, v3, v4 | ⟨-, s2, s4, hk, hs, hl⟩⟩ := hV
  · rw [hp9] at h0; exact absurd v4.1 h0
  refine SX_v h hj ?_ (fun x hx => mm_up_n _ _ (by omega))
  refine ⟨mm_up_s _ _ _, ?_, ?_, Or.inr ⟨Or.inr (Or.inr (Or.inr rfl)), ?_, ?_, hk, hs, hl⟩⟩
  · rw [mm_up_n _ _ (by omega), v2]; rfl
  · rw [mm_up_n _ _ (by omega), v3]; rfl
  · rw [mm_up_n _ _ (by omega), s2]; rfl
  · rw [mm_up_n _ _ (by omega), s4]; rfl
theorem mo_voice_far (r : Nat → Int32) {x : Nat} (hx : 30 ≤ x) (y : Int32) (k : Int32) : mo_voice (mm_up r x y) k = mo_voice r k := by
  unfold mo_voice
  refine sy_find_congr 6 (by omega) fun v hv => ?_
  rw [mm_up_n _ _ (show ¬ 5 * v = x by omega), mm_up_n _ _ (show ¬ 5 * v + 1 = x by omega)]
theorem R_rel (h : SX dt dp B I a r) {k : Nat} (hk : k < 60) : SX dt dp B (sy_rel I a (nI k)) a (mm_up r (30 + 2 * k) 0) := by
  unfold sy_rel
  rw [(cK hk).2.1]
  refine ⟨fun v hv => ?_, fun u hu => ?_, ?_⟩
  · rw [mm_up_n _ _ (show ¬ a + (5 + v) = a + 3 by omega)]
    exact VR_eq (h.1 v hv) (fun _ _ => rfl) (fun i hi => mm_up_n _ _ (by omega))
  · rw [mm_up_s, mm_up_n _ _ (show ¬ a + 4 = a + 3 by omega)]
    by_cases eu : u = k
    · subst eu
      exact Or.inl ⟨mm_up_s _ _ _, mm_up_s _ _ _⟩
    · exact KR_eq (h.2.1 u hu) (mm_up_n _ _ eu) rfl (mm_up_n _ _ (by omega)) (mm_up_n _ _ (by omega))
  · rw [mm_up_n _ _ (show ¬ a = a + 3 by omega), mm_up_n _ _ (show ¬ a + 2 = a + 3 by omega)]
    exact GR_eq h.2.2 (fun _ _ _ => rfl) (fun _ _ => rfl) (fun i h1 h2 => mm_up_n _ _ (by omega))
theorem R_release (h : SX 0 0 B I a r) {k : Nat} (hk : k < 60) : (sy_release I a (nI k)).1 = mo_voice r (nI k) ∧ SX 0 0 B (sy_release I a (nI k)).2 a (mo_lift r k) := by
  have h1 := R_rel h hk
  unfold sy_release sy_releaseJ mo_lift
  rw [R_own h1 (neN (by omega)), mo_voice_far r (by omega)]
  have e5 : sy_rel I a (nI k) a 5 = r 150 := by
    have := h1.2.2.2.1.1
    rw [this, mm_up_n _ _ (by omega), Int32.add_zero]
  rw [e5]
  by_cases c : ¬ mo_voice r (nI k) = -1 ∧ r 150 = 0
  · rw [if_pos c, if_pos c]
    rcases mo_voice_c r (nI k) with e9 | ⟨j, hj, e9, e8, -⟩
    · exact absurd e9 c.1
    · rw [e9, (cV hj).2.1]
      exact ⟨rfl, R_ph4 h1 hj (by rw [mm_up_n _ _ (by omega)]; exact e8)⟩
  · rw [if_neg c, if_neg c]
    exact ⟨rfl, h1⟩
theorem R_pd (n : Nat) (hn : n ≤ 6) : ∀ {I : Nat → Nat → Int32} {r : Nat → Int32} (c : Int32), SX dt dp B I a r → (sy_pd a n I c).1 = (mo_pd n r c).1 ∧ SX dt dp B (sy_pd a n I c).2 a (mo_pd n r c).2 := by
  induction n with
  | zero => intro I r c h; exact ⟨rfl, h⟩
  | succ n ih =>
    intro I r c h
    unfold sy_pd mo_pd
    have hv : 5 - n < 6 := by omega
    by_cases c1 : mo_held r (5 - n) = true
    · rw [if_pos (by rw [R_kept h hv]; exact c1), if_pos c1]
      refine ih (by omega) _ (R_ph4 h hv ?_)
      rw [VR_pos (h.1 _ hv)]
      have := c1
      rw [← R_kept h hv] at this
      exact this.1
    · rw [if_neg (by rw [R_kept h hv]; exact c1), if_neg c1]
      exact ih (by omega) _ h
theorem mo_held_far {r : Nat → Int32} (hi : mo_inv r) {v : Nat} (hv : v < 6) {x : Nat} (hx : 150 ≤ x) (y : Int32) : mo_held (mm_up r x y) v = mo_held r v := by
  unfold mo_held
  rw [mm_up_n _ _ (show ¬ 5 * v = x by omega), mm_up_n _ _ (show ¬ 5 * v + 1 = x by omega)]
  by_cases c : mo_in13 (r (5 * v)) = true
  · obtain ⟨k, hk, e⟩ := mo_inv_kok hi v hv c
    rw [e, (cK hk).2.1, mm_up_n _ _ (show ¬ 30 + 2 * k = x by omega)]
  · rw [Bool.eq_false_iff.mpr c, Bool.false_and, Bool.false_and]
theorem mo_pd_far (n : Nat) (hn : n ≤ 6) : ∀ {r : Nat → Int32} (_ : mo_inv r) {x : Nat} (_ : 150 ≤ x) (y c : Int32), mo_pd n (mm_up r x y) c = ((mo_pd n r c).1, mm_up (mo_pd n r c).2 x y) := by
  induction n with
  | zero => intro r hi x hx y c; rfl
  | succ n ih =>
    intro r hi x hx y c
    unfold mo_pd
    rw [mo_held_far hi (by omega) hx]
    by_cases c1 : mo_held r (5 - n) = true
    · rw [if_pos c1, if_pos c1, mm_up_comm _ _ _ (show x ≠ 5 * (5 - n) by omega)]
      refine ih (by omega) (mo_inv_ph hi (Or.inr (Or.inr (Or.inr rfl))) (mo_inv_kok hi _ (by omega) ?_)) hx y _
      unfold mo_held at c1
      rw [Bool.and_eq_true] at c1
      exact c1.1
    · rw [if_neg c1, if_neg c1]
      exact ih (by omega) hi hx y c
theorem R_pedal (h : SX 0 0 B I a r) {d : Int32} (hd : d = 0 ∨ d = 1) : (sy_pedal I a d).1 = (mo_pedal r d).1 ∧ SX 0 0 B (sy_pedal I a d).2 a (mo_pedal r d).2 := by
  have h1 : SX 0 0 B (mm_up I a (mm_up (I a) 5 d)) a (mm_up r 150 d) := by
    obtain ⟨g4, g5, g6, g7, g8, gs⟩ := h.2.2
    refine SX_g h ?_ (fun x hx => mm_up_n _ _ (by omega))
    simp +decide only [GR, mm_up_s, mm_up_n, not_false_eq_true]
    exact ⟨g4, ⟨(Int32.add_zero d).symm, hd⟩, g6, g7, g8, gs⟩
  unfold sy_pedal mo_pedal
  rcases hd with rfl | rfl
  · rw [if_pos rfl, if_pos rfl]
    have h2 := R_pd 6 (by omega) 0 h1
    rw [mo_pd_far 6 (by omega) (SX_inv h) (by omega)] at h2
    exact h2
  · rw [if_neg (by decide), if_neg (by decide)]
    exact ⟨rfl, h1⟩
end XD
