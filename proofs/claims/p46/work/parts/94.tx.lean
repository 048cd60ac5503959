/-! a piece told as a text: the text -/
section TX9
def ap9 (w : Nat × (Nat → Int32)) (ch : Nat) : Nat × (Nat → Int32) := (w.1 + 1, mm_up w.2 w.1 (nI ch))
def tw9 (w : Nat × (Nat → Int32)) (v : Nat) : Nat × (Nat → Int32) := ap9 (ap9 w (48 + v / 10)) (48 + v % 10)
def tc9 (y : Nat) (w : Nat × (Nat → Int32)) : Nat × (Nat → Int32) := if y % 5 < 3 then tw9 (ap9 (tw9 (ap9 w 112) (y % 15)) 48) (1 + y / 3 % 99) else if y % 5 = 3 then tw9 (ap9 w 114) (y / 5 % 15) else tw9 (ap9 w 116) (1 + y / 5 % 9)
def tl9 (X N : Nat) : Nat → Nat × (Nat → Int32) → Nat × (Nat → Int32)
  | 0, w => w
  | n + 1, w => tl9 X N n (tc9 (X / 2 ^ (N - (n + 1))) w)
def tf9 (X : Nat) (w : Nat × (Nat → Int32)) : Nat × (Nat → Int32) := ap9 (ap9 (if X % 3 = 0 then ap9 w 100 else w) 115) (48 + X % 4)
def te9 (X : Nat) (T : Nat → Int32) : Nat × (Nat → Int32) := tf9 X (tl9 X (4 + X % 5) (4 + X % 5) (ap9 (0, T) 86))
theorem dg_ok {T : Nat → Int32} {L p n l h : Nat} {lo hi : Int32} (hp : p < L) (hT : T p = nI (48 + n)) (hl : lo = nI l) (h1 : l ≤ n) (hh : hi = nI h) (h2 : n ≤ h) (h3 : h < 100) : dg T L p lo hi = true := by
  unfold dg
  have e : T p - 48 = nI n := by
    rw [hT]
    have := nI_sub (a := 48 + n) (b := 48) (by omega)
    rw [show 48 + n - 48 = n by omega] at this
    exact this
  rw [e, hl, hh]
  exact decide_eq_true ⟨hp, nI_nlt h1 (by omega), nI_nlt h2 (by omega)⟩
theorem pv_p {T : Nat → Int32} {L p a b d e : Nat} (hL : p + 6 ≤ L) (h0 : T p = nI 112) (h1 : T (p + 1) = nI (48 + a)) (ha : a ≤ 5) (h2 : T (p + 2) = nI (48 + b)) (hb : b ≤ 9) (h3 : T (p + 3) = nI 48) (h4 : T (p + 4) = nI (48 + d)) (hd : d ≤ 9) (h5 : T (p + 5) = nI (48 + e)) (he : e ≤ 9) (hz : d = 0 → 1 ≤ e) : pe_cmd T L p = -1 := by
  have k : pe_key T L (p + 1) = -1 := by
    have d1 : dg T L (p + 1) 0 5 = true := dg_ok (l := 0) (h := 5) (by omega) h1 rfl (by omega) rfl ha (by omega)
    have d2 : dg T L (p + 1 + 1) 0 9 = true := dg_ok (l := 0) (h := 9) (by omega) h2 rfl (by omega) rfl hb (by omega)
    unfold pe_key
    rw [if_pos d1, if_pos d2]
  have z48 : T (p + 3) - 48 = 0 := by rw [h3]; decide
  have z4 : T (p + 3 + 1) - 48 = nI d := by
    have h4' : T (p + 3 + 1) = nI (48 + d) := h4
    rw [h4']
    have := nI_sub (a := 48 + d) (b := 48) (by omega)
    rw [show 48 + d - 48 = d by omega] at this
    exact this
  have n01 : ¬ (0 : Int32) = 1 := by decide
  have f : pe_force T L (p + 3) = -1 := by
    have d3 : dg T L (p + 3) 0 1 = true := dg_ok (n := 0) (l := 0) (h := 1) (by omega) h3 rfl (by omega) rfl (by omega) (by omega)
    have d4 : dg T L (p + 3 + 1) 0 9 = true := dg_ok (l := 0) (h := 9) (by omega) h4 rfl (by omega) rfl hd (by omega)
    unfold pe_force
    rw [z48, if_neg n01, z4, if_pos d3, if_pos d4]
    have e0 : (0 : Int32) + nI d = nI d := by
      have := nI_add 0 d
      rw [Nat.zero_add] at this
      exact this
    rw [e0]
    by_cases c : d = 0
    · subst c
      have d5 : dg T L (p + 3 + 1 + 1) 1 9 = true := dg_ok (l := 1) (h := 9) (by omega) h5 rfl (hz rfl) rfl he (by omega)
      rw [if_pos (show nI 0 = 0 from rfl), if_pos d5]
    · have d5 : dg T L (p + 3 + 1 + 1) 0 9 = true := dg_ok (l := 0) (h := 9) (by omega) h5 rfl (by omega) rfl he (by omega)
      rw [if_neg (nI_ne0 (by omega) (by omega)), if_pos d5]
  have h0 : T p = 112 := h0
  unfold pe_cmd
  rw [if_pos h0, if_pos k, f]
theorem pv_r {T : Nat → Int32} {L p a b : Nat} (hL : p + 3 ≤ L) (h0 : T p = nI 114) (h1 : T (p + 1) = nI (48 + a)) (ha : a ≤ 5) (h2 : T (p + 2) = nI (48 + b)) (hb : b ≤ 9) : pe_cmd T L p = -1 := by
  unfold pe_cmd
  rw [h0, if_neg (by decide), if_pos (by decide)]
  have d1 : dg T L (p + 1) 0 5 = true := dg_ok (l := 0) (h := 5) (by omega) h1 rfl (by omega) rfl ha (by omega)
  have d2 : dg T L (p + 1 + 1) 0 9 = true := dg_ok (l := 0) (h := 9) (by omega) h2 rfl (by omega) rfl hb (by omega)
  unfold pe_key
  rw [if_pos d1, if_pos d2]
theorem pv_t {T : Nat → Int32} {L p b : Nat} (hL : p + 3 ≤ L) (h0 : T p = nI 116) (h1 : T (p + 1) = nI (48 + 0)) (h2 : T (p + 2) = nI (48 + b)) (hb : b ≤ 9) (hb1 : 1 ≤ b) : pe_cmd T L p = -1 := by
  unfold pe_cmd
  rw [h0, if_neg (by decide), if_neg (by decide), if_pos (by decide)]
  unfold pe_tick
  have z : T (p + 1) - 48 = 0 := by rw [h1]; decide
  have d1 : dg T L (p + 1) 0 9 = true := dg_ok (n := 0) (l := 0) (h := 9) (by omega) h1 rfl (by omega) rfl (by omega) (by omega)
  have d2 : dg T L (p + 1 + 1) 1 9 = true := dg_ok (l := 1) (h := 9) (by omega) h2 rfl hb1 rfl hb (by omega)
  rw [z, if_pos rfl, if_pos d1, if_pos d2]
theorem pv_s {T : Nat → Int32} {L p b : Nat} (hL : p + 2 ≤ L) (h0 : T p = nI 115) (h1 : T (p + 1) = nI (48 + b)) (hb : b ≤ 3) : pe_cmd T L p = -1 := by
  unfold pe_cmd
  rw [h0, if_neg (by decide), if_neg (by decide), if_neg (by decide), if_pos (by decide)]
  have d1 : dg T L (p + 1) 0 3 = true := dg_ok (l := 0) (h := 3) (by omega) h1 rfl (by omega) rfl hb (by omega)
  unfold pe_rule
  rw [if_pos d1]
theorem pv_d {T : Nat → Int32} {L p : Nat} (h0 : T p = nI 100) : pe_cmd T L p = -1 := by
  unfold pe_cmd
  rw [h0, if_neg (by decide), if_neg (by decide), if_neg (by decide), if_neg (by decide), if_pos (by decide)]
/-- the reader stands behind k commands at the end of what is written so far -/
def G9 (k : Nat) (w : Nat × (Nat → Int32)) : Prop := ∀ (L : Nat) (T : Nat → Int32), w.1 ≤ L → (∀ j, j < w.1 → T j = w.2 j) → ∀ n, pe_all T L (n + k) 1 = pe_all T L n w.1
theorem G9_st {k : Nat} {w w' : Nat × (Nat → Int32)} (h : G9 k w) (hl : w.1 < w'.1) (ha : ∀ j, j < w.1 → w'.2 j = w.2 j) (hc : ∀ (L : Nat) (T : Nat → Int32), w'.1 ≤ L → (∀ j, j < w'.1 → T j = w'.2 j) → pe_cmd T L w.1 = -1 ∧ w.1 + pc_ln (T w.1) = w'.1) : G9 (k + 1) w' := by
  intro L T h1 h2 n
  have e := h L T (by omega) (fun j hj => by rw [h2 j (by omega), ha j hj]) (n + 1)
  obtain ⟨c1, c2⟩ := hc L T h1 h2
  rw [show n + (k + 1) = n + 1 + k by omega, e]
  show (if w.1 < L then (if pe_cmd T L w.1 = -1 then pe_all T L n (w.1 + pc_ln (T w.1)) else pe_cmd T L w.1) else -1) = _
  rw [if_pos (by omega), if_pos c1, c2]
theorem tc_l (y : Nat) (w : Nat × (Nat → Int32)) : w.1 < (tc9 y w).1 ∧ (tc9 y w).1 ≤ w.1 + 6 := by
  unfold tc9 tw9 ap9
  split
  · show w.1 < w.1 + 1 + 1 + 1 + 1 + 1 + 1 ∧ w.1 + 1 + 1 + 1 + 1 + 1 + 1 ≤ w.1 + 6
    omega
  · split
    · show w.1 < w.1 + 1 + 1 + 1 ∧ w.1 + 1 + 1 + 1 ≤ w.1 + 6
      omega
    · show w.1 < w.1 + 1 + 1 + 1 ∧ w.1 + 1 + 1 + 1 ≤ w.1 + 6
      omega
theorem up3 (T : Nat → Int32) (L : Nat) (a b c : Int32) : (mm_up (mm_up (mm_up T L a) (L + 1) b) (L + 1 + 1) c) L = a ∧ (mm_up (mm_up (mm_up T L a) (L + 1) b) (L + 1 + 1) c) (L + 1) = b ∧ (mm_up (mm_up (mm_up T L a) (L + 1) b) (L + 1 + 1) c) (L + 1 + 1) = c ∧ ∀ j, j < L → (mm_up (mm_up (mm_up T L a) (L + 1) b) (L + 1 + 1) c) j = T j := by
  refine ⟨?_, ?_, ?_, fun j hj => ?_⟩ <;> repeat (first | rw [mm_up_s] | rw [mm_up_n _ _ (by omega)])
theorem up6 (T : Nat → Int32) (L : Nat) (a b c d e f : Int32) : ∀ U, U = mm_up (mm_up (mm_up (mm_up (mm_up (mm_up T L a) (L + 1) b) (L + 1 + 1) c) (L + 1 + 1 + 1) d) (L + 1 + 1 + 1 + 1) e) (L + 1 + 1 + 1 + 1 + 1) f → U L = a ∧ U (L + 1) = b ∧ U (L + 1 + 1) = c ∧ U (L + 1 + 1 + 1) = d ∧ U (L + 1 + 1 + 1 + 1) = e ∧ U (L + 1 + 1 + 1 + 1 + 1) = f ∧ ∀ j, j < L → U j = T j := by
  intro U hU
  rw [hU]
  refine ⟨?_, ?_, ?_, ?_, ?_, ?_, fun j hj => ?_⟩ <;> repeat (first | rw [mm_up_s] | rw [mm_up_n _ _ (by omega)])
theorem G9_c {k y : Nat} {w : Nat × (Nat → Int32)} (h : G9 k w) : G9 (k + 1) (tc9 y w) := by
  have hl := tc_l y w
  by_cases c3 : y % 5 < 3
  · have ew : tc9 y w = tw9 (ap9 (tw9 (ap9 w 112) (y % 15)) 48) (1 + y / 3 % 99) := if_pos c3
    obtain ⟨u0, u1, u2, u3, u4, u5, u6⟩ := up6 w.2 w.1 (nI 112) (nI (48 + y % 15 / 10)) (nI (48 + y % 15 % 10)) (nI 48) (nI (48 + (1 + y / 3 % 99) / 10)) (nI (48 + (1 + y / 3 % 99) % 10)) (tc9 y w).2 (by rw [ew]; rfl)
    have el : (tc9 y w).1 = w.1 + 6 := by rw [ew]; rfl
    refine G9_st h hl.1 u6 fun L T h1 h2 => ?_
    rw [el] at h1 h2
    have t0 : T w.1 = nI 112 := by rw [h2 _ (by omega), u0]
    refine ⟨pv_p h1 t0 (a := y % 15 / 10) (by rw [h2 _ (by omega)]; exact u1) (by omega) (b := y % 15 % 10) (by rw [h2 _ (by omega)]; exact u2) (by omega) (by rw [h2 _ (by omega)]; exact u3) (d := (1 + y / 3 % 99) / 10) (by rw [h2 _ (by omega)]; exact u4) (by omega) (e := (1 + y / 3 % 99) % 10) (by rw [h2 _ (by omega)]; exact u5) (by omega) (by omega), ?_⟩
    rw [t0, el]
    rfl
  · by_cases c4 : y % 5 = 3
    · have ew : tc9 y w = tw9 (ap9 w 114) (y / 5 % 15) := by unfold tc9; rw [if_neg c3, if_pos c4]
      obtain ⟨u0, u1, u2, u6⟩ := up3 w.2 w.1 (nI 114) (nI (48 + y / 5 % 15 / 10)) (nI (48 + y / 5 % 15 % 10))
      have el : (tc9 y w).1 = w.1 + 3 := by rw [ew]; rfl
      have e2 : (tc9 y w).2 = mm_up (mm_up (mm_up w.2 w.1 (nI 114)) (w.1 + 1) (nI (48 + y / 5 % 15 / 10))) (w.1 + 1 + 1) (nI (48 + y / 5 % 15 % 10)) := by rw [ew]; rfl
      rw [← e2] at u0 u1 u2 u6
      refine G9_st h hl.1 u6 fun L T h1 h2 => ?_
      rw [el] at h1 h2
      have t0 : T w.1 = nI 114 := by rw [h2 _ (by omega), u0]
      refine ⟨pv_r h1 t0 (a := y / 5 % 15 / 10) (by rw [h2 _ (by omega)]; exact u1) (by omega) (b := y / 5 % 15 % 10) (by rw [h2 _ (by omega)]; exact u2) (by omega), ?_⟩
      rw [t0, el]
      rfl
    · have ew : tc9 y w = tw9 (ap9 w 116) (1 + y / 5 % 9) := by unfold tc9; rw [if_neg c3, if_neg c4]
      obtain ⟨u0, u1, u2, u6⟩ := up3 w.2 w.1 (nI 116) (nI (48 + (1 + y / 5 % 9) / 10)) (nI (48 + (1 + y / 5 % 9) % 10))
      have el : (tc9 y w).1 = w.1 + 3 := by rw [ew]; rfl
      have e2 : (tc9 y w).2 = mm_up (mm_up (mm_up w.2 w.1 (nI 116)) (w.1 + 1) (nI (48 + (1 + y / 5 % 9) / 10))) (w.1 + 1 + 1) (nI (48 + (1 + y / 5 % 9) % 10)) := by rw [ew]; rfl
      rw [← e2] at u0 u1 u2 u6
      refine G9_st h hl.1 u6 fun L T h1 h2 => ?_
      rw [el] at h1 h2
      have t0 : T w.1 = nI 116 := by rw [h2 _ (by omega), u0]
      refine ⟨pv_t h1 t0 (by rw [h2 _ (by omega), u1, show (1 + y / 5 % 9) / 10 = 0 by omega]) (b := (1 + y / 5 % 9) % 10) (by rw [h2 _ (by omega)]; exact u2) (by omega) (by omega), ?_⟩
      rw [t0, el]
      rfl
theorem tl_l (X N n : Nat) : ∀ w : Nat × (Nat → Int32), w.1 ≤ (tl9 X N n w).1 ∧ (tl9 X N n w).1 ≤ w.1 + 6 * n := by
  induction n with
  | zero => intro w; exact ⟨Nat.le_refl _, Nat.le_refl _⟩
  | succ n ih =>
    intro w
    have h1 := tc_l (X / 2 ^ (N - (n + 1))) w
    have h2 := ih (tc9 (X / 2 ^ (N - (n + 1))) w)
    show w.1 ≤ (tl9 X N n (tc9 (X / 2 ^ (N - (n + 1))) w)).1 ∧ (tl9 X N n (tc9 (X / 2 ^ (N - (n + 1))) w)).1 ≤ w.1 + 6 * (n + 1)
    omega
theorem G9_l (X N n : Nat) : ∀ {k : Nat} {w : Nat × (Nat → Int32)}, G9 k w → G9 (k + n) (tl9 X N n w) := by
  induction n with
  | zero => intro k w h; exact h
  | succ n ih =>
    intro k w h
    have := ih (G9_c (y := X / 2 ^ (N - (n + 1))) h)
    rw [show k + 1 + n = k + (n + 1) by omega] at this
    exact this
theorem ap_0 (w : Nat × (Nat → Int32)) (c : Nat) (h : 0 < w.1) : (ap9 w c).2 0 = w.2 0 := mm_up_n _ _ (by omega)
theorem tc_0 (y : Nat) (w : Nat × (Nat → Int32)) (h : 0 < w.1) : (tc9 y w).2 0 = w.2 0 := by
  unfold tc9 tw9
  split
  · repeat (first | rw [ap_0 _ _ h] | rw [ap_0 _ _ (Nat.succ_pos _)])
  · split <;> repeat (first | rw [ap_0 _ _ h] | rw [ap_0 _ _ (Nat.succ_pos _)])
theorem tl_0 (X N n : Nat) : ∀ w : Nat × (Nat → Int32), 0 < w.1 → (tl9 X N n w).2 0 = w.2 0 := by
  induction n with
  | zero => intro w _; rfl
  | succ n ih =>
    intro w h
    have h1 := tc_l (X / 2 ^ (N - (n + 1))) w
    show (tl9 X N n (tc9 (X / 2 ^ (N - (n + 1))) w)).2 0 = _
    rw [ih _ (by omega), tc_0 _ _ h]
theorem te_ok (X : Nat) (T : Nat → Int32) : (te9 X T).1 ≤ 60 ∧ pe_err (te9 X T).2 (te9 X T).1 = -1 := by
  have g0 : G9 0 (ap9 (0, T) 86) := fun L U _ _ n => rfl
  have g1 := G9_l X (4 + X % 5) (4 + X % 5) g0
  have l1 := tl_l X (4 + X % 5) (4 + X % 5) (ap9 (0, T) 86)
  have z1 := tl_0 X (4 + X % 5) (4 + X % 5) (ap9 (0, T) 86) (by show 0 < 0 + 1; omega)
  have z0 : (ap9 (0, T) 86).2 0 = 86 := mm_up_s T 0 (nI 86)
  have l0 : (ap9 (0, T) 86).1 = 1 := rfl
  rw [z0] at z1
  rw [l0] at l1
  unfold te9
  generalize tl9 X (4 + X % 5) (4 + X % 5) (ap9 (0, T) 86) = w at g1 l1 z1
  obtain ⟨k, w1, hk, g2, l2, z2, ew⟩ : ∃ (k : Nat) (w1 : Nat × (Nat → Int32)), k ≤ 10 ∧ G9 k w1 ∧ (1 ≤ w1.1 ∧ w1.1 ≤ 51) ∧ w1.2 0 = 86 ∧ tf9 X w = ap9 (ap9 w1 115) (48 + X % 4) := by
    by_cases c : X % 3 = 0
    · refine ⟨0 + (4 + X % 5) + 1, ap9 w 100, by omega, G9_st g1 (Nat.lt_succ_self _) (fun j hj => mm_up_n _ _ (by omega)) fun L U h1 h2 => ?_, ?_, ?_, by unfold tf9; rw [if_pos c]⟩
      · have t0 : U w.1 = nI 100 := by
          rw [h2 w.1 (Nat.lt_succ_self _)]
          exact mm_up_s _ _ _
        refine ⟨pv_d t0, ?_⟩
        rw [t0]
        rfl
      · show 1 ≤ w.1 + 1 ∧ w.1 + 1 ≤ 51
        omega
      · show mm_up w.2 w.1 (nI 100) 0 = 86
        rw [mm_up_n _ _ (by omega), z1]
    · exact ⟨_, w, by omega, g1, by omega, z1, by unfold tf9; rw [if_neg c]⟩
  rw [ew]
  have e1 : (ap9 (ap9 w1 115) (48 + X % 4)).1 = w1.1 + 2 := rfl
  have e2 : (ap9 (ap9 w1 115) (48 + X % 4)).2 = mm_up (mm_up w1.2 w1.1 (nI 115)) (w1.1 + 1) (nI (48 + X % 4)) := rfl
  have g3 : G9 (k + 1) (ap9 (ap9 w1 115) (48 + X % 4)) := by
    refine G9_st g2 (by rw [e1]; omega) (fun j hj => by rw [e2, mm_up_n _ _ (by omega), mm_up_n _ _ (by omega)]) fun L U h1 h2 => ?_
    rw [e1] at h1 h2
    have t0 : U w1.1 = nI 115 := by rw [h2 _ (by omega), e2, mm_up_n _ _ (by omega), mm_up_s]
    refine ⟨pv_s h1 t0 (b := X % 4) (by rw [h2 _ (by omega), e2, mm_up_s]) (by omega), ?_⟩
    rw [t0, e1]
    rfl
  refine ⟨by rw [e1]; omega, ?_⟩
  have g4 := g3 (ap9 (ap9 w1 115) (48 + X % 4)).1 (ap9 (ap9 w1 115) (48 + X % 4)).2 (Nat.le_refl _) (fun _ _ => rfl) (120 - (k + 1))
  rw [show 120 - (k + 1) + (k + 1) = 120 by omega] at g4
  unfold pe_err
  rw [if_pos ⟨by rw [e1]; omega, by rw [e2, mm_up_n _ _ (by omega), mm_up_n _ _ (by omega), z2]⟩, g4]
  cases 120 - (k + 1) with
  | zero => rfl
  | succ n =>
    show (if (ap9 (ap9 w1 115) (48 + X % 4)).1 < (ap9 (ap9 w1 115) (48 + X % 4)).1 then _ else (-1 : Int32)) = -1
    rw [if_neg (Nat.lt_irrefl _)]
end TX9
