/-! two objects: the one at 0, the other at 206 -/
section TW9
variable {sc : Nat × (Nat → Int32)} {o : Int64} {Q : mm_Q} {B0 m m' k mid t0 t : Nat} {I : Nat → Nat → Int32} {A A' Aq Aq' : A46} {a : Value} {args : List Value}
def WW (B0 t0 m : Nat) (I : Nat → Nat → Int32) (t : Nat) (A Aq : A46) : Prop := ∃ nx nq : Nat, OB (B0 + 1000 * m) I nx A ∧ OB (B0 + 1000 * m) (sw_I I) nq Aq ∧ t0 ≤ t ∧ t ≤ t0 + m
theorem mm_fixB9 : mm_is 206 5 := by
  simp only [mm_is]; decide +kernel
theorem sw_lo {x : Nat} (h : x < 206) : sw_p x = x + 206 := by unfold sw_p; rw [if_pos h]
theorem sw_hi {x : Nat} (h : x < 206) : sw_p (x + 206) = x := by rw [← sw_lo h, sw_pp]
theorem WW_m (h : WW B0 t0 m I t A Aq) (hm : m ≤ m') : WW B0 t0 m' I t A Aq := by
  obtain ⟨nx, nq, h1, h2, h3, h4⟩ := h
  exact ⟨nx, nq, OB_B h1 (by omega), OB_B h2 (by omega), h3, by omega⟩
theorem W_p (hd : DO k mid args A a A') (hs : WW B0 t0 m I t A Aq) (hm : m + k ≤ m') (hB : B0 + 1000 * m' < 2 ^ 29) (hK : ∀ I' t', WW B0 t0 (m + k) I' t' A' Aq → Q (.inl (some a)) (hp sc I' o t')) : mm_C (mm_entry mid (.ref 0 :: args) (hp sc I o t)) Q := by
  obtain ⟨nx, nq, h1, h2, h3, h4⟩ := hs
  refine hd sc _ I nx o t Q h1 (by omega) fun I' nx' t' g1 g2 g3 g4 => hK I' t' ⟨nx', nq, ?_, ?_, by omega, by omega⟩
  · rw [show B0 + 1000 * (m + k) = B0 + 1000 * m + 1000 * k by omega]; exact g1
  · refine OB_pl h2 (by omega) fun x x1 _ => ?_
    show I' (sw_p x) = I (sw_p x)
    rw [sw_lo x1, g2 _ (by omega)]
theorem W_q (hd : DO k mid args A a A') (h0 : sw_s args = args) (ha : sw_v a = a) (hs : WW B0 t0 m I t Aq A) (hm : m + k ≤ m') (hB : B0 + 1000 * m' < 2 ^ 29) (hK : ∀ I' t', WW B0 t0 (m + k) I' t' Aq A' → Q (.inl (some a)) (hp sc I' o t')) : mm_C (mm_entry mid (.ref 206 :: args) (hp sc I o t)) Q := by
  obtain ⟨nx, nq, h1, h2, h3, h4⟩ := hs
  refine sw_run ?_
  have e1 : sw_s (.ref 206 :: args) = .ref 0 :: args := by
    show sw_v (.ref 206) :: sw_s args = _
    rw [h0]
    rfl
  rw [e1]
  refine hd sc _ (sw_I I) nq o t _ h2 (by omega) fun I' nx' t' g1 g2 g3 g4 => ?_
  show Q (.inl (some (sw_v a))) (sw_h (hp sc I' o t'))
  rw [ha, sw_hp]
  refine hK (sw_I I') t' ⟨nx, nx', ?_, ?_, by omega, by omega⟩
  · refine OB_pl h1 (by omega) fun x x1 _ => ?_
    show I' (sw_p x) = I x
    rw [sw_lo x1, g2 _ (by omega)]
    show I (sw_p (x + 206)) = I x
    rw [sw_hi x1]
  · rw [sw_II, show B0 + 1000 * (m + k) = B0 + 1000 * m + 1000 * k by omega]; exact g1
/-! questions -/
theorem D0 (h : ∀ (sc : Nat × (Nat → Int32)) (B : Nat) (I : Nat → Nat → Int32) (nx : Nat) (o : Int64) (t : Nat) (Q : mm_Q), OB B I nx A → (mm_C (mm_entry mid (.ref 0 :: args) (hp sc I o t)) Q ↔ Q (.inl (some a)) (hp sc I o t))) : DO 0 mid args A a A :=
  fun sc B I nx o t Q hO _ hK => (h sc B I nx o t Q hO).mpr (hK I nx t hO (fun _ _ => rfl) (Nat.le_refl _) (Nat.le_refl _))
theorem D_now : DO 0 131 [] A (.long (nowR A.1)) A := D0 fun _ _ _ _ _ _ _ h => e131 h.1.1
theorem D_err : DO 0 58 [] A (.int (pe_err A.2.2.2.2.2.2 A.2.2.2.2.2.1)) A := D0 fun _ _ _ _ _ _ _ h => e58 h.2.2.2
theorem D_quiet : DO 0 96 [] A (.int (mo_quiet A.1)) A := D0 fun _ _ _ _ _ _ _ h => g96 h.1.1
theorem D_how {k : Nat} (hk : k < 60) : DO 0 124 [.int (nI k)] A (.long (mo_how A.1 k).toInt64) A := D0 fun _ _ _ _ _ _ _ h => e124 h.1.1 hk
theorem D_loud {n : Nat} (h1 : 1 ≤ n) (h2 : n ≤ 200) : DO 1 127 [.int (nI n)] A (.long (mo_look n A.1 0).1.toInt64) A := by
  obtain ⟨r, c, P, u, S, L, T⟩ := A
  exact DO_loudest h1 h2
theorem D_sim {c1 c2 : Nat} (hb : HB97 c1 c2) {n : Nat} (h1 : 1 ≤ n) (h2 : n ≤ 60) (x : Int64) : DO 1 128 [.long x, .int (nI n)] A (.long (mo_simul c1 c2 n A.1 x).toInt64) A := by
  obtain ⟨r, c, P, u, S, L, T⟩ := A
  exact DO_sim hb h1 h2 x
set_option maxHeartbeats 4000000 in
set_option maxRecDepth 20000 in
theorem alike_run {c1 c2 X : Nat} (hb : HB97 c1 c2) (hX : X < 2 ^ 31) (hs : WW B0 t0 m I t A A) (hB : B0 + 1000 * (m + 4) < 2 ^ 29) (hK : ∀ I' t', WW B0 t0 (m + 4) I' t' A A → Q (.inl (some (.int 1))) (hp sc I' o t')) : mm_C (mm_entry 136 [.ref 0, .ref 206, .int (nI X)] (hp sc I o t)) Q := by
  have n1 : nI X - nI X / 60 * 60 = nI (X % 60) := im (d := 60) hX (by omega) (by omega)
  have n2 : (1 : Int32) + nI (X % 60) = nI (1 + X % 60) := nI_add 1 _
  simp +decide only [mM_136.1, mM_136.2.1, mM_136.2.2.1, mM_136.2.2.2, cR, cRf, cH, mm_fixA, mm_fixB9, ↓reduceIte]
  refine W_p D_now hs (Nat.le_refl _) (by omega) fun I1 t1 h1 => ?_
  simp +decide only [mM_136.1, mM_136.2.1, mM_136.2.2.1, mM_136.2.2.2, cR, cRf, cH, mm_fixA, mm_fixB9, ↓reduceIte]
  refine W_q D_now rfl rfl h1 (Nat.le_refl _) (by omega) fun I2 t2 h2 => ?_
  simp +decide only [mM_136.1, mM_136.2.1, mM_136.2.2.1, mM_136.2.2.2, cR, cRf, cH, mm_fixA, mm_fixB9, ↓kL, kI, kLi, kM, kN9, kLn, kLj, kLl, bJ_1, bJ_0, i64_toInt32, eq_self, ↓reduceIte]
  refine W_p D_err h2 (Nat.le_refl _) (by omega) fun I3 t3 h3 => ?_
  simp +decide only [mM_136.1, mM_136.2.1, mM_136.2.2.1, mM_136.2.2.2, cR, cRf, cH, mm_fixA, mm_fixB9, ↓reduceIte]
  refine W_q D_err rfl rfl h3 (Nat.le_refl _) (by omega) fun I4 t4 h4 => ?_
  simp +decide only [mM_136.1, mM_136.2.1, mM_136.2.2.1, mM_136.2.2.2, cR, cRf, cH, mm_fixA, mm_fixB9, eq_self, ↓reduceIte]
  refine W_p D_quiet h4 (Nat.le_refl _) (by omega) fun I5 t5 h5 => ?_
  simp +decide only [mM_136.1, mM_136.2.1, mM_136.2.2.1, mM_136.2.2.2, cR, cRf, cH, mm_fixA, mm_fixB9, ↓reduceIte]
  refine W_q D_quiet rfl rfl h5 (Nat.le_refl _) (by omega) fun I6 t6 h6 => ?_
  simp +decide only [mM_136.1, mM_136.2.1, mM_136.2.2.1, mM_136.2.2.2, cR, cRf, cH, mm_fixA, mm_fixB9, n1, n2, eq_self, ↓reduceIte]
  refine W_p (D_loud (n := 1 + X % 60) (by omega) (by omega)) h6 (Nat.le_refl _) (by omega) fun I7 t7 h7 => ?_
  simp +decide only [mM_136.1, mM_136.2.1, mM_136.2.2.1, mM_136.2.2.2, cR, cRf, cH, mm_fixA, mm_fixB9, n1, n2, ↓reduceIte]
  refine W_q (D_loud (n := 1 + X % 60) (by omega) (by omega)) rfl rfl h7 (Nat.le_refl _) (by omega) fun I8 t8 h8 => ?_
  simp +decide only [mM_136.1, mM_136.2.1, mM_136.2.2.1, mM_136.2.2.2, cR, cRf, cH, mm_fixA, mm_fixB9, n1, ↓kL, kI, kLi, kM, kN9, kLn, kLj, kLl, bJ_1, bJ_0, i64_toInt32, eq_self, ↓reduceIte]
  refine W_p (D_how (k := X % 60) (by omega)) h8 (Nat.le_refl _) (by omega) fun I9 t9 h9 => ?_
  simp +decide only [mM_136.1, mM_136.2.1, mM_136.2.2.1, mM_136.2.2.2, cR, cRf, cH, mm_fixA, mm_fixB9, n1, ↓reduceIte]
  refine W_q (D_how (k := X % 60) (by omega)) rfl rfl h9 (Nat.le_refl _) (by omega) fun I10 t10 h10 => ?_
  simp +decide only [mM_136.1, mM_136.2.1, mM_136.2.2.1, mM_136.2.2.2, cR, cRf, cH, mm_fixA, mm_fixB9, ↓kL, kI, kLi, kM, kN9, kLn, kLj, kLl, bJ_1, bJ_0, i64_toInt32, eq_self, ↓reduceIte]
  refine W_p (D_sim (n := 9) hb (by omega) (by omega) _) h10 (Nat.le_refl _) (by omega) fun I11 t11 h11 => ?_
  simp +decide only [mM_136.1, mM_136.2.1, mM_136.2.2.1, mM_136.2.2.2, cR, cRf, cH, mm_fixA, mm_fixB9, ↓reduceIte]
  refine W_q (D_sim (n := 9) hb (by omega) (by omega) _) rfl rfl h11 (Nat.le_refl _) (by omega) fun I12 t12 h12 => ?_
  simp +decide only [mM_136.1, mM_136.2.1, mM_136.2.2.1, mM_136.2.2.2, cR, cRf, cH, mm_fixA, mm_fixB9, ↓kL, kI, kLi, kM, kN9, kLn, kLj, kLl, bJ_1, bJ_0, i64_toInt32, eq_self, ↓reduceIte]
  exact hK _ _ (WW_m h12 (by omega))
end TW9
