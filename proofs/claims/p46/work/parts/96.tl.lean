/-! a piece told as a text: the loop, the end -/
section TL9
variable {sc : Nat × (Nat → Int32)} {o : Int64} {Q : mm_Q} {B0 m t0 : Nat} {I0 I : Nat → Nat → Int32} {t nx c : Nat} {r : Nat → Int32} {P S : Nat → Nat → Int32} {u T : Nat → Int32} {L : Nat}
theorem shr_d {n k : Nat} (hn : n < 2 ^ 31) (hk : k < 32) : nI n >>> (nI k &&& 31) = nI (n / 2 ^ k) := by
  have h0 : ((nI k &&& 31).toBitVec.smod 32).toNat = k := by
    have : ∀ k : Nat, k < 32 → ((nI k &&& 31).toBitVec.smod 32).toNat = k := by decide +kernel
    exact this k hk
  apply Int32.toInt_inj.mp
  have h1 : (nI n >>> (nI k &&& 31)).toInt = (BitVec.sshiftRight (nI n).toBitVec ((nI k &&& 31).toBitVec.smod 32).toNat).toInt := rfl
  rw [h1, h0, BitVec.toInt_sshiftRight]
  have h2 : (nI n).toBitVec.toInt = (n : Int) := nI_toInt hn
  rw [h2, nI_toInt (Nat.lt_of_le_of_lt (Nat.div_le_self _ _) hn), Int.shiftRight_eq_div_pow]
  omega
set_option maxHeartbeats 4000000 in
set_option maxRecDepth 20000 in
theorem t138_l {X N : Nat} (hX : X < 2 ^ 31) (hN : N = 4 + X % 5) (n : Nat) : n ≤ N → ∀ {m t nx : Nat} {I : Nat → Nat → Int32} {w : Nat × (Nat → Int32)} {x4 x5 : Option Value}, w.1 + 6 * n ≤ 119 → AT B0 I0 t0 m I t nx (r, c, P, u, S, w.1, w.2) → B0 + 1000 * (m + 6 * n) < 2 ^ 29 → (∀ (I' : Nat → Nat → Int32) (t' nx' : Nat) (y4 y5 : Option Value), AT B0 I0 t0 (m + 6 * n) I' t' nx' (r, c, P, u, S, (tl9 X N n w).1, (tl9 X N n w).2) → mm_C (138, mm_blk 138 10, [some (.ref 0), some (.int (nI X)), some (.int 1), some (.int (nI N)), y4, y5], [], (hp sc I' o t')) Q) → mm_C (138, mm_blk 138 3, [some (.ref 0), some (.int (nI X)), some (.int 1), some (.int (nI (N - n))), x4, x5], [], (hp sc I o t)) Q := by
  induction n with
  | zero =>
    intro _ m t nx I w x4 x5 _ hs hB hK
    have n1 : nI X - nI X / 5 * 5 = nI (X % 5) := im (d := 5) hX (by omega) (by omega)
    have n2 : (4 : Int32) + nI (X % 5) = nI N := by rw [hN]; exact nI_add 4 _
    have n3 : (nI N < nI N) = False := eq_false (nI_nlt (Nat.le_refl _) (by omega))
    rw [mM_138.2.2.2.2.1, Nat.sub_zero]
    simp +decide only [cR, cRf, cH, n1, n2, n3, ↓reduceIte]
    exact hK _ _ nx _ _ hs
  | succ n ih =>
    intro hn m t nx I w x4 x5 hL hs hB hK
    have hB2 : B0 + 1000 * (m + 6) < 2 ^ 29 := by clear hK hs ih; omega
    have hL2 : w.1 + 6 ≤ 119 := by omega
    have hkN : N - (n + 1) < N := by omega
    have e31 : N - (n + 1) < 32 := by omega
    have e1 : N - (n + 1) + 1 = N - n := by omega
    have hy : X / 2 ^ (N - (n + 1)) < 2 ^ 31 := Nat.lt_of_le_of_lt (Nat.div_le_self _ _) hX
    have hyk := shr_d hX e31
    have hl := tc_l (X / 2 ^ (N - (n + 1))) w
    have hK2 : ∀ (I' : Nat → Nat → Int32) (t' nx' : Nat) (y4 y5 : Option Value), AT B0 I0 t0 (m + 6) I' t' nx' (r, c, P, u, S, (tc9 (X / 2 ^ (N - (n + 1))) w).1, (tc9 (X / 2 ^ (N - (n + 1))) w).2) → mm_C (138, mm_blk 138 3, [some (.ref 0), some (.int (nI X)), some (.int 1), some (.int (nI (N - (n + 1) + 1))), y4, y5], [], (hp sc I' o t')) Q := by
      intro I' t' nx' y4 y5 h'
      rw [e1]
      refine ih (by omega) (by omega) h' (by omega) fun I2 t2 nx2 z4 z5 h2 => hK I2 t2 nx2 z4 z5 ?_
      rw [show m + 6 + 6 * n = m + 6 * (n + 1) by omega] at h2
      exact h2
    clear hK ih
    by_cases c1 : X / 2 ^ (N - (n + 1)) % 5 < 3
    · exact t138_p hX hN hkN hy hyk c1 hL2 hs hB2 hK2
    · by_cases c2 : X / 2 ^ (N - (n + 1)) % 5 = 3
      · exact t138_r hX hN hkN hy hyk c2 hL2 hs hB2 hK2
      · exact t138_t hX hN hkN hy hyk (by omega) hL2 hs hB2 hK2
set_option maxHeartbeats 4000000 in
set_option maxRecDepth 20000 in
theorem t138_11 {X N : Nat} {w : Nat × (Nat → Int32)} {x4 x5 : Option Value} (hX : X < 2 ^ 31) (hL : w.1 ≤ 100) (hv : pe_err (ap9 (ap9 w 115) (48 + X % 4)).2 (ap9 (ap9 w 115) (48 + X % 4)).1 = -1) (hs : AT B0 I0 t0 m I t nx (r, c, P, u, S, w.1, w.2)) (hB : B0 + 1000 * (m + 2) < 2 ^ 29) (hK : ∀ (I' : Nat → Nat → Int32) (t' nx' : Nat), AT B0 I0 t0 (m + 2) I' t' nx' (r, c, P, u, S, (ap9 (ap9 w 115) (48 + X % 4)).1, (ap9 (ap9 w 115) (48 + X % 4)).2) → Q (.inl (some (.int 1))) (hp sc I' o t')) : mm_C (138, mm_blk 138 11, [some (.ref 0), some (.int (nI X)), some (.int 1), some (.int (nI N)), x4, x5], [], (hp sc I o t)) Q := by
  have n1 : nI X - nI X / 4 * 4 = nI (X % 4) := im (d := 4) hX (by omega) (by omega)
  have n2 : (48 : Int32) + nI (X % 4) = nI (48 + X % 4) := nI_add 48 _
  rw [mM_138.2.2.2.2.2.2.2.2.2.2.2.2.1]
  simp +decide only [mM_138.1, mM_138.2.1, mM_138.2.2.1, mM_138.2.2.2.1, mM_138.2.2.2.2.2.1, mM_138.2.2.2.2.2.2.1, mM_138.2.2.2.2.2.2.2.1, mM_138.2.2.2.2.2.2.2.2.1, mM_138.2.2.2.2.2.2.2.2.2.1, mM_138.2.2.2.2.2.2.2.2.2.2.1, mM_138.2.2.2.2.2.2.2.2.2.2.2.2.1, mM_138.2.2.2.2.2.2.2.2.2.2.2.2.2.1, mM_138.2.2.2.2.2.2.2.2.2.2.2.2.2.2, cR, cRf, cH, mm_fixA, ↓reduceIte]
  refine DO_st (DO_append (L := (w).1) (T := (w).2) (ch := 115) (by omega) (by omega)) rfl hs (by omega) fun I1 t1 nx1 h1 => ?_
  have z1 : ((0 : Int32) < nI ((w).1 + 1)) = True := eq_true (nI_lt (a := 0) (by omega) (by omega))
  simp +decide only [mM_138.1, mM_138.2.1, mM_138.2.2.1, mM_138.2.2.2.1, mM_138.2.2.2.2.2.1, mM_138.2.2.2.2.2.2.1, mM_138.2.2.2.2.2.2.2.1, mM_138.2.2.2.2.2.2.2.2.1, mM_138.2.2.2.2.2.2.2.2.2.1, mM_138.2.2.2.2.2.2.2.2.2.2.1, mM_138.2.2.2.2.2.2.2.2.2.2.2.2.1, mM_138.2.2.2.2.2.2.2.2.2.2.2.2.2.1, mM_138.2.2.2.2.2.2.2.2.2.2.2.2.2.2, cR, cRf, cH, mm_fixA, z1, n1, n2, ↓kL, kI, kLi, kM, kN9, kLn, kLj, kLl, bJ_1, bJ_0, i64_toInt32, eq_self, ↓reduceIte]
  have w1 : (ap9 w 115).1 = w.1 + 1 := rfl
  refine DO_st (DO_append (L := (ap9 w 115).1) (T := (ap9 w 115).2) (ch := 48 + X % 4) (by omega) (by omega)) rfl h1 (by omega) fun I2 t2 nx2 h2 => ?_
  have z2 : ((0 : Int32) < nI ((ap9 w 115).1 + 1)) = True := eq_true (nI_lt (a := 0) (by omega) (by omega))
  have h2 : AT B0 I0 t0 (m + 1 + 1) I2 t2 nx2 (r, c, P, u, S, (ap9 (ap9 w 115) (48 + X % 4)).1, (ap9 (ap9 w 115) (48 + X % 4)).2) := h2
  have h58 := fun (Q : mm_Q) => e58 (sc := sc) (o := o) (t := t2) (Q := Q) h2.1.2.2.2
  rw [hv] at h58
  simp +decide only [mM_138.1, mM_138.2.1, mM_138.2.2.1, mM_138.2.2.2.1, mM_138.2.2.2.2.2.1, mM_138.2.2.2.2.2.2.1, mM_138.2.2.2.2.2.2.2.1, mM_138.2.2.2.2.2.2.2.2.1, mM_138.2.2.2.2.2.2.2.2.2.1, mM_138.2.2.2.2.2.2.2.2.2.2.1, mM_138.2.2.2.2.2.2.2.2.2.2.2.2.1, mM_138.2.2.2.2.2.2.2.2.2.2.2.2.2.1, mM_138.2.2.2.2.2.2.2.2.2.2.2.2.2.2, cR, cRf, cH, mm_fixA, z2, h58, ↓kL, kI, kLi, kM, kN9, kLn, kLj, kLl, bJ_1, bJ_0, i64_toInt32, eq_self, ↓reduceIte]
  exact hK _ _ nx2 h2
set_option maxHeartbeats 4000000 in
set_option maxRecDepth 20000 in
theorem t138_10 {X N : Nat} {w : Nat × (Nat → Int32)} {x4 x5 : Option Value} (hX : X < 2 ^ 31) (hL : w.1 ≤ 99) (hv : pe_err (tf9 X w).2 (tf9 X w).1 = -1) (hs : AT B0 I0 t0 m I t nx (r, c, P, u, S, w.1, w.2)) (hB : B0 + 1000 * (m + 3) < 2 ^ 29) (hK : ∀ (I' : Nat → Nat → Int32) (t' nx' : Nat), AT B0 I0 t0 (m + 3) I' t' nx' (r, c, P, u, S, (tf9 X w).1, (tf9 X w).2) → Q (.inl (some (.int 1))) (hp sc I' o t')) : mm_C (138, mm_blk 138 10, [some (.ref 0), some (.int (nI X)), some (.int 1), some (.int (nI N)), x4, x5], [], (hp sc I o t)) Q := by
  have n1 : nI X - nI X / 3 * 3 = nI (X % 3) := im (d := 3) hX (by omega) (by omega)
  rw [mM_138.2.2.2.2.2.2.2.2.2.2.2.1]
  by_cases c0 : X % 3 = 0
  · have n2 : ((0 : Int32) < nI (X % 3)) = False := by rw [c0]; decide
    have ew : tf9 X w = ap9 (ap9 (ap9 w 100) 115) (48 + X % 4) := by unfold tf9; rw [if_pos c0]
    rw [ew] at hv hK
    simp +decide only [mM_138.1, mM_138.2.1, mM_138.2.2.1, mM_138.2.2.2.1, mM_138.2.2.2.2.2.1, mM_138.2.2.2.2.2.2.1, mM_138.2.2.2.2.2.2.2.1, mM_138.2.2.2.2.2.2.2.2.1, mM_138.2.2.2.2.2.2.2.2.2.1, mM_138.2.2.2.2.2.2.2.2.2.2.1, mM_138.2.2.2.2.2.2.2.2.2.2.2.2.2.1, mM_138.2.2.2.2.2.2.2.2.2.2.2.2.2.2, cR, cRf, cH, mm_fixA, n1, n2, ↓reduceIte]
    refine DO_st (DO_append (L := (w).1) (T := (w).2) (ch := 100) (by omega) (by omega)) rfl hs (by omega) fun I1 t1 nx1 h1 => ?_
    have z1 : ((0 : Int32) < nI ((w).1 + 1)) = True := eq_true (nI_lt (a := 0) (by omega) (by omega))
    simp +decide only [mM_138.1, mM_138.2.1, mM_138.2.2.1, mM_138.2.2.2.1, mM_138.2.2.2.2.2.1, mM_138.2.2.2.2.2.2.1, mM_138.2.2.2.2.2.2.2.1, mM_138.2.2.2.2.2.2.2.2.1, mM_138.2.2.2.2.2.2.2.2.2.1, mM_138.2.2.2.2.2.2.2.2.2.2.1, mM_138.2.2.2.2.2.2.2.2.2.2.2.2.2.1, mM_138.2.2.2.2.2.2.2.2.2.2.2.2.2.2, cR, cRf, cH, mm_fixA, z1, ↓kL, kI, kLi, kM, kN9, kLn, kLj, kLl, bJ_1, bJ_0, i64_toInt32, eq_self, ↓reduceIte]
    exact t138_11 (w := ap9 w 100) hX (by show w.1 + 1 ≤ 100; omega) hv h1 (by omega) fun I' t' nx' h' => hK I' t' nx' (AT_m h' (by omega))
  · have n2 : ((0 : Int32) < nI (X % 3)) = True := eq_true (nI_lt (a := 0) (by omega) (by omega))
    have ew : tf9 X w = ap9 (ap9 w 115) (48 + X % 4) := by unfold tf9; rw [if_neg c0]
    rw [ew] at hv hK
    simp +decide only [mM_138.1, mM_138.2.1, mM_138.2.2.1, mM_138.2.2.2.1, mM_138.2.2.2.2.2.1, mM_138.2.2.2.2.2.2.1, mM_138.2.2.2.2.2.2.2.1, mM_138.2.2.2.2.2.2.2.2.1, mM_138.2.2.2.2.2.2.2.2.2.1, mM_138.2.2.2.2.2.2.2.2.2.2.1, mM_138.2.2.2.2.2.2.2.2.2.2.2.2.2.1, mM_138.2.2.2.2.2.2.2.2.2.2.2.2.2.2, cR, cRf, cH, mm_fixA, n1, n2, ↓reduceIte]
    exact t138_11 (w := w) hX (by omega) hv hs (by omega) fun I' t' nx' h' => hK I' t' nx' (AT_m h' (by omega))
set_option maxHeartbeats 4000000 in
set_option maxRecDepth 20000 in
theorem DO_told {X : Nat} (hX : X < 2 ^ 31) : DO 60 138 [.int (nI X)] (r, c, P, u, S, L, T) (.int 1) (r, c, P, u, S, (te9 X T).1, (te9 X T).2) := by
  refine AT_do fun sc B I nx o t Q hs hB hQ => ?_
  have hL : L ≤ 120 := hs.1.2.2.2.1
  have hv := (te_ok X T).2
  have z0 : (nI L < 0) = False := eq_false (nI_pos (by omega))
  simp +decide only [mM_138.1, mM_138.2.1, mM_138.2.2.1, mM_138.2.2.2.1, mM_138.2.2.2.2.2.1, mM_138.2.2.2.2.2.2.1, mM_138.2.2.2.2.2.2.2.1, mM_138.2.2.2.2.2.2.2.2.1, mM_138.2.2.2.2.2.2.2.2.2.1, mM_138.2.2.2.2.2.2.2.2.2.2.1, mM_138.2.2.2.2.2.2.2.2.2.2.2.2.2.1, mM_138.2.2.2.2.2.2.2.2.2.2.2.2.2.2, cR, cRf, cH, mm_fixA, ↓reduceIte]
  refine DO_st DO_clear rfl hs (by omega) fun I0 t0 nx0 h0 => ?_
  simp +decide only [mM_138.1, mM_138.2.1, mM_138.2.2.1, mM_138.2.2.2.1, mM_138.2.2.2.2.2.1, mM_138.2.2.2.2.2.2.1, mM_138.2.2.2.2.2.2.2.1, mM_138.2.2.2.2.2.2.2.2.1, mM_138.2.2.2.2.2.2.2.2.2.1, mM_138.2.2.2.2.2.2.2.2.2.2.1, mM_138.2.2.2.2.2.2.2.2.2.2.2.2.2.1, mM_138.2.2.2.2.2.2.2.2.2.2.2.2.2.2, cR, cRf, cH, mm_fixA, z0, ↓reduceIte]
  refine DO_st (DO_append (L := 0) (T := T) (ch := 86) (by omega) (by omega)) rfl h0 (by omega) fun I1 t1 nx1 h1 => ?_
  have z1 : ((0 : Int32) < nI (0 + 1)) = True := by decide
  have k1 := t138_l (sc := sc) (o := o) (Q := Q) (w := ap9 (0, T) 86) (x4 := none) (x5 := none) hX rfl (4 + X % 5) (Nat.le_refl _) (by show 0 + 1 + 6 * (4 + X % 5) ≤ 119; omega) h1 (by omega)
  have e0 : nI (4 + X % 5 - (4 + X % 5)) = 0 := by rw [Nat.sub_self]; rfl
  rw [e0] at k1
  simp +decide only [mM_138.1, mM_138.2.1, mM_138.2.2.1, mM_138.2.2.2.1, mM_138.2.2.2.2.2.1, mM_138.2.2.2.2.2.2.1, mM_138.2.2.2.2.2.2.2.1, mM_138.2.2.2.2.2.2.2.2.1, mM_138.2.2.2.2.2.2.2.2.2.1, mM_138.2.2.2.2.2.2.2.2.2.2.1, mM_138.2.2.2.2.2.2.2.2.2.2.2.2.2.1, mM_138.2.2.2.2.2.2.2.2.2.2.2.2.2.2, cR, cRf, cH, mm_fixA, z1, ↓kL, kI, kLi, kM, kN9, kLn, kLj, kLl, bJ_1, bJ_0, i64_toInt32, eq_self, ↓reduceIte]
  refine k1 fun I2 t2 nx2 y4 y5 h2 => ?_
  have hl := (tl_l X (4 + X % 5) (4 + X % 5) (ap9 (0, T) 86)).2
  have l0 : (ap9 (0, T) 86).1 = 1 := rfl
  exact t138_10 hX (by omega) hv h2 (by omega) fun I' t' nx' h' => hQ I' t' nx' (AT_m h' (by omega))
end TL9
