/-! a piece told as a text: the run -/
section TR9
variable {sc : Nat × (Nat → Int32)} {o : Int64} {Q : mm_Q} {B0 m t0 : Nat} {I0 I : Nat → Nat → Int32} {t nx c : Nat} {r : Nat → Int32} {P S : Nat → Nat → Int32} {u T : Nat → Int32} {L : Nat}
set_option maxHeartbeats 4000000 in
set_option maxRecDepth 20000 in
theorem DO_two {v : Nat} {w : Nat × (Nat → Int32)} (hv : v < 100) (hL : w.1 + 2 ≤ 120) : DO 2 137 [.int (nI v)] (r, c, P, u, S, w.1, w.2) (.int 1) (r, c, P, u, S, (tw9 w v).1, (tw9 w v).2) := by
  refine AT_do fun sc B I nx o t Q hs hB hQ => ?_
  have m1 : nI v / 10 = nI (v / 10) := nJ_div (y := 10) (by omega) (by omega) (by omega)
  have m2 : nI v - nI v / 10 * 10 = nI (v % 10) := im (d := 10) (by omega) (by omega) (by omega)
  rw [m1] at m2
  have a1 : (48 : Int32) + nI (v / 10) = nI (48 + v / 10) := nI_add 48 _
  have a2 : (48 : Int32) + nI (v % 10) = nI (48 + v % 10) := nI_add 48 _
  simp +decide only [mM_137.1, mM_137.2.1, mM_137.2.2.1, mM_137.2.2.2, cR, cRf, cH, mm_fixA, m1, m2, a1, a2, ↓reduceIte]
  refine DO_st (DO_append (L := (w).1) (T := (w).2) (ch := 48 + v / 10) (by omega) (by omega)) rfl hs (by omega) fun I1 t1 nx1 h1 => ?_
  have z1 : ((0 : Int32) < nI ((w).1 + 1)) = True := eq_true (nI_lt (a := 0) (by omega) (by omega))
  simp +decide only [mM_137.1, mM_137.2.1, mM_137.2.2.1, mM_137.2.2.2, cR, cRf, cH, mm_fixA, z1, m1, m2, a1, a2, ↓kL, kI, kLi, kM, kN9, kLn, kLj, kLl, bJ_1, bJ_0, i64_toInt32, eq_self, ↓reduceIte]
  have hw : (ap9 w (48 + v / 10)).1 = w.1 + 1 := rfl
  refine DO_st (DO_append (L := (ap9 w (48 + v / 10)).1) (T := (ap9 w (48 + v / 10)).2) (ch := 48 + v % 10) (by omega) (by omega)) rfl h1 (by omega) fun I2 t2 nx2 h2 => ?_
  have z2 : ((0 : Int32) < nI ((ap9 w (48 + v / 10)).1 + 1)) = True := eq_true (nI_lt (a := 0) (by omega) (by omega))
  simp +decide only [mM_137.1, mM_137.2.1, mM_137.2.2.1, mM_137.2.2.2, cR, cRf, cH, mm_fixA, z2, ↓kL, kI, kLi, kM, kN9, kLn, kLj, kLl, bJ_1, bJ_0, i64_toInt32, eq_self, ↓reduceIte]
  exact hQ _ _ nx2 h2
set_option maxHeartbeats 4000000 in
set_option maxRecDepth 20000 in
theorem t138_p {X k y N : Nat} {w : Nat × (Nat → Int32)} {x4 x5 : Option Value} (hX : X < 2 ^ 31) (hN : N = 4 + X % 5) (hk : k < N) (hy : y < 2 ^ 31) (hyk : nI X >>> (nI k &&& 31) = nI y) (hc : y % 5 < 3) (hL : w.1 + 6 ≤ 119) (hs : AT B0 I0 t0 m I t nx (r, c, P, u, S, w.1, w.2)) (hB : B0 + 1000 * (m + 6) < 2 ^ 29) (hK : ∀ (I' : Nat → Nat → Int32) (t' nx' : Nat) (y4 y5 : Option Value), AT B0 I0 t0 (m + 6) I' t' nx' (r, c, P, u, S, (tc9 y w).1, (tc9 y w).2) → mm_C (138, mm_blk 138 3, [some (.ref 0), some (.int (nI X)), some (.int 1), some (.int (nI (k + 1))), y4, y5], [], (hp sc I' o t')) Q) : mm_C (138, mm_blk 138 3, [some (.ref 0), some (.int (nI X)), some (.int 1), some (.int (nI k)), x4, x5], [], (hp sc I o t)) Q := by
  have n1 : nI X - nI X / 5 * 5 = nI (X % 5) := im (d := 5) hX (by omega) (by omega)
  have n2 : (4 : Int32) + nI (X % 5) = nI N := by rw [hN]; exact nI_add 4 _
  have n3 : (nI k < nI N) = True := eq_true (nI_lt hk (by omega))
  have n4 : nI y - nI y / 5 * 5 = nI (y % 5) := im (d := 5) hy (by omega) (by omega)
  have n6 := nI_1 k
  rw [mM_138.2.2.2.2.1]
  have n5 : (nI (y % 5) < 3) = True := eq_true (nI_lt (b := 3) hc (by omega))
  have m1 : nI y - nI y / 15 * 15 = nI (y % 15) := im (d := 15) hy (by omega) (by omega)
  have m2 : nI y / 3 = nI (y / 3) := nJ_div (y := 3) (by omega) (by omega) (by omega)
  have m3 : nI (y / 3) - nI (y / 3) / 99 * 99 = nI (y / 3 % 99) := im (d := 99) (by omega) (by omega) (by omega)
  have m4 : (1 : Int32) + nI (y / 3 % 99) = nI (1 + y / 3 % 99) := nI_add 1 _
  have ew : tc9 y w = tw9 (ap9 (tw9 (ap9 w 112) (y % 15)) 48) (1 + y / 3 % 99) := if_pos hc
  simp +decide only [mM_138.1, mM_138.2.1, mM_138.2.2.1, mM_138.2.2.2.1, mM_138.2.2.2.2.2.1, mM_138.2.2.2.2.2.2.1, mM_138.2.2.2.2.2.2.2.1, mM_138.2.2.2.2.2.2.2.2.1, mM_138.2.2.2.2.2.2.2.2.2.1, mM_138.2.2.2.2.2.2.2.2.2.2.1, mM_138.2.2.2.2.2.2.2.2.2.2.2.2.1, mM_138.2.2.2.2.2.2.2.2.2.2.2.2.2.1, mM_138.2.2.2.2.2.2.2.2.2.2.2.2.2.2, cR, cRf, cH, mm_fixA, n1, n2, n3, hyk, n4, n5, ↓reduceIte]
  refine DO_st (DO_append (L := (w).1) (T := (w).2) (ch := 112) (by omega) (by omega)) rfl hs (by omega) fun I1 t1 nx1 h1 => ?_
  have z1 : ((0 : Int32) < nI ((w).1 + 1)) = True := eq_true (nI_lt (a := 0) (by omega) (by omega))
  simp +decide only [mM_138.1, mM_138.2.1, mM_138.2.2.1, mM_138.2.2.2.1, mM_138.2.2.2.2.2.1, mM_138.2.2.2.2.2.2.1, mM_138.2.2.2.2.2.2.2.1, mM_138.2.2.2.2.2.2.2.2.1, mM_138.2.2.2.2.2.2.2.2.2.1, mM_138.2.2.2.2.2.2.2.2.2.2.1, mM_138.2.2.2.2.2.2.2.2.2.2.2.2.1, mM_138.2.2.2.2.2.2.2.2.2.2.2.2.2.1, mM_138.2.2.2.2.2.2.2.2.2.2.2.2.2.2, cR, cRf, cH, mm_fixA, z1, m1, ↓kL, kI, kLi, kM, kN9, kLn, kLj, kLl, bJ_1, bJ_0, i64_toInt32, eq_self, ↓reduceIte]
  have w1 : (ap9 w 112).1 = w.1 + 1 := rfl
  refine DO_st (DO_two (w := ap9 w 112) (v := y % 15) (by omega) (by omega)) rfl h1 (by omega) fun I2 t2 nx2 h2 => ?_
  simp +decide only [mM_138.1, mM_138.2.1, mM_138.2.2.1, mM_138.2.2.2.1, mM_138.2.2.2.2.2.1, mM_138.2.2.2.2.2.2.1, mM_138.2.2.2.2.2.2.2.1, mM_138.2.2.2.2.2.2.2.2.1, mM_138.2.2.2.2.2.2.2.2.2.1, mM_138.2.2.2.2.2.2.2.2.2.2.1, mM_138.2.2.2.2.2.2.2.2.2.2.2.2.1, mM_138.2.2.2.2.2.2.2.2.2.2.2.2.2.1, mM_138.2.2.2.2.2.2.2.2.2.2.2.2.2.2, cR, cRf, cH, mm_fixA, ↓kL, kI, kLi, kM, kN9, kLn, kLj, kLl, bJ_1, bJ_0, i64_toInt32, eq_self, ↓reduceIte]
  have w2 : (tw9 (ap9 w 112) (y % 15)).1 = w.1 + 3 := rfl
  refine DO_st (DO_append (L := (tw9 (ap9 w 112) (y % 15)).1) (T := (tw9 (ap9 w 112) (y % 15)).2) (ch := 48) (by omega) (by omega)) rfl h2 (by omega) fun I3 t3 nx3 h3 => ?_
  have z3 : ((0 : Int32) < nI ((tw9 (ap9 w 112) (y % 15)).1 + 1)) = True := eq_true (nI_lt (a := 0) (by omega) (by omega))
  simp +decide only [mM_138.1, mM_138.2.1, mM_138.2.2.1, mM_138.2.2.2.1, mM_138.2.2.2.2.2.1, mM_138.2.2.2.2.2.2.1, mM_138.2.2.2.2.2.2.2.1, mM_138.2.2.2.2.2.2.2.2.1, mM_138.2.2.2.2.2.2.2.2.2.1, mM_138.2.2.2.2.2.2.2.2.2.2.1, mM_138.2.2.2.2.2.2.2.2.2.2.2.2.1, mM_138.2.2.2.2.2.2.2.2.2.2.2.2.2.1, mM_138.2.2.2.2.2.2.2.2.2.2.2.2.2.2, cR, cRf, cH, mm_fixA, z3, m2, m3, m4, ↓kL, kI, kLi, kM, kN9, kLn, kLj, kLl, bJ_1, bJ_0, i64_toInt32, eq_self, ↓reduceIte]
  have w3 : (ap9 (tw9 (ap9 w 112) (y % 15)) 48).1 = w.1 + 4 := rfl
  refine DO_st (DO_two (w := ap9 (tw9 (ap9 w 112) (y % 15)) 48) (v := 1 + y / 3 % 99) (by omega) (by omega)) rfl h3 (by omega) fun I4 t4 nx4 h4 => ?_
  simp +decide only [mM_138.1, mM_138.2.1, mM_138.2.2.1, mM_138.2.2.2.1, mM_138.2.2.2.2.2.1, mM_138.2.2.2.2.2.2.1, mM_138.2.2.2.2.2.2.2.1, mM_138.2.2.2.2.2.2.2.2.1, mM_138.2.2.2.2.2.2.2.2.2.1, mM_138.2.2.2.2.2.2.2.2.2.2.1, mM_138.2.2.2.2.2.2.2.2.2.2.2.2.1, mM_138.2.2.2.2.2.2.2.2.2.2.2.2.2.1, mM_138.2.2.2.2.2.2.2.2.2.2.2.2.2.2, cR, cRf, cH, mm_fixA, n6, ↓kL, kI, kLi, kM, kN9, kLn, kLj, kLl, bJ_1, bJ_0, i64_toInt32, eq_self, ↓reduceIte]
  refine hK _ _ nx4 _ _ ?_
  rw [ew]
  exact AT_m h4 (by omega)
set_option maxHeartbeats 4000000 in
set_option maxRecDepth 20000 in
theorem t138_r {X k y N : Nat} {w : Nat × (Nat → Int32)} {x4 x5 : Option Value} (hX : X < 2 ^ 31) (hN : N = 4 + X % 5) (hk : k < N) (hy : y < 2 ^ 31) (hyk : nI X >>> (nI k &&& 31) = nI y) (hc : y % 5 = 3) (hL : w.1 + 6 ≤ 119) (hs : AT B0 I0 t0 m I t nx (r, c, P, u, S, w.1, w.2)) (hB : B0 + 1000 * (m + 6) < 2 ^ 29) (hK : ∀ (I' : Nat → Nat → Int32) (t' nx' : Nat) (y4 y5 : Option Value), AT B0 I0 t0 (m + 6) I' t' nx' (r, c, P, u, S, (tc9 y w).1, (tc9 y w).2) → mm_C (138, mm_blk 138 3, [some (.ref 0), some (.int (nI X)), some (.int 1), some (.int (nI (k + 1))), y4, y5], [], (hp sc I' o t')) Q) : mm_C (138, mm_blk 138 3, [some (.ref 0), some (.int (nI X)), some (.int 1), some (.int (nI k)), x4, x5], [], (hp sc I o t)) Q := by
  have n1 : nI X - nI X / 5 * 5 = nI (X % 5) := im (d := 5) hX (by omega) (by omega)
  have n2 : (4 : Int32) + nI (X % 5) = nI N := by rw [hN]; exact nI_add 4 _
  have n3 : (nI k < nI N) = True := eq_true (nI_lt hk (by omega))
  have n4 : nI y - nI y / 5 * 5 = nI (y % 5) := im (d := 5) hy (by omega) (by omega)
  have n6 := nI_1 k
  rw [mM_138.2.2.2.2.1]
  have n5 : (nI (y % 5) < 3) = False := by rw [hc]; decide
  have n7 : (nI (y % 5) = 3) = True := by rw [hc]; decide
  have m2 : nI y / 5 = nI (y / 5) := nJ_div (y := 5) (by omega) (by omega) (by omega)
  rw [m2] at n4
  have m3 : nI (y / 5) - nI (y / 5) / 15 * 15 = nI (y / 5 % 15) := im (d := 15) (by omega) (by omega) (by omega)
  have ew : tc9 y w = tw9 (ap9 w 114) (y / 5 % 15) := by unfold tc9; rw [if_neg (by omega), if_pos hc]
  simp +decide only [mM_138.1, mM_138.2.1, mM_138.2.2.1, mM_138.2.2.2.1, mM_138.2.2.2.2.2.1, mM_138.2.2.2.2.2.2.1, mM_138.2.2.2.2.2.2.2.1, mM_138.2.2.2.2.2.2.2.2.1, mM_138.2.2.2.2.2.2.2.2.2.1, mM_138.2.2.2.2.2.2.2.2.2.2.1, mM_138.2.2.2.2.2.2.2.2.2.2.2.2.1, mM_138.2.2.2.2.2.2.2.2.2.2.2.2.2.1, mM_138.2.2.2.2.2.2.2.2.2.2.2.2.2.2, cR, cRf, cH, mm_fixA, n1, n2, n3, hyk, m2, n4, n5, n7, ↓reduceIte]
  refine DO_st (DO_append (L := (w).1) (T := (w).2) (ch := 114) (by omega) (by omega)) rfl hs (by omega) fun I1 t1 nx1 h1 => ?_
  have z1 : ((0 : Int32) < nI ((w).1 + 1)) = True := eq_true (nI_lt (a := 0) (by omega) (by omega))
  simp +decide only [mM_138.1, mM_138.2.1, mM_138.2.2.1, mM_138.2.2.2.1, mM_138.2.2.2.2.2.1, mM_138.2.2.2.2.2.2.1, mM_138.2.2.2.2.2.2.2.1, mM_138.2.2.2.2.2.2.2.2.1, mM_138.2.2.2.2.2.2.2.2.2.1, mM_138.2.2.2.2.2.2.2.2.2.2.1, mM_138.2.2.2.2.2.2.2.2.2.2.2.2.1, mM_138.2.2.2.2.2.2.2.2.2.2.2.2.2.1, mM_138.2.2.2.2.2.2.2.2.2.2.2.2.2.2, cR, cRf, cH, mm_fixA, z1, m2, m3, ↓kL, kI, kLi, kM, kN9, kLn, kLj, kLl, bJ_1, bJ_0, i64_toInt32, eq_self, ↓reduceIte]
  have w1 : (ap9 w 114).1 = w.1 + 1 := rfl
  refine DO_st (DO_two (w := ap9 w 114) (v := y / 5 % 15) (by omega) (by omega)) rfl h1 (by omega) fun I2 t2 nx2 h2 => ?_
  simp +decide only [mM_138.1, mM_138.2.1, mM_138.2.2.1, mM_138.2.2.2.1, mM_138.2.2.2.2.2.1, mM_138.2.2.2.2.2.2.1, mM_138.2.2.2.2.2.2.2.1, mM_138.2.2.2.2.2.2.2.2.1, mM_138.2.2.2.2.2.2.2.2.2.1, mM_138.2.2.2.2.2.2.2.2.2.2.1, mM_138.2.2.2.2.2.2.2.2.2.2.2.2.1, mM_138.2.2.2.2.2.2.2.2.2.2.2.2.2.1, mM_138.2.2.2.2.2.2.2.2.2.2.2.2.2.2, cR, cRf, cH, mm_fixA, n6, ↓kL, kI, kLi, kM, kN9, kLn, kLj, kLl, bJ_1, bJ_0, i64_toInt32, eq_self, ↓reduceIte]
  refine hK _ _ nx2 _ _ ?_
  rw [ew]
  exact AT_m h2 (by omega)
set_option maxHeartbeats 4000000 in
set_option maxRecDepth 20000 in
theorem t138_t {X k y N : Nat} {w : Nat × (Nat → Int32)} {x4 x5 : Option Value} (hX : X < 2 ^ 31) (hN : N = 4 + X % 5) (hk : k < N) (hy : y < 2 ^ 31) (hyk : nI X >>> (nI k &&& 31) = nI y) (hc : 3 < y % 5) (hL : w.1 + 6 ≤ 119) (hs : AT B0 I0 t0 m I t nx (r, c, P, u, S, w.1, w.2)) (hB : B0 + 1000 * (m + 6) < 2 ^ 29) (hK : ∀ (I' : Nat → Nat → Int32) (t' nx' : Nat) (y4 y5 : Option Value), AT B0 I0 t0 (m + 6) I' t' nx' (r, c, P, u, S, (tc9 y w).1, (tc9 y w).2) → mm_C (138, mm_blk 138 3, [some (.ref 0), some (.int (nI X)), some (.int 1), some (.int (nI (k + 1))), y4, y5], [], (hp sc I' o t')) Q) : mm_C (138, mm_blk 138 3, [some (.ref 0), some (.int (nI X)), some (.int 1), some (.int (nI k)), x4, x5], [], (hp sc I o t)) Q := by
  have n1 : nI X - nI X / 5 * 5 = nI (X % 5) := im (d := 5) hX (by omega) (by omega)
  have n2 : (4 : Int32) + nI (X % 5) = nI N := by rw [hN]; exact nI_add 4 _
  have n3 : (nI k < nI N) = True := eq_true (nI_lt hk (by omega))
  have n4 : nI y - nI y / 5 * 5 = nI (y % 5) := im (d := 5) hy (by omega) (by omega)
  have n6 := nI_1 k
  rw [mM_138.2.2.2.2.1]
  have n5 : (nI (y % 5) < 3) = False := eq_false (nI_nlt (a := y % 5) (b := 3) (by omega) (by omega))
  have n7 : (nI (y % 5) = 3) = False := eq_false (fun e => by
    have := (nI_eq (a := y % 5) (b := 3) (by omega) (by omega)).mp e
    omega)
  have m2 : nI y / 5 = nI (y / 5) := nJ_div (y := 5) (by omega) (by omega) (by omega)
  rw [m2] at n4
  have m3 : nI (y / 5) - nI (y / 5) / 9 * 9 = nI (y / 5 % 9) := im (d := 9) (by omega) (by omega) (by omega)
  have m4 : (1 : Int32) + nI (y / 5 % 9) = nI (1 + y / 5 % 9) := nI_add 1 _
  have ew : tc9 y w = tw9 (ap9 w 116) (1 + y / 5 % 9) := by unfold tc9; rw [if_neg (by omega), if_neg (by omega)]
  simp +decide only [mM_138.1, mM_138.2.1, mM_138.2.2.1, mM_138.2.2.2.1, mM_138.2.2.2.2.2.1, mM_138.2.2.2.2.2.2.1, mM_138.2.2.2.2.2.2.2.1, mM_138.2.2.2.2.2.2.2.2.1, mM_138.2.2.2.2.2.2.2.2.2.1, mM_138.2.2.2.2.2.2.2.2.2.2.1, mM_138.2.2.2.2.2.2.2.2.2.2.2.2.1, mM_138.2.2.2.2.2.2.2.2.2.2.2.2.2.1, mM_138.2.2.2.2.2.2.2.2.2.2.2.2.2.2, cR, cRf, cH, mm_fixA, n1, n2, n3, hyk, m2, n4, n5, n7, ↓reduceIte]
  refine DO_st (DO_append (L := (w).1) (T := (w).2) (ch := 116) (by omega) (by omega)) rfl hs (by omega) fun I1 t1 nx1 h1 => ?_
  have z1 : ((0 : Int32) < nI ((w).1 + 1)) = True := eq_true (nI_lt (a := 0) (by omega) (by omega))
  simp +decide only [mM_138.1, mM_138.2.1, mM_138.2.2.1, mM_138.2.2.2.1, mM_138.2.2.2.2.2.1, mM_138.2.2.2.2.2.2.1, mM_138.2.2.2.2.2.2.2.1, mM_138.2.2.2.2.2.2.2.2.1, mM_138.2.2.2.2.2.2.2.2.2.1, mM_138.2.2.2.2.2.2.2.2.2.2.1, mM_138.2.2.2.2.2.2.2.2.2.2.2.2.1, mM_138.2.2.2.2.2.2.2.2.2.2.2.2.2.1, mM_138.2.2.2.2.2.2.2.2.2.2.2.2.2.2, cR, cRf, cH, mm_fixA, z1, m2, m3, m4, ↓kL, kI, kLi, kM, kN9, kLn, kLj, kLl, bJ_1, bJ_0, i64_toInt32, eq_self, ↓reduceIte]
  have w1 : (ap9 w 116).1 = w.1 + 1 := rfl
  refine DO_st (DO_two (w := ap9 w 116) (v := 1 + y / 5 % 9) (by omega) (by omega)) rfl h1 (by omega) fun I2 t2 nx2 h2 => ?_
  simp +decide only [mM_138.1, mM_138.2.1, mM_138.2.2.1, mM_138.2.2.2.1, mM_138.2.2.2.2.2.1, mM_138.2.2.2.2.2.2.1, mM_138.2.2.2.2.2.2.2.1, mM_138.2.2.2.2.2.2.2.2.1, mM_138.2.2.2.2.2.2.2.2.2.1, mM_138.2.2.2.2.2.2.2.2.2.2.1, mM_138.2.2.2.2.2.2.2.2.2.2.2.2.1, mM_138.2.2.2.2.2.2.2.2.2.2.2.2.2.1, mM_138.2.2.2.2.2.2.2.2.2.2.2.2.2.2, cR, cRf, cH, mm_fixA, n6, ↓kL, kI, kLi, kM, kN9, kLn, kLj, kLl, bJ_1, bJ_0, i64_toInt32, eq_self, ↓reduceIte]
  refine hK _ _ nx2 _ _ ?_
  rw [ew]
  exact AT_m h2 (by omega)
end TR9
