/-! the law's run -/
section XQ
variable {sc : Nat × (Nat → Int32)} {o : Int64} {Q : mm_Q}
theorem e62 {m pc c : Nat} {x : Int32} {ax : List Nat} {r : List mm_Op} {L : mm_L} {st : List Value} {T : List eRow} {W : eW} {w : Nat} (hc : c < 6) : mm_C (m, (pc, 62, x, c :: ax) :: r, L, st, eA sc o (T, W, w)) Q ↔ mm_C (m, r, L, .ref T.length :: st, eA sc o (T ++ [(c, mm_nf c, [])], (T.length, none) :: W, w + mm_nf c)) Q := by
  unfold eA
  dsimp only
  rw [eSh_app, eI_n, List.length_append]
  refine mm_go_iff ?_
  exact if_pos ⟨rfl, hc⟩
def A0 : A46 := (fr0, 0, fun _ _ => 0, fun _ => 0, fun _ _ => 0, 0, fun _ => 0)
theorem ob0 {I : Nat → Nat → Int32} (hn : SN I 3) (h1 : I 14 1 = 0 ∧ I 14 2 = 0 ∧ I 1 1 = 0) (h2 : ∀ s, s < 2 → I 171 s = 0 ∧ I (184 + 11 * s) 5 = 0 ∧ I (184 + 11 * s) 6 = 0) (h3 : ∀ j, j < 120 → I 2 j = 0) : OB 0 I 0 A0 := by
  obtain ⟨a1, a2, a3⟩ := h1
  refine ⟨⟨R_fresh hn (mo_fr_eq _), KV_fresh (mo_fr_eq _)⟩, ⟨Nat.zero_le _, Nat.zero_le _, a1, a2, fun i hi => absurd hi (Nat.not_lt_zero i)⟩, fun s hs => ?_, Nat.zero_le _, a3, fun j hj => absurd hj (Nat.not_lt_zero j), fun j hj => ?_⟩
  · obtain ⟨b1, b2, b3⟩ := h2 s hs
    exact ⟨⟨b1, Or.inl rfl⟩, ⟨Or.inl b2, Or.inl b3⟩, fun g => absurd g (show ¬ (0 : Int32) = 1 by decide)⟩
  · rw [h3 j hj]; decide
theorem kI_p : OB 0 (eI kW2) 0 A0 := by
  have h9 : ∀ i, i < 13 → 4 ≤ i → eI kW2 3 i = 0 := by decide +kernel
  refine ob0 ⟨?_, ?_, fun i h1 h2 => h9 i (by omega) h1, ?_⟩ ?_ ?_ ?_ <;> decide +kernel
theorem kI_q : OB 0 (sw_I (eI kW2)) 0 A0 := by
  have h9 : ∀ i, i < 13 → 4 ≤ i → sw_I (eI kW2) 3 i = 0 := by decide +kernel
  refine ob0 ⟨?_, ?_, fun i h1 h2 => h9 i (by omega) h1, ?_⟩ ?_ ?_ ?_ <;> decide +kernel
theorem kT_len : kT1.length = 206 ∧ (mm_shT.length, kw2) = mm_NW0 ∧ mm_NW0.2 = kw2 := by decide +kernel
theorem kH : eA sc 0 (mm_shT, kW2, kw2) = hp sc (eI kW2) 0 0 := by
  unfold eA hp
  rw [← kT_len.2.1]
  rfl
theorem kH0 (L : Nat) (xs : Nat → Int32) : mm_h00 L xs = eA (L, xs) 0 ([], [], 0) := rfl
theorem law_in {L : Nat} {xs : Nat → Int32} (h : mm_C (106, mm_blk 106 0, [some (.float 0), some (.int 0)], [], (hp (L, xs) (eI kW2) 0 0)) (mm_K 140 [(23, 65, 0, [136, 3, 99, 250, 824, 0]), (26, 28, 0, [1]), (29, 4, 0, [1, 1]), (30, 65, 0, [132, 1, 99, 254, 488, 0]), (33, 28, 0, [1]), (36, 4, 0, [1, 1]), (37, 65, 0, [133, 1, 99, 258, 745, 0]), (40, 28, 0, [1]), (43, 1, 1, [0]), (44, 0, 0, [2])] [some (.float 0), some (.ref 0), some (.ref 206), none, none, none, none] [.ref 206, .ref 0] [] Q)) : mm_C (mm_entry 140 [.float 0] (mm_h00 L xs)) Q := by
  rw [mM_140.1, kH0]
  have n5 : mm_nf 5 = 7 := rfl
  have z : ([] : List eRow).length = 0 ∧ (0 + 7 = 7) := ⟨rfl, rfl⟩
  have za : ∀ r : eRow, ([] : List eRow) ++ [r] = [r] := fun _ => rfl
  have k1 := fun (Q : mm_Q) => ev_sound (sc := (L, xs)) (o := 0) 4000 (kOk_s k55) (Q := Q)
  have k2 := fun (Q : mm_Q) => ev_sound (sc := (L, xs)) (o := 0) 4000 (kOk_s k55b) (Q := Q)
  simp +decide only [cR, e62, n5, z.1, z.2, za]
  refine k1 _ ?_
  simp +decide only [cR, cKI_none, e62, n5, kT_len.1]
  refine k2 _ ?_
  simp +decide only [cR, cKI_none]
  rw [kH]
  exact h
set_option maxRecDepth 20000 in
theorem mm_law {L : Nat} {xs : Nat → Int32} (hL : L ≤ 260) : mm_C (mm_entry 140 [.float 0] (mm_h00 L xs)) mm_Ql := by
  have hb : HB97 6364136223846793005 1442695040888963407 := mM_97.2.2.1
  have hsc : ((L, xs) : Nat × (Nat → Int32)).1 < 2 ^ 31 := Nat.lt_of_le_of_lt hL (by decide)
  obtain ⟨X, hX, eX⟩ := dr_X (L, xs) 0
  refine law_in ?_
  have d1 := fun (Q : mm_Q) => e106 (sc := (L, xs)) (I := eI kW2) (o := 0) (t := 0) (Q := Q) (b := 0) (k := 0) (by decide) hsc
  rw [eX] at d1
  refine (d1 _).mpr ?_
  have h0 : WW 0 0 0 (eI kW2) 0 A0 A0 := ⟨0, 0, kI_p, kI_q, Nat.le_refl _, Nat.le_refl _⟩
  simp +decide only [mM_140.1, mM_140.2.1, mM_140.2.2.1, mM_140.2.2.2.1, mM_140.2.2.2.2.2.1, mM_140.2.2.2.2.2.2.1, mM_140.2.2.2.2.2.2.2.1, mM_140.2.2.2.2.2.2.2.2.1, mM_140.2.2.2.2.2.2.2.2.2.2.1, mM_140.2.2.2.2.2.2.2.2.2.2.2.1, mM_140.2.2.2.2.2.2.2.2.2.2.2.2.2.1, mM_140.2.2.2.2.2.2.2.2.2.2.2.2.2.2.1, mM_140.2.2.2.2.2.2.2.2.2.2.2.2.2.2.2.2.1, mM_140.2.2.2.2.2.2.2.2.2.2.2.2.2.2.2.2.2.1, mM_140.2.2.2.2.2.2.2.2.2.2.2.2.2.2.2.2.2.2.1, mM_140.2.2.2.2.2.2.2.2.2.2.2.2.2.2.2.2.2.2.2.2.1, mM_140.2.2.2.2.2.2.2.2.2.2.2.2.2.2.2.2.2.2.2.2.2.1, mM_140.2.2.2.2.2.2.2.2.2.2.2.2.2.2.2.2.2.2.2.2.2.2, cR, cRf, cH, mm_fixA, mm_fixB9, ↓reduceIte]
  refine alike_run hb hX h0 (by decide) fun I1 t1 h1 => ?_
  simp +decide only [mM_140.1, mM_140.2.1, mM_140.2.2.1, mM_140.2.2.2.1, mM_140.2.2.2.2.2.1, mM_140.2.2.2.2.2.2.1, mM_140.2.2.2.2.2.2.2.1, mM_140.2.2.2.2.2.2.2.2.1, mM_140.2.2.2.2.2.2.2.2.2.2.1, mM_140.2.2.2.2.2.2.2.2.2.2.2.1, mM_140.2.2.2.2.2.2.2.2.2.2.2.2.2.1, mM_140.2.2.2.2.2.2.2.2.2.2.2.2.2.2.1, mM_140.2.2.2.2.2.2.2.2.2.2.2.2.2.2.2.2.1, mM_140.2.2.2.2.2.2.2.2.2.2.2.2.2.2.2.2.2.1, mM_140.2.2.2.2.2.2.2.2.2.2.2.2.2.2.2.2.2.2.1, mM_140.2.2.2.2.2.2.2.2.2.2.2.2.2.2.2.2.2.2.2.2.1, mM_140.2.2.2.2.2.2.2.2.2.2.2.2.2.2.2.2.2.2.2.2.2.1, mM_140.2.2.2.2.2.2.2.2.2.2.2.2.2.2.2.2.2.2.2.2.2.2, cR, cRf, cH, mm_fixA, mm_fixB9, ↓reduceIte]
  refine W_p (DO_errors hb) h1 (Nat.le_refl _) (by decide) fun I2 t2 h2 => ?_
  simp +decide only [mM_140.1, mM_140.2.1, mM_140.2.2.1, mM_140.2.2.2.1, mM_140.2.2.2.2.2.1, mM_140.2.2.2.2.2.2.1, mM_140.2.2.2.2.2.2.2.1, mM_140.2.2.2.2.2.2.2.2.1, mM_140.2.2.2.2.2.2.2.2.2.2.1, mM_140.2.2.2.2.2.2.2.2.2.2.2.1, mM_140.2.2.2.2.2.2.2.2.2.2.2.2.2.1, mM_140.2.2.2.2.2.2.2.2.2.2.2.2.2.2.1, mM_140.2.2.2.2.2.2.2.2.2.2.2.2.2.2.2.2.1, mM_140.2.2.2.2.2.2.2.2.2.2.2.2.2.2.2.2.2.1, mM_140.2.2.2.2.2.2.2.2.2.2.2.2.2.2.2.2.2.2.1, mM_140.2.2.2.2.2.2.2.2.2.2.2.2.2.2.2.2.2.2.2.2.1, mM_140.2.2.2.2.2.2.2.2.2.2.2.2.2.2.2.2.2.2.2.2.2.1, mM_140.2.2.2.2.2.2.2.2.2.2.2.2.2.2.2.2.2.2.2.2.2.2, cR, cRf, cH, mm_fixA, mm_fixB9, ↓reduceIte]
  refine W_p DO_kept h2 (Nat.le_refl _) (by decide) fun I3 t3 h3 => ?_
  have k1 := law_l (sc := (L, xs)) (o := 0) (Q := mm_Ql) (b := 0) (x5 := none) (x6 := none) hb hsc 40 (Nat.le_refl _) h3 (by decide)
  have e2 : nI (40 - 40) = 0 := rfl
  rw [e2] at k1
  simp +decide only [mM_140.1, mM_140.2.1, mM_140.2.2.1, mM_140.2.2.2.1, mM_140.2.2.2.2.2.1, mM_140.2.2.2.2.2.2.1, mM_140.2.2.2.2.2.2.2.1, mM_140.2.2.2.2.2.2.2.2.1, mM_140.2.2.2.2.2.2.2.2.2.2.1, mM_140.2.2.2.2.2.2.2.2.2.2.2.1, mM_140.2.2.2.2.2.2.2.2.2.2.2.2.2.1, mM_140.2.2.2.2.2.2.2.2.2.2.2.2.2.2.1, mM_140.2.2.2.2.2.2.2.2.2.2.2.2.2.2.2.2.1, mM_140.2.2.2.2.2.2.2.2.2.2.2.2.2.2.2.2.2.1, mM_140.2.2.2.2.2.2.2.2.2.2.2.2.2.2.2.2.2.2.1, mM_140.2.2.2.2.2.2.2.2.2.2.2.2.2.2.2.2.2.2.2.2.1, mM_140.2.2.2.2.2.2.2.2.2.2.2.2.2.2.2.2.2.2.2.2.2.1, mM_140.2.2.2.2.2.2.2.2.2.2.2.2.2.2.2.2.2.2.2.2.2.2, cR, cRf, cH, mm_fixA, mm_fixB9, ↓reduceIte]
  refine k1 fun I' t' ht => ?_
  have ht2 : t' ≤ 20000 := Nat.le_trans ht (by decide)
  clear k1 ht h3 h2 h1 h0 d1
  refine ⟨rfl, ?_, ?_⟩
  · show 412 + t' ≤ 600130
    omega
  · show mm_NW0.2 + 6 * t' ≤ 7301080
    have e3 : kw2 = 6538 := rfl
    rw [kT_len.2.2, e3]
    omega
end XQ
