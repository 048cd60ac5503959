/-! the law's run -/
section XQ
variable {sc : Nat × (Nat → Int32)} {o : Int64} {Q : mm_Q}
theorem e62 {m pc c : Nat} {x : Int32} {ax : List Nat} {r : List mm_Op} {L : mm_L} {st : List Value} {T : List eRow} {W : eW} {w : Nat} (hc : c < 7) : mm_C (m, (pc, 62, x, c :: ax) :: r, L, st, eA sc o (T, W, w)) Q ↔ mm_C (m, r, L, .ref T.length :: st, eA sc o (T ++ [(c, mm_nf c, [])], (T.length, none) :: W, w + mm_nf c)) Q := by
  unfold eA
  dsimp only
  rw [eSh_app, eI_n, List.length_append]
  refine mm_go_iff ?_
  exact if_pos ⟨rfl, hc⟩
theorem e63 {m pc : Nat} {n x : Int32} {ax : List Nat} {r : List mm_Op} {L : mm_L} {st : List Value} {T : List eRow} {W : eW} {w : Nat} (h0 : 0 ≤ n) (h1 : n.toNatClampNeg < 4096) : mm_C (m, (pc, 63, x, 15 :: ax) :: r, L, .int n :: st, eA sc 0 (T, W, w)) Q ↔ mm_C (m, r, L, .ref T.length :: st, eA sc 0 (T ++ [(15, n.toNatClampNeg, [])], (T.length, none) :: W, w + n.toNatClampNeg)) Q := by
  unfold eA
  dsimp only
  rw [eSh_app, eI_n, List.length_append]
  refine mm_go_iff ?_
  exact if_pos ⟨rfl, h0, h1, Or.inr (Or.inr (Or.inr ⟨rfl, rfl⟩))⟩
def kWf : eW := (214, none) :: kW2
theorem kI_sn : SN (eI kWf) 3 := by
  have h9 : ∀ i, i < 13 → 4 ≤ i → eI kWf 3 i = 0 := by decide +kernel
  refine ⟨?_, ?_, fun i h1 h2 => h9 i (by omega) h1, ?_⟩
  · decide +kernel
  · decide +kernel
  · decide +kernel
theorem kI_row : ∀ j, j < 163 → eI kWf 207 j = if j = 153 then 200 else if j = 154 then 100 else if j = 155 then 60 else if j = 156 then 50 else if j < 30 ∧ j % 5 = 1 then -1 else 0 := by decide +kernel
theorem kI_rest : (eI kWf 14 1 = 0 ∧ eI kWf 14 2 = 0 ∧ eI kWf 206 5 = 0 ∧ eI kWf 206 9 = 0 ∧ eI kWf 1 1 = 0) ∧ (∀ s, s < 2 → eI kWf 171 s = 0 ∧ eI kWf 212 s = 0 ∧ eI kWf (184 + 11 * s) 5 = 0 ∧ eI kWf (184 + 11 * s) 6 = 0) ∧ ∀ j, j < 120 → eI kWf 2 j = 0 := by
  refine ⟨?_, ?_, ?_⟩
  · decide +kernel
  · decide +kernel
  · decide +kernel
theorem kI_inv : INV 0 (eI kWf) := by
  obtain ⟨⟨a1, a2, a3, a4, a5⟩, b, c⟩ := kI_rest
  refine ⟨R_fresh kI_sn kI_row, ⟨0, 0, by omega, by omega, a1, a2, a3, fun i hi => by omega⟩, fun s hs => ?_, 0, by omega, a5, a4, fun j hj => by omega, fun j hj => ?_⟩
  · obtain ⟨b1, b2, b3, b4⟩ := b s hs
    refine ⟨⟨by rw [b1, b2], Or.inl b1⟩, ⟨Or.inl b3, Or.inl b4⟩, fun g => ?_⟩
    rw [b1] at g
    exact absurd g (by decide)
  · rw [c j hj]; decide
theorem kT_end : mm_shT.take 214 ++ [(15, 1, [])] = mm_shT := by decide +kernel
theorem kT_len : kT1.length = 206 ∧ (mm_shT.take 214).length = 214 ∧ (mm_shT.length, kw2 + 1) = mm_NW0 := by decide +kernel
theorem kH : eA sc 0 (mm_shT, kWf, kw2 + 1) = hp sc (eI kWf) 0 0 := by
  unfold eA hp
  rw [← kT_len.2.2]
  rfl
theorem kH0 (L : Nat) (xs : Nat → Int32) : mm_h00 L xs = eA (L, xs) 0 ([], [], 0) := rfl
theorem law_in {L : Nat} {xs : Nat → Int32} (h : mm_C (213, mm_blk 213 1, [some (.float 0), some (.ref 0), some (.ref 206), some (.ref 214), some (.int 0), none, none], [], (hp (L, xs) (eI kWf) 0 0)) Q) : mm_C (mm_entry 213 [.float 0] (mm_h00 L xs)) Q := by
  rw [mM_213.1, kH0]
  have n5 : mm_nf 5 = 7 ∧ mm_nf 6 = 13 := ⟨rfl, rfl⟩
  have z : ([] : List eRow).length = 0 ∧ (0 + 7 = 7) := ⟨rfl, rfl⟩
  have za : ∀ r : eRow, ([] : List eRow) ++ [r] = [r] := fun _ => rfl
  have one : (0 : Int32) ≤ 1 ∧ (1 : Int32).toNatClampNeg < 4096 ∧ (1 : Int32).toNatClampNeg = 1 := by decide
  have k1 := fun (Q : mm_Q) => ev_sound (sc := (L, xs)) (o := 0) 4000 (kOk_s k55) (Q := Q)
  have k2 := fun (Q : mm_Q) => ev_sound (sc := (L, xs)) (o := 0) 2000 (kOk_s k106) (Q := Q)
  simp +decide only [cR, e62, n5, z.1, z.2, za]
  refine k1 _ ?_
  simp +decide only [cR, cKI_none, e62, n5, kT_len.1]
  refine k2 _ ?_
  simp +decide only [cR, cKI_none, e63 one.1 one.2.1, one.2.2, kT_len.2.1, kT_end]
  have e9 : ((214, none) :: kW2 : eW) = kWf := rfl
  rw [e9, kH]
  exact h
theorem mm_law {L : Nat} {xs : Nat → Int32} (hL : L ≤ 2048) : mm_C (mm_entry 213 [.float 0] (mm_h00 L xs)) mm_Ql :=
  law_in (law_loop (c1 := 6364136223846793005) (c2 := 1442695040888963407) (c3 := 4294967295) mM_97.2.2.1 mM_187.2.2.2.2.2.1 mM_213.2.2.2.2.2.2.2.2.2.2.2.2.2.2.2.2.2.2.2.2.2.2.2.2.2.2.2.2.2.2.2.2.2.2.2.2.2.2.2.2.2.2.2.2.2.2.2.2.2.2.2.2.2.2.2.2.2.2.2.2.2.2.2.2.2.2.2.2.2.2.2.2.2.2.2.2.2.2.2.2.2.2.2.2.2.2.2.2.2.2.2.2.2.2.2.1 (sc := (L, xs)) hL 512 (m := 0) kI_inv (Nat.le_refl _) (by omega) (by show L < 4 * 0 + 4 + 4 * 512; omega))
end XQ
