/-! simulate, the text, a piece -/
section XC9
variable {B B' : Nat} {I I' : Nat → Nat → Int32} {nx : Nat} {A : A46} {r q : Nat → Int32}
variable {c : Nat} {P S : Nat → Nat → Int32} {u T : Nat → Int32} {L : Nat}
/-- the block of simulate that holds two long numbers -/
def HB97 (c1 c2 : Nat) : Prop := mm_blk 97 1 = [(24, 2, 0, [6, 0]), (26, 2, 0, [3, 1]), (27, 37, 0, [2]), (30, 6, 0, [4, 0]), (32, 71, 0, [c1, 1, 264, 723]), (35, 16, 0, []), (36, 71, 0, [c2, 1, 266, 724]), (39, 15, 0, []), (40, 7, 0, [4, 0]), (42, 4, 0, [0, 1]), (43, 6, 0, [4, 0]), (45, 1, 33, [1]), (47, 19, 0, []), (48, 22, 0, []), (49, 66, 0, [98, 2, 5, 268, 725, 0]), (52, 8, 1, [6]), (55, 0, 0, [1])]
theorem DO_sim {c1 c2 m : Nat} (hb : HB97 c1 c2) (h1 : 1 ≤ m) (h2 : m ≤ 60) (x : Int64) : DO 1 128 [.long x, .int (nI m)] (r, c, P, u, S, L, T) (.long (mo_simul c1 c2 m r x).toInt64) (r, c, P, u, S, L, T) := by
  intro sc B I nx o t Q h hB hK
  have b5 := SX_b5 h.1.1
  have ht : SX 0 0 B (sy_copy I 172 3) 172 r := R_copy (fun i k h1 h2 => by omega) h.1.1 (fun _ _ => rfl)
  obtain ⟨rs, o2⟩ := R_sim c1 c2 m x ht (by omega)
  have hJ : ∀ y, ¬ (172 ≤ y ∧ y < 184) → (itr (sy_st c1 c2) m (sy_copy I 172 3, x)).1 y = I y := fun y hy => by rw [o2 y (by omega), sy_copy_o _ (by omega)]
  have n9 : (itr (sy_st c1 c2) m (sy_copy I 172 3, x)).1 172 9 = (itr (mo_st c1 c2) m (r, x)).1 158 := rs.2.2.2.2.2.2.1.2.1
  have n3 : (itr (sy_st c1 c2) m (sy_copy I 172 3, x)).1 3 9 = r 158 := by rw [hJ 3 (by omega)]; exact (SX_GR h.1.1).2.2.2.2.2.1
  have nl : sy_loud (itr (sy_st c1 c2) m (sy_copy I 172 3, x)).1 172 = mo_loud (itr (mo_st c1 c2) m (r, x)).1 := R_loud rs
  refine (w128_ok (fun Q => by rw [c97 hb okr_r b5.1 b5.2, if_pos ⟨nI_nlt (a := m) (b := 1) h1 (by omega), nI_nlt (a := 60) (b := m) h2 (by omega)⟩, nI_clamp (show m < 2 ^ 31 by omega)])).mpr ?_
  rw [n9, n3, nl]
  exact hK _ nx _ (OB_pl h (by omega) fun x _ x2 => hJ x x2) (fun x hx => hJ x (by omega)) (Nat.le_refl _) (by omega)
theorem e128x {sc : Nat × (Nat → Int32)} {o : Int64} {t : Nat} {Q : mm_Q} {c1 c2 : Nat} (hb : HB97 c1 c2) (h : SX 0 0 B I 3 r) {x : Int64} {v : Int32} (hv : ¬ (¬ v < 1 ∧ ¬ 60 < v)) : mm_C (mm_entry 128 [.ref 0, .long x, .int v] (hp sc I o t)) Q ↔ Q (.inl (some (.long (mm_LC 1)))) (hp sc I o (t + 1)) :=
  w128_t1 fun Q => by rw [c97 hb okr_r (SX_b5 h).1 (SX_b5 h).2, if_neg hv]
theorem e58 {sc : Nat × (Nat → Int32)} {o : Int64} {t : Nat} {Q : mm_Q} (h : OBt I L T) : mm_C (mm_entry 58 [.ref 0] (hp sc I o t)) Q ↔ Q (.inl (some (.int (pe_err T L)))) (hp sc I o t) := by
  obtain ⟨h1, h2, h3, h4⟩ := h
  rw [c58 h4 h2 h1, pe_err_ag h3]
theorem DO_clear : DO 1 57 [] (r, c, P, u, S, L, T) (.int (nI L)) (r, c, P, u, S, 0, T) := by
  intro sc B I nx o t Q h hB hK
  obtain ⟨a1, a2, a3, t1, t2, t3, t4⟩ := h
  have hw : ∀ x, ¬ x = 1 → mm_up I 1 (mm_up (I 1) 1 0) x = I x := fun x h1 => mm_up_n _ _ h1
  refine c57.mpr ?_
  rw [show I 1 1 = nI L from t2]
  refine hK _ nx _ ⟨SK_B (SK_pl a1 fun x x1 x2 => hw x (by omega)) (by omega), OBp_pl a2 (by omega) (fun x x1 x2 => hw x (by omega)), fun s hs => OBs_pl hs (a3 s hs) (by omega) (by rw [hw 171 (by omega)]) (fun x x1 x2 => hw x (by omega)), ?_⟩ (fun x hx => hw x (by omega)) (Nat.le_refl _) (by omega)
  refine ⟨Nat.zero_le _, by rw [mm_up_s, mm_up_s]; rfl, fun j hj => absurd hj (Nat.not_lt_zero j), ?_⟩
  rw [hw 2 (by omega)]
  exact t4
theorem DO_append {ch : Nat} (hc : ch ≤ 255) (hL : L < 120) : DO 1 108 [.int (nI ch)] (r, c, P, u, S, L, T) (.long (nI (L + 1)).toInt64) (r, c, P, u, S, L + 1, mm_up T L (nI ch)) := by
  intro sc B I nx o t Q h hB hK
  obtain ⟨a1, a2, a3, t1, t2, t3, t4⟩ := h
  have t2 : I 1 1 = nI L := t2
  have hch : ((nI ch).toUInt32 % 65536).toInt32 = nI ch := by
    have : ∀ k, k < 256 → ((nI k).toUInt32 % 65536).toInt32 = nI k := by decide +kernel
    exact this ch (by omega)
  have hl9 : nI L < (120 : Int32) := nI_lt (b := 120) hL (by omega)
  have ep : pc_add I (nI ch) = mm_up (mm_up I 2 (mm_up (I 2) L (nI ch))) 1 (mm_up (I 1) 1 (nI (L + 1))) := by
    unfold pc_add
    rw [t2, if_pos hl9, nI_clamp (by omega), nI_1]
  have b0 : ∀ x, ¬ x = 1 → ¬ x = 2 → pc_add I (nI ch) x = I x := fun x h1 h2 => by rw [ep, mm_up_n _ _ h1, mm_up_n _ _ h2]
  have e2 : pc_add I (nI ch) 2 = mm_up (I 2) L (nI ch) := by rw [ep, mm_up_n _ _ (by decide), mm_up_s]
  have e1 : pc_add I (nI ch) 1 1 = nI (L + 1) := by rw [ep, mm_up_s, mm_up_s]
  refine (w108_ok (fun Q => by rw [c56 (by rw [t2]; exact nI_pos (by omega)) (fun _ => hch), if_pos ⟨nI_pos (by omega), nI_nlt (a := 255) (b := ch) hc (by omega)⟩, if_pos (by rw [t2]; exact hl9)])).mpr ?_
  rw [e1]
  refine hK _ nx _ ⟨SK_B (SK_pl a1 fun x x1 x2 => b0 x (by omega) (by omega)) (by omega), OBp_pl a2 (by omega) (fun x x1 x2 => b0 x (by omega) (by omega)), fun s hs => OBs_pl hs (a3 s hs) (by omega) (by rw [b0 171 (by omega) (by omega)]) (fun x x1 x2 => b0 x (by omega) (by omega)), ?_⟩ (fun x hx => b0 x (by omega) (by omega)) (Nat.le_refl _) (by omega)
  refine ⟨by show L + 1 ≤ 120; omega, e1, fun j hj => ?_, fun j hj => ?_⟩
  · show pc_add I (nI ch) 2 j = mm_up T L (nI ch) j
    have hj : j < L + 1 := hj
    rw [e2]
    by_cases e : j = L
    · rw [e, mm_up_s, mm_up_s]
    · rw [mm_up_n _ _ e, mm_up_n _ _ e]
      exact t3 j (by show j < L; omega)
  · rw [e2]
    by_cases e : j = L
    · rw [e, mm_up_s]; exact hch
    · rw [mm_up_n _ _ e]; exact t4 j hj
theorem e108x {sc : Nat × (Nat → Int32)} {o : Int64} {t : Nat} {Q : mm_Q} (h : OBt I L T) {v : Int32} (hv : ¬ (¬ v < 0 ∧ ¬ 255 < v)) : mm_C (mm_entry 108 [.ref 0, .int v] (hp sc I o t)) Q ↔ Q (.inl (some (.long (mm_LC 1)))) (hp sc I o (t + 1)) :=
  w108_t1 fun Q => by rw [c56 (by rw [h.2.1]; exact nI_pos (by have := h.1; omega)) (fun g => absurd g hv), if_neg hv]
theorem K_play (hL2 : L ≤ 120) (n : Nat) : ∀ {B : Nat} {I : Nat → Nat → Int32} {q : Nat → Int32} (m p : Nat) (l : Int32), SK B I 3 q → B + 600 * n < 2 ^ 30 - 2 → pe_all T L n p = -1 → L ≤ p + n → L ≤ p + m → KV (B + 600 * n) (ra T L m ((p, true), q, l)).2.1 := by
  induction n with
  | zero =>
    intro B I q m p l h _ _ h1 h2
    rw [ra_f (s := ((p, true), q, l)) m (fun g => by have g2 : p < L := g.2; omega)]
    exact h.2
  | succ n ih =>
    intro B I q m p l h hB hv h1 h2
    unfold pe_all at hv
    by_cases c : p < L
    · obtain ⟨m, rfl⟩ : ∃ k, m = k + 1 := ⟨m - 1, by omega⟩
      rw [if_pos c] at hv
      have hv1 : pe_cmd T L p = -1 := Classical.byContradiction fun g => by rw [if_neg g] at hv; exact g hv
      rw [if_pos hv1] at hv
      unfold ra
      rw [if_pos (show (((p, true), q, l) : (Nat × Bool) × (Nat → Int32) × Int32).1.2 = true ∧ (((p, true), q, l) : (Nat × Bool) × (Nat → Int32) × Int32).1.1 < L from ⟨rfl, c⟩)]
      dsimp only
      rcases rc_pe c hL2 q l with ⟨-, a2⟩ | ⟨a1, -⟩
      · obtain ⟨r1, r2⟩ := R_cmd h.1 (by omega) c hL2 hv1 l
        have hk := KV_cmd h.2 (SX_inv h.1) (SX_GR h.1).2.1 (by omega) c hL2 hv1 l
        have e : rc T L p q l = ((p + pc_ln (T p), true), (rc T L p q l).2.1, (rc T L p q l).2.2) := by rw [← a2]
        have hl := (pc_ln_c (T p)).2.1
        rw [e]
        exact KV_B (ih m (p + pc_ln (T p)) _ ⟨r1, hk⟩ (by omega) hv (by omega) (by omega)) (by omega)
      · exact absurd hv1 a1
    · rw [ra_f (s := ((p, true), q, l)) m (fun g => c g.2)]
      exact KV_B h.2 (by omega)
def fr0 : Nat → Int32 := mo_fr fun _ => 0
noncomputable def ld9 (T : Nat → Int32) (L : Nat) : (Nat × Bool) × (Nat → Int32) × Int32 := ra T L 130 ((1, true), fr0, 0)
theorem SN_pl {a : Nat} (h : SN I a) (hI : ∀ x, a ≤ x → x < a + 11 → I' x = I x) : SN I' a := by
  obtain ⟨h1, h2, h3, h4⟩ := h
  refine ⟨fun v hv => ?_, fun k hk => ?_, fun i i1 i2 => ?_, ?_⟩
  · rw [hI _ (by omega) (by omega)]; exact h1 v hv
  · rw [hI _ (by omega) (by omega)]; exact h2 k hk
  · rw [hI _ (by omega) (by omega)]; exact h3 i i1 i2
  · rw [hI _ (by omega) (by omega)]; exact h4
theorem DO_load (hv : pe_err T L = -1) : DO 80 109 [] (r, c, P, u, S, L, T) (.long (ld9 T L).2.2.toInt64) ((ld9 T L).2.1, 0, P, fun _ => 0, S, L, T) := by
  intro sc B I nx o t Q h hB hK
  obtain ⟨a1, a2, a3, t1, t2, t3, t4⟩ := h
  have t1 : L ≤ 120 := t1
  have t2 : I 1 1 = nI L := t2
  have t3 : ∀ j, j < L → I 2 j = T j := t3
  have hv2 : pe_err (I 2) L = -1 := by rw [pe_err_ag t3]; exact hv
  have hall : pe_all T L 120 1 = -1 := by
    have hv' := hv
    unfold pe_err at hv'
    by_cases h1 : 0 < L ∧ T 0 = 86
    · rw [if_pos h1] at hv'; exact hv'
    · rw [if_neg h1] at hv'; exact absurd hv' (by decide)
  have hall2 : pe_all (I 2) L 120 1 = -1 := by rw [pe_all_ag t3]; exact hall
  have l0 : ∀ x, ¬ (3 ≤ x ∧ x < 14) → ¬ x = 14 → ¬ x = 171 → sc_ld0 I x = I x := fun x h1 h2 h3 => by
    unfold sc_ld0
    rw [mm_up_n _ _ h3, mm_up_n _ _ h2, fr_new I (by omega)]
  have hn : SN (sc_ld0 I) 3 := SN_pl (SN_new I 3) (fun x b1 b2 => by
    unfold sc_ld0
    rw [mm_up_n _ _ (by omega), mm_up_n _ _ (by omega)])
  have h0 : SX 0 0 0 (sc_ld0 I) 3 fr0 := R_fresh hn (mo_fr_eq _)
  obtain ⟨p1, p2, p3⟩ := R_play t1 120 130 1 0 h0 (by omega) hall (by omega) (by omega)
  have pk : KV (0 + 600 * 120) (ld9 T L).2.1 := K_play t1 120 130 1 0 ⟨h0, KV_fresh (mo_fr_eq _)⟩ (by omega) hall (by omega) (by omega)
  refine (w109_ok (fun Q => by rw [c59 t4 t2 t1, if_pos hv2])).mpr ?_
  rw [sc_play_ag t3 t1 120 1 _ _ hall2, p2]
  refine hK _ 0 _ ?_ (fun x hx => by rw [p3 x (by omega), l0 x (by omega) (by omega) (by omega)]) (Nat.le_refl _) (by omega)
  revert p1 p3
  generalize (sc_play T L 120 1 (sc_ld0 I) 0).2 = J
  intro p1 p3
  have j0 : ∀ x, ¬ (3 ≤ x ∧ x < 14) → ¬ x = 14 → ¬ x = 171 → J x = I x := fun x b1 b2 b3 => by rw [p3 x b1, l0 x b1 b2 b3]
  have e14 : J 14 1 = 0 ∧ J 14 2 = 0 := by
    rw [p3 14 (by omega)]
    unfold sc_ld0
    rw [mm_up_n _ _ (by decide), mm_up_s]
    exact ⟨rfl, rfl⟩
  have e171 : J 171 0 = 0 ∧ J 171 1 = 0 := by
    rw [p3 171 (by omega)]
    unfold sc_ld0
    rw [mm_up_s]
    exact ⟨rfl, rfl⟩
  refine ⟨⟨SX_B p1 (by omega), KV_B pk (by omega)⟩, ⟨by omega, Nat.zero_le _, e14.1, e14.2, fun i hi => absurd hi (Nat.not_lt_zero i)⟩, fun k hk => ?_, OBt_pl (L := L) (T := T) ⟨t1, t2, t3, t4⟩ (by rw [j0 1 (by omega) (by omega) (by omega)]) (j0 2 (by omega) (by omega) (by omega))⟩
  show OBs _ J k 0 (S k)
  refine ⟨⟨?_, Or.inl rfl⟩, by rw [j0 (184 + 11 * k) (by omega) (by omega) (by omega)]; exact (a3 k hk).2.1, fun g => absurd g (by decide)⟩
  have : k = 0 ∨ k = 1 := by omega
  rcases this with rfl | rfl
  · exact e171.1
  · exact e171.2
end XC9
