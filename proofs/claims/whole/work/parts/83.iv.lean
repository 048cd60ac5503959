/-! what holds behind undo, the slots, the text -/
section XK
variable {B B' : Nat} {I I' : Nat → Nat → Int32}
theorem SX_s {dt dp : Int32} {a : Nat} {r q f : Nat → Int32} (h : SX dt dp B I a r) (hg : GR dt dp B (I a) f q) (hq : ∀ x, x < 150 → q x = r x) : SX dt dp B (mm_up I (a + 2) f) a q := by
  refine ⟨fun v hv => ?_, fun k hk => ?_, ?_⟩
  · rw [mm_up_n _ _ (show ¬ a + (5 + v) = a + 2 by omega)]
    exact VR_eq (h.1 v hv) (fun _ _ => rfl) (fun i hi => hq _ (by omega))
  · rw [mm_up_n _ _ (show ¬ a + 3 = a + 2 by omega), mm_up_n _ _ (show ¬ a + 4 = a + 2 by omega)]
    exact KR_eq (h.2.1 k hk) rfl rfl (hq _ (by omega)) (hq _ (by omega))
  · rw [mm_up_s, mm_up_n _ _ (show ¬ a = a + 2 by omega)]
    exact hg
theorem mo_out_k (g f : Nat → Int32) (p : Nat) {k : Nat} (hk : k < 163) : mo_out g f p 163 k = f (p + k) := by
  unfold mo_out
  rw [if_pos hk]
theorem mo_rm_60 (I : Nat → Nat → Int32) (s : Nat) : mo_rm I s 206 0 = 0 := by
  unfold mo_rm mo_rem
  split
  · rw [mm_up_s, mm_up_n _ _ (by decide), rf_6, mm_up_s]
  · rw [mm_up_s, mm_up_n _ _ (by decide), rf_6, mm_up_s]
theorem rf_60 (I : Nat → Nat → Int32) (w : Int32) : rf I w 206 0 = w := by rw [rf_6, mm_up_s]
theorem INV_undo {nx s j : Nat} (h : INV B I) (hp9 : IVp B I nx (s + 1)) (hj : j < 14) (hnj : (nx + 13) % 14 = j) : INV B (mo_un (pa_back I j) s) := by
  obtain ⟨a1, -, a3, a4⟩ := h
  obtain ⟨p1, p2, p3, p4, p5, p6⟩ := hp9
  have b0 : ∀ x, ¬ x = 14 → ¬ (3 ≤ x ∧ x < 14) → pa_back I j x = I x := fun x h1 h2 => by
    unfold pa_back
    rw [sy_copy_o _ (by omega), mm_up_n _ _ h1]
  have u0 : ∀ x, ¬ x = 206 → ¬ x = 207 → mo_un (pa_back I j) s x = pa_back I j x := fun x h1 h2 => by
    unfold mo_un
    rw [mm_up_n _ _ h2, mm_up_n _ _ h1]
  have hw : ∀ x, ¬ x = 14 → ¬ (3 ≤ x ∧ x < 14) → ¬ x = 206 → ¬ x = 207 → mo_un (pa_back I j) s x = I x := fun x h1 h2 h3 h4 => by rw [u0 x h3 h4, b0 x h1 h2]
  have e6 : ∀ k, ¬ k = 0 → ¬ k = 5 → mo_un (pa_back I j) s 206 k = I 206 k := fun k k0 k5 => by
    unfold mo_un
    rw [mm_up_n _ _ (by decide), mm_up_s, mm_up_n _ _ k5, mm_up_n _ _ k0, b0 206 (by omega) (by omega)]
  have e5 : mo_un (pa_back I j) s 206 5 = nI s := by
    unfold mo_un
    rw [mm_up_n _ _ (by decide), mm_up_s, mm_up_s]
  have e14 : mo_un (pa_back I j) s 14 = mm_up (mm_up (I 14) 1 (nI j)) 2 (I 14 2 - 1) := by
    rw [u0 14 (by omega) (by omega)]
    unfold pa_back
    rw [sy_copy_o _ (by omega), mm_up_s]
  refine ⟨?_, ?_, fun u hu => IVs_eq hu (a3 u hu) (Nat.le_refl _) (hw _ (by omega) (by omega) (by omega) (by omega)) (hw _ (by omega) (by omega) (by omega) (by omega)) (fun x b1 b2 => hw x (by omega) (by omega) (by omega) (by omega)) (hw _ (by omega) (by omega) (by omega) (by omega)), IVt_eq a4 (by rw [hw 1 (by omega) (by omega) (by omega) (by omega)]) (hw _ (by omega) (by omega) (by omega) (by omega)) (e6 9 (by omega) (by omega)) (hw _ (by omega) (by omega) (by omega) (by omega))⟩
  · have ex : rgx nx (s + 1) s = j := by unfold rgx; omega
    have r1 := p6 s (by omega)
    rw [ex] at r1
    have r2 : SX 0 0 B (mm_up I 14 (mm_up (mm_up (I 14) 1 (nI j)) 2 (I 14 2 - 1))) (16 + 11 * j) (fun k => I 210 (163 * s + k)) := SX_pl r1 (fun x b1 b2 => mm_up_n _ _ (by omega))
    have e7 : mo_un (pa_back I j) s 207 = mo_out (pa_back I j 207) (pa_back I j 210) (163 * s) 163 := by
      unfold mo_un
      rw [mm_up_s]
    have r3 : SX 0 0 B (pa_back I j) 3 (mo_un (pa_back I j) s 207) := R_copy (fun i k h1 h2 => by omega) r2 (fun k hk => by rw [e7, mo_out_k _ _ _ hk, b0 210 (by omega) (by omega)])
    exact SX_pl r3 (fun x b1 b2 => u0 x (by omega) (by omega))
  · refine ⟨j, s, by omega, by omega, by rw [e14, mm_up_n _ _ (by decide), mm_up_s], by rw [e14, mm_up_s, p4, nI_pred], e5, fun i hi => ?_⟩
    have ex : rgx j s i = rgx nx (s + 1) i := by unfold rgx; omega
    rw [ex, hw 210 (by omega) (by omega) (by omega) (by omega)]
    have hl := rgx_lt nx (s + 1) i
    exact SX_pl (p6 i (by omega)) (fun x b1 b2 => hw x (by omega) (by omega) (by omega) (by omega))
theorem INV_save {s : Nat} (h : INV B I) (hs : s < 2) : INV B (mo_sv (rf (sy_save I s) 0) s) := by
  obtain ⟨a1, a2, a3, a4⟩ := h
  have b0 : ∀ x, ¬ x = 171 → ¬ (184 + 11 * s ≤ x ∧ x < 184 + 11 * s + 11) → sy_save I s x = I x := fun x h1 h2 => by
    unfold sy_save
    rw [mm_up_n _ _ h1, sy_copy_o _ h2]
  have u0 : ∀ x, ¬ x = 206 → ¬ x = 211 → ¬ x = 212 → mo_sv (rf (sy_save I s) 0) s x = sy_save I s x := fun x h1 h2 h3 => by
    unfold mo_sv
    rw [mm_up_n _ _ h3, mm_up_n _ _ h2, rf_n _ _ h1]
  have hw : ∀ x, ¬ x = 171 → ¬ (184 + 11 * s ≤ x ∧ x < 184 + 11 * s + 11) → ¬ x = 206 → ¬ x = 211 → ¬ x = 212 → mo_sv (rf (sy_save I s) 0) s x = I x := fun x h1 h2 h3 h4 h5 => by rw [u0 x h3 h4 h5, b0 x h1 h2]
  have e6 : ∀ k, ¬ k = 0 → mo_sv (rf (sy_save I s) 0) s 206 k = I 206 k := fun k k0 => by
    unfold mo_sv
    rw [mm_up_n _ _ (by decide), mm_up_n _ _ (by decide), rf_6, mm_up_n _ _ k0, b0 206 (by omega) (by omega)]
  have e171 : mo_sv (rf (sy_save I s) 0) s 171 = mm_up (I 171) s 1 := by
    rw [u0 171 (by omega) (by omega) (by omega)]
    unfold sy_save
    rw [mm_up_s, sy_copy_o _ (by omega)]
  have e212 : mo_sv (rf (sy_save I s) 0) s 212 = mm_up (I 212) s 1 := by
    unfold mo_sv
    rw [mm_up_s, rf_n _ _ (by decide), b0 212 (by omega) (by omega)]
  have e211 : mo_sv (rf (sy_save I s) 0) s 211 = mo_ins (I 211) (I 207) (163 * s) 163 := by
    unfold mo_sv
    rw [mm_up_n _ _ (by decide), mm_up_s, rf_n _ _ (by decide), rf_n _ _ (by decide), b0 211 (by omega) (by omega), b0 207 (by omega) (by omega)]
  refine ⟨?_, IVp_eq a2 (Nat.le_refl _) (fun x b1 b2 => hw x (by omega) (by omega) (by omega) (by omega) (by omega)) (e6 5 (by omega)) (hw _ (by omega) (by omega) (by omega) (by omega) (by omega)), fun u hu => ?_, IVt_eq a4 (by rw [hw 1 (by omega) (by omega) (by omega) (by omega) (by omega)]) (hw _ (by omega) (by omega) (by omega) (by omega) (by omega)) (e6 9 (by omega)) (hw _ (by omega) (by omega) (by omega) (by omega) (by omega))⟩
  · rw [hw 207 (by omega) (by omega) (by omega) (by omega) (by omega)]
    exact SX_pl a1 (fun x b1 b2 => hw x (by omega) (by omega) (by omega) (by omega) (by omega))
  · have r1 : SX 0 0 B (sy_copy I (184 + 11 * s) 3) (184 + 11 * s) (I 207) := R_copy (fun i k h1 h2 => by omega) a1 (fun _ _ => rfl)
    have r2 : SX 0 0 B (mo_sv (rf (sy_save I s) 0) s) (184 + 11 * s) (I 207) := SX_pl r1 (fun x b1 b2 => by
      rw [u0 x (by omega) (by omega) (by omega)]
      unfold sy_save
      rw [mm_up_n _ _ (by omega)])
    by_cases e : u = s
    · subst e
      refine ⟨⟨by rw [e171, e212, mm_up_s, mm_up_s], Or.inr (by rw [e171, mm_up_s])⟩, SX_b01 r2, fun _ => SX_row r2 (fun k hk => ?_)⟩
      rw [e211]
      unfold mo_ins
      rw [if_pos (by omega), show 163 * u + k - 163 * u = k by omega]
    · obtain ⟨c1, c2, c3⟩ := a3 u hu
      have ec : ∀ x, 184 + 11 * u ≤ x → x < 184 + 11 * u + 11 → mo_sv (rf (sy_save I s) 0) s x = I x := fun x b1 b2 => hw x (by omega) (by omega) (by omega) (by omega) (by omega)
      refine ⟨by rw [e171, e212, mm_up_n _ _ e, mm_up_n _ _ e]; exact c1, by rw [ec _ (by omega) (by omega)]; exact c2, fun g => ?_⟩
      rw [e171, mm_up_n _ _ e] at g
      refine SX_row (SX_pl (c3 g) ec) (fun k hk => ?_)
      show mo_sv (rf (sy_save I s) 0) s 211 (163 * u + k) = I 211 (163 * u + k)
      rw [e211]
      unfold mo_ins
      rw [if_neg (by omega)]
theorem INV_rest {s : Nat} (h : INV B I) (hs : s < 2) (h1 : I 171 s = 1) : INV B (mo_rs (rf (sy_rest I s) 0) s) := by
  obtain ⟨a1, a2, a3, a4⟩ := h
  have b0 : ∀ x, ¬ x = 14 → ¬ (3 ≤ x ∧ x < 14) → sy_rest I s x = I x := fun x h1 h2 => by
    unfold sy_rest
    rw [mm_up_n _ _ h1, sy_copy_o _ (by omega)]
  have u0 : ∀ x, ¬ x = 206 → ¬ x = 207 → mo_rs (rf (sy_rest I s) 0) s x = sy_rest I s x := fun x h1 h2 => by
    unfold mo_rs
    rw [mm_up_n _ _ h1, mm_up_n _ _ h2, rf_n _ _ h1]
  have hw : ∀ x, ¬ x = 14 → ¬ (3 ≤ x ∧ x < 14) → ¬ x = 206 → ¬ x = 207 → mo_rs (rf (sy_rest I s) 0) s x = I x := fun x h1 h2 h3 h4 => by rw [u0 x h3 h4, b0 x h1 h2]
  have e6 : ∀ k, ¬ k = 0 → ¬ k = 5 → mo_rs (rf (sy_rest I s) 0) s 206 k = I 206 k := fun k k0 k5 => by
    unfold mo_rs
    rw [mm_up_s, mm_up_n _ _ k5, rf_6, mm_up_n _ _ k0, b0 206 (by omega) (by omega)]
  have e5 : mo_rs (rf (sy_rest I s) 0) s 206 5 = 0 := by
    unfold mo_rs
    rw [mm_up_s, mm_up_s]
  have e14 : mo_rs (rf (sy_rest I s) 0) s 14 = mm_up (mm_up (I 14) 1 0) 2 0 := by
    rw [u0 14 (by omega) (by omega)]
    unfold sy_rest
    rw [mm_up_s, sy_copy_o _ (by omega)]
  refine ⟨?_, ⟨0, 0, by omega, by omega, by rw [e14, mm_up_n _ _ (by decide), mm_up_s]; rfl, by rw [e14, mm_up_s]; rfl, e5, fun i hi => by omega⟩, fun u hu => IVs_eq hu (a3 u hu) (Nat.le_refl _) (hw _ (by omega) (by omega) (by omega) (by omega)) (hw _ (by omega) (by omega) (by omega) (by omega)) (fun x b1 b2 => hw x (by omega) (by omega) (by omega) (by omega)) (hw _ (by omega) (by omega) (by omega) (by omega)), IVt_eq a4 (by rw [hw 1 (by omega) (by omega) (by omega) (by omega)]) (hw _ (by omega) (by omega) (by omega) (by omega)) (e6 9 (by omega) (by omega)) (hw _ (by omega) (by omega) (by omega) (by omega))⟩
  have r1 := (a3 s hs).2.2 h1
  have e7 : mo_rs (rf (sy_rest I s) 0) s 207 = mo_out (I 207) (I 211) (163 * s) 163 := by
    unfold mo_rs
    rw [mm_up_n _ _ (by decide), mm_up_s, rf_n _ _ (by decide), rf_n _ _ (by decide), b0 207 (by omega) (by omega), b0 211 (by omega) (by omega)]
  have r2 : SX 0 0 B (sy_copy I 3 (184 + 11 * s)) 3 (mo_rs (rf (sy_rest I s) 0) s 207) := R_copy (fun i k h1 h2 => by omega) r1 (fun k hk => by rw [e7, mo_out_k _ _ _ hk])
  exact SX_pl r2 (fun x b1 b2 => by
    rw [u0 x (by omega) (by omega)]
    unfold sy_rest
    rw [mm_up_n _ _ (by omega)])
theorem INV_clear (h : INV B I) : INV B (mm_up (mm_up I 1 (mm_up (I 1) 1 0)) 206 (mm_up (mm_up (I 206) 0 0) 9 0)) := by
  obtain ⟨a1, a2, a3, a4⟩ := h
  have hw : ∀ x, ¬ x = 1 → ¬ x = 206 → mm_up (mm_up I 1 (mm_up (I 1) 1 0)) 206 (mm_up (mm_up (I 206) 0 0) 9 0) x = I x := fun x h1 h2 => by rw [mm_up_n _ _ h2, mm_up_n _ _ h1]
  refine ⟨?_, IVp_eq a2 (Nat.le_refl _) (fun x b1 b2 => hw x (by omega) (by omega)) (by rw [mm_up_s, mm_up_n _ _ (by decide), mm_up_n _ _ (by decide)]) (hw _ (by omega) (by omega)), fun u hu => IVs_eq hu (a3 u hu) (Nat.le_refl _) (hw _ (by omega) (by omega)) (hw _ (by omega) (by omega)) (fun x b1 b2 => hw x (by omega) (by omega)) (hw _ (by omega) (by omega)), ?_⟩
  · rw [hw 207 (by omega) (by omega)]
    exact SX_pl a1 (fun x b1 b2 => hw x (by omega) (by omega))
  · obtain ⟨L, t1, t2, t3, t4, t5⟩ := a4
    refine ⟨0, by omega, ?_, ?_, fun j hj => by omega, ?_⟩
    · rw [mm_up_n _ _ (by decide), mm_up_s, mm_up_s]; rfl
    · rw [mm_up_s, mm_up_s]; rfl
    · rw [hw 2 (by omega) (by omega)]; exact t5
theorem INV_add {L : Nat} {c : Int32} (h : INV B I) (ht : IVt I L) (hL : L < 120) (hc : (c.toUInt32 % 65536).toInt32 = c) : INV B (tx_add (pc_add I c) L c) := by
  obtain ⟨a1, a2, a3, -⟩ := h
  obtain ⟨t1, t2, t3, t4, t5⟩ := ht
  have ep : pc_add I c = mm_up (mm_up I 2 (mm_up (I 2) L c)) 1 (mm_up (I 1) 1 (nI (L + 1))) := by
    unfold pc_add
    have hl9 : nI L < (120 : Int32) := nI_lt (b := 120) hL (by omega)
    rw [t2, if_pos hl9, nI_clamp (by omega), nI_1]
  have b0 : ∀ x, ¬ x = 1 → ¬ x = 2 → pc_add I c x = I x := fun x h1 h2 => by rw [ep, mm_up_n _ _ h1, mm_up_n _ _ h2]
  have u0 : ∀ x, ¬ x = 206 → ¬ x = 213 → tx_add (pc_add I c) L c x = pc_add I c x := fun x h1 h2 => by
    unfold tx_add
    rw [mm_up_n _ _ h1, mm_up_n _ _ h2, rf_n _ _ h1]
  have hw : ∀ x, ¬ x = 1 → ¬ x = 2 → ¬ x = 206 → ¬ x = 213 → tx_add (pc_add I c) L c x = I x := fun x h1 h2 h3 h4 => by rw [u0 x h3 h4, b0 x h1 h2]
  have e5 : tx_add (pc_add I c) L c 206 5 = I 206 5 := by
    unfold tx_add
    rw [mm_up_s, mm_up_n _ _ (by decide), rf_6, mm_up_n _ _ (by decide), b0 206 (by omega) (by omega)]
  have e9 : tx_add (pc_add I c) L c 206 9 = nI (L + 1) := by
    unfold tx_add
    rw [mm_up_s, mm_up_s]
  have e2 : tx_add (pc_add I c) L c 2 = mm_up (I 2) L c := by rw [u0 2 (by omega) (by omega), ep, mm_up_n _ _ (by decide), mm_up_s]
  have e213 : tx_add (pc_add I c) L c 213 = mm_up (I 213) L c := by
    unfold tx_add
    rw [mm_up_n _ _ (by decide), mm_up_s, b0 213 (by omega) (by omega)]
  have e1 : tx_add (pc_add I c) L c 1 1 = nI (L + 1) := by rw [u0 1 (by omega) (by omega), ep, mm_up_s, mm_up_s]
  refine ⟨?_, IVp_eq a2 (Nat.le_refl _) (fun x b1 b2 => hw x (by omega) (by omega) (by omega) (by omega)) e5 (hw _ (by omega) (by omega) (by omega) (by omega)), fun u hu => IVs_eq hu (a3 u hu) (Nat.le_refl _) (hw _ (by omega) (by omega) (by omega) (by omega)) (hw _ (by omega) (by omega) (by omega) (by omega)) (fun x b1 b2 => hw x (by omega) (by omega) (by omega) (by omega)) (hw _ (by omega) (by omega) (by omega) (by omega)), L + 1, by omega, e1, e9, fun j hj => ?_, fun j hj => ?_⟩
  · rw [hw 207 (by omega) (by omega) (by omega) (by omega)]
    exact SX_pl a1 (fun x b1 b2 => hw x (by omega) (by omega) (by omega) (by omega))
  · rw [e2, e213]
    by_cases e : j = L
    · rw [e, mm_up_s, mm_up_s]
    · rw [mm_up_n _ _ e, mm_up_n _ _ e]; exact t4 j (by omega)
  · rw [e2]
    by_cases e : j = L
    · rw [e, mm_up_s]; exact hc
    · rw [mm_up_n _ _ e]; exact t5 j hj
theorem SN_pl {a : Nat} (h : SN I a) (hI : ∀ x, a ≤ x → x < a + 11 → I' x = I x) : SN I' a := by
  obtain ⟨h1, h2, h3, h4⟩ := h
  refine ⟨fun v hv => ?_, fun k hk => ?_, fun i i1 i2 => ?_, ?_⟩
  · rw [hI _ (by omega) (by omega)]; exact h1 v hv
  · rw [hI _ (by omega) (by omega)]; exact h2 k hk
  · rw [hI _ (by omega) (by omega)]; exact h3 i i1 i2
  · rw [hI _ (by omega) (by omega)]; exact h4
theorem INV_load {L : Nat} (h : INV B I) (ht : IVt I L) (hv : pe_err (I 2) L = -1) (hB : 72000 ≤ B') (hB2 : B ≤ B') : (sc_play (I 2) L 120 1 (sc_ld0 I) 0).1 = (rd_all (I 213) L (mo_fr (I 209))).2.2 ∧ ∀ J : Nat → Nat → Int32, J = rd_h (sc_play (I 2) L 120 1 (sc_ld0 I) 0).2 (I 206) (rd_all (I 213) L (mo_fr (I 209))) → INV B' (mo_ld J) := by
  obtain ⟨a1, a2, a3, -⟩ := h
  obtain ⟨t1, t2, t3, t4, t5⟩ := ht
  have hall : pe_all (I 2) L 120 1 = -1 := by
    unfold pe_err at hv
    by_cases h1 : 0 < L ∧ I 2 0 = 86
    · rw [if_pos h1] at hv; exact hv
    · rw [if_neg h1] at hv; exact absurd hv (by decide)
  have hall' : pe_all (I 213) L 120 1 = -1 := by rw [← pe_all_ag t4]; exact hall
  have hrd : rd_all (I 213) L (mo_fr (I 209)) = ra (I 213) L 130 ((1, true), mo_fr (I 209), 0) := by
    unfold rd_all rd_0
    rw [pe_err_ag t4] at hv
    unfold pe_err at hv
    by_cases h1 : 0 < L ∧ I 213 0 = 86
    · rw [if_pos h1]
    · rw [if_neg h1] at hv; exact absurd hv (by decide)
  have l0 : ∀ x, ¬ (3 ≤ x ∧ x < 14) → ¬ x = 14 → ¬ x = 171 → sc_ld0 I x = I x := fun x h1 h2 h3 => by
    unfold sc_ld0
    rw [mm_up_n _ _ h3, mm_up_n _ _ h2, fr_new I (by omega)]
  have hn : SN (sc_ld0 I) 3 := SN_pl (SN_new I 3) (fun x b1 b2 => by
    unfold sc_ld0
    rw [mm_up_n _ _ (by omega), mm_up_n _ _ (by omega)])
  have h0 : SX 0 0 0 (sc_ld0 I) 3 (mo_fr (I 209)) := R_fresh hn (mo_fr_eq _)
  obtain ⟨p1, p2, p3⟩ := R_play t1 120 130 1 0 h0 (by omega) hall' (by omega) (by omega)
  rw [sc_play_ag t4 t1 120 1 _ _ hall, hrd]
  refine ⟨p2, ?_⟩
  revert p1 p2 p3
  generalize (sc_play (I 213) L 120 1 (sc_ld0 I) 0).2 = P
  generalize ra (I 213) L 130 ((1, true), mo_fr (I 209), 0) = R
  intro p1 p2 p3 J hJ
  have j0 : ∀ x, ¬ x = 206 → ¬ x = 209 → J x = P x := fun x h1 h2 => by
    rw [hJ]
    unfold rd_h
    rw [mm_up_n _ _ h1, mm_up_n _ _ h2]
  have j6 : J 206 9 = I 206 9 := by
    rw [hJ]
    unfold rd_h
    rw [mm_up_s]
    exact (tx_r _ _ _ _).2.2.2.1
  have j9 : J 209 = R.2.1 := by
    rw [hJ]
    unfold rd_h
    rw [mm_up_n _ _ (by decide), mm_up_s]
  have u0 : ∀ x, ¬ x = 206 → ¬ x = 207 → ¬ x = 212 → mo_ld J x = J x := fun x h1 h2 h3 => by
    unfold mo_ld
    rw [mm_up_n _ _ h3, mm_up_n _ _ h2, mm_up_n _ _ h1]
  have hw : ∀ x, ¬ (3 ≤ x ∧ x < 14) → ¬ x = 14 → ¬ x = 171 → ¬ x = 206 → ¬ x = 207 → ¬ x = 209 → ¬ x = 212 → mo_ld J x = I x := fun x b1 b2 b3 b4 b5 b6 b7 => by rw [u0 x b4 b5 b7, j0 x b4 b6, p3 x b1, l0 x b1 b2 b3]
  have e7 : mo_ld J 207 = mo_cp R.2.1 163 (J 207) := by
    unfold mo_ld
    rw [mm_up_n _ _ (by decide), mm_up_s, j9]
  have e14 : mo_ld J 14 1 = 0 ∧ mo_ld J 14 2 = 0 := by
    rw [u0 14 (by omega) (by omega) (by omega), j0 14 (by omega) (by omega), p3 14 (by omega)]
    unfold sc_ld0
    rw [mm_up_n _ _ (by decide), mm_up_s]
    exact ⟨rfl, rfl⟩
  have e171 : mo_ld J 171 0 = 0 ∧ mo_ld J 171 1 = 0 := by
    rw [u0 171 (by omega) (by omega) (by omega), j0 171 (by omega) (by omega), p3 171 (by omega)]
    unfold sc_ld0
    rw [mm_up_s]
    exact ⟨rfl, rfl⟩
  have e212 : mo_ld J 212 0 = 0 ∧ mo_ld J 212 1 = 0 := by
    unfold mo_ld
    rw [mm_up_s]
    exact ⟨rfl, rfl⟩
  have e6 : mo_ld J 206 5 = 0 ∧ mo_ld J 206 9 = I 206 9 := by
    unfold mo_ld
    rw [mm_up_n _ _ (by decide), mm_up_n _ _ (by decide), mm_up_s, mm_up_s, mm_up_n _ _ (by decide), mm_up_n _ _ (by decide)]
    exact ⟨rfl, j6⟩
  refine ⟨?_, ⟨0, 0, by omega, by omega, e14.1, e14.2, e6.1, fun i hi => by omega⟩, fun u hu => ?_, L, t1, by rw [hw 1 (by omega) (by omega) (by omega) (by omega) (by omega) (by omega) (by omega)]; exact t2, by rw [e6.2]; exact t3, by rw [hw 2 (by omega) (by omega) (by omega) (by omega) (by omega) (by omega) (by omega), hw 213 (by omega) (by omega) (by omega) (by omega) (by omega) (by omega) (by omega)]; exact t4, by rw [hw 2 (by omega) (by omega) (by omega) (by omega) (by omega) (by omega) (by omega)]; exact t5⟩
  · rw [e7]
    refine SX_B (SX_row (SX_pl p1 (fun x b1 b2 => ?_)) (fun k hk => mo_cp_163 _ _ hk)) (by omega)
    rw [u0 x (by omega) (by omega) (by omega), j0 x (by omega) (by omega)]
  · obtain ⟨c1, c2, c3⟩ := a3 u hu
    have e1 : mo_ld J 171 u = 0 ∧ mo_ld J 212 u = 0 := by
      have : u = 0 ∨ u = 1 := by omega
      rcases this with rfl | rfl
      · exact ⟨e171.1, e212.1⟩
      · exact ⟨e171.2, e212.2⟩
    refine ⟨⟨by rw [e1.1, e1.2], Or.inl e1.1⟩, by rw [hw (184 + 11 * u) (by omega) (by omega) (by omega) (by omega) (by omega) (by omega) (by omega)]; exact c2, fun g => ?_⟩
    rw [e1.1] at g
    exact absurd g (by decide)
end XK
