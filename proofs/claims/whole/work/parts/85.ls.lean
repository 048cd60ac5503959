/-! each call of the law: the actions, the text, the slots, the simulation -/
section XM
variable {sc : Nat × (Nat → Int32)} {I : Nat → Nat → Int32} {o : Int64} {t : Nat} {Q : mm_Q}
variable {n B : Nat} {x5 x6 : Option Value}
theorem ag_c {v : Int32} (h1 : ¬ v < 0 ∧ ¬ 255 < v) : (v.toUInt32 % 65536).toInt32 = v := by
  have e255 : (255 : Int32).toInt = 255 := by decide
  have a2 : ¬ (255 : Int32).toInt < v.toInt := fun g => h1.2 (Int32.lt_iff_toInt_lt.mpr g)
  have h2 : v < nI 256 := by rw [Int32.lt_iff_toInt_lt, nI_toInt (by omega)]; omega
  have h0 := Int32.le_iff_toInt_le.mp (Int32.not_lt.mp h1.1)
  have e0 : (0 : Int32).toInt = 0 := by decide
  have h3 : ∀ j, j < 256 → ((nI j).toUInt32 % 65536).toInt32 = nI j := by decide +kernel
  have e : v = nI v.toInt.toNat := Int32.toInt_inj.mp (by rw [nI_toInt (by omega)]; omega)
  rw [e]
  exact h3 _ (by omega)
theorem rng {v : Int32} {l m : Nat} (hl : l < 2 ^ 31) (hm : m < 2 ^ 31) (h : ¬ v < nI l ∧ ¬ nI m < v) : ∃ k, l ≤ k ∧ k ≤ m ∧ v = nI k := by
  have a1 : ¬ v.toInt < (nI l).toInt := fun g => h.1 (Int32.lt_iff_toInt_lt.mpr g)
  have a2 : ¬ (nI m).toInt < v.toInt := fun g => h.2 (Int32.lt_iff_toInt_lt.mpr g)
  rw [nI_toInt hl] at a1
  rw [nI_toInt hm] at a2
  exact ⟨v.toInt.toNat, by omega, by omega, Int32.toInt_inj.mp (by rw [nI_toInt (by omega)]; omega)⟩
theorem mo_un_60 (I : Nat → Nat → Int32) (s : Nat) : mo_un I s 206 0 = 0 := by
  unfold mo_un
  rw [mm_up_n _ _ (by decide), mm_up_s, mm_up_n _ _ (by decide), mm_up_s]
theorem act_60 (J : Nat → Nat → Int32) (c : Nat) (q : Nat → Int32) : mm_up (mo_rm J c) 207 q 206 0 = 0 := by
  rw [mm_up_n _ _ (by decide)]
  exact mo_rm_60 _ _
theorem ls24 (hL : sc.1 ≤ 2048) (hn : n + 3 < sc.1) (h : INV B I) (hB : B < 2 ^ 29) (hK : lk sc Q n (B + 80000) (t + 1)) : mm_C (213, mm_blk 213 46, [some (.float 0), some (.ref 0), some (.ref 206), some (.ref 214), some (.int (nI n)), x5, x6], [], (hp sc I o t)) Q := by
  obtain ⟨nx, cc, hpq⟩ := h.2.1
  obtain ⟨j, hj, hw, hnj⟩ := pa_wrap_j hpq.1 hpq.2.2.1
  have b5 := (INV_b01 h).1
  have b6 := (INV_b01 h).2
  have p5 := hpq.2.2.2.2.1
  have hcc := hpq.2.1
  have e206 : pa_rem I j 206 = I 206 := pa_rem_n I j (by omega) (by omega)
  have e207 : pa_rem I j 207 = I 207 := pa_rem_n I j (by omega) (by omega)
  have h3 := pa_rem_3 h.1 hj
  by_cases h1 : ¬ sc.2 (n + 1) < 0 ∧ sc.2 (n + 1) < 60
  · obtain ⟨k, hk, ek⟩ := cJ (n := 60) (by omega) h1.1 h1.2
    by_cases h2 : ¬ sc.2 (n + 2) < 1 ∧ ¬ 100 < sc.2 (n + 2)
    · obtain ⟨w, hw1, hw2, ew⟩ := rng (l := 1) (m := 100) (by omega) (by omega) h2
      have e9 : (sy_dn (I 6) (sc.2 (n + 1)) = true) = (0 < I 207 (30 + 2 * (sc.2 (n + 1)).toNatClampNeg)) := by rw [ek, (cK hk).2.1]; exact R_dn h.1 hk
      by_cases hd : sy_dn (I 6) (sc.2 (n + 1)) = true
      · have hd2 := hd
        rw [e9] at hd2
        exact lwt24 hL hn (k := 3) (by decide) (fun Q => w198_t2 (fun Q => by rw [c81 hj hw b5 b6, if_pos h1, if_pos h2, if_neg (fun g => g hd)])) (fun Q hq => by rw [c168 hcc p5 (fun _ _ e => mo_inv_pok (mo_inv_press (SX_inv h.1)) e), if_pos h1, if_pos h2, if_pos hd2]; exact hq) (rf_60 _ _) (hK _ _ _ _ _ (INV_rf h (by omega) 3) (by omega))
      · have hd2 := hd
        rw [e9] at hd2
        obtain ⟨r1, r2⟩ := R_strike h3 (by omega) hk hw1 hw2
        have o1 : ∀ x, ¬ (3 ≤ x ∧ x < 14) → (sy_strike (pa_rem I j) 3 (nI k) (nI w)).2 x = pa_rem I j x := fun x hx => fr_strike _ _ _ (by omega)
        have q7 : (sy_strike (pa_rem I j) 3 (nI k) (nI w)).2 207 = I 207 := by rw [o1 207 (by omega), e207]
        have q6 : (sy_strike (pa_rem I j) 3 (nI k) (nI w)).2 206 5 = nI cc := by rw [o1 206 (by omega), e206]; exact p5
        exact lwo24 hL hn (fun Q => w198_ok (fun Q => by rw [c81 hj hw b5 b6, if_pos h1, if_pos h2, if_pos hd, ek, ew])) (fun Q hq => by rw [c168 hcc q6 (fun _ _ e => mo_inv_pok (mo_inv_press (by rw [q7]; exact SX_inv h.1)) e), if_pos h1, if_pos h2, q7, if_neg hd2, ek, ew, (cK hk).2.1, ← r1]; exact hq) (act_60 _ _ _) (hK _ _ _ _ _ (INV_act h hpq hj hnj o1 (SX_B r2 (by omega)) (by omega)) (by omega))
    · exact lwt24 hL hn (k := 2) (by decide) (fun Q => w198_t1 (fun Q => by rw [c81 hj hw b5 b6, if_pos h1, if_neg h2])) (fun Q hq => by rw [c168 hcc p5 (fun _ _ e => mo_inv_pok (mo_inv_press (SX_inv h.1)) e), if_pos h1, if_neg h2]; exact hq) (rf_60 _ _) (hK _ _ _ _ _ (INV_rf h (by omega) 2) (by omega))
  · exact lwt24 hL hn (k := 1) (by decide) (fun Q => w198_t0 (fun Q => by rw [c81 hj hw b5 b6, if_neg h1])) (fun Q hq => by rw [c168 hcc p5 (fun _ _ e => mo_inv_pok (mo_inv_press (SX_inv h.1)) e), if_neg h1]; exact hq) (rf_60 _ _) (hK _ _ _ _ _ (INV_rf h (by omega) 1) (by omega))
theorem ls25 (hL : sc.1 ≤ 2048) (hn : n + 3 < sc.1) (h : INV B I) (hB : B < 2 ^ 29) (hK : lk sc Q n (B + 80000) (t + 1)) : mm_C (213, mm_blk 213 49, [some (.float 0), some (.ref 0), some (.ref 206), some (.ref 214), some (.int (nI n)), x5, x6], [], (hp sc I o t)) Q := by
  obtain ⟨nx, cc, hpq⟩ := h.2.1
  obtain ⟨j, hj, hw, hnj⟩ := pa_wrap_j hpq.1 hpq.2.2.1
  have b5 := (INV_b01 h).1
  have b6 := (INV_b01 h).2
  have p5 := hpq.2.2.2.2.1
  have hcc := hpq.2.1
  have e206 : pa_rem I j 206 = I 206 := pa_rem_n I j (by omega) (by omega)
  have e207 : pa_rem I j 207 = I 207 := pa_rem_n I j (by omega) (by omega)
  have h3 := pa_rem_3 h.1 hj
  by_cases h1 : ¬ sc.2 (n + 1) < 0 ∧ sc.2 (n + 1) < 60
  · obtain ⟨k, hk, ek⟩ := cJ (n := 60) (by omega) h1.1 h1.2
    have e9 : (sy_dn (I (3 + 3)) (sc.2 (n + 1)) = true) = (0 < I 207 (30 + 2 * (sc.2 (n + 1)).toNatClampNeg)) := by rw [ek, (cK hk).2.1]; exact R_dn h.1 hk
    by_cases hd : sy_dn (I (3 + 3)) (sc.2 (n + 1)) = true
    · have hd2 := hd
      rw [e9] at hd2
      obtain ⟨r1, r2⟩ := R_release h3 hk
      have o1 : ∀ x, ¬ (3 ≤ x ∧ x < 14) → (sy_release (pa_rem I j) 3 (nI k)).2 x = pa_rem I j x := fun x hx => fr_release _ _ (by omega)
      have q7 : (sy_release (pa_rem I j) 3 (nI k)).2 207 = I 207 := by rw [o1 207 (by omega), e207]
      have q6 : (sy_release (pa_rem I j) 3 (nI k)).2 206 5 = nI cc := by rw [o1 206 (by omega), e206]; exact p5
      exact lwo25 hL hn (fun Q => w199_ok (fun Q => by rw [c82 hj hw b5 b6, if_pos h1, if_pos hd, ek])) (fun Q hq => by rw [c169 hcc q6, if_pos h1, q7, if_pos hd2, ek, (cK hk).2.1, ← r1]; exact hq) (act_60 _ _ _) (hK _ _ _ _ _ (INV_act h hpq hj hnj o1 (SX_B r2 (by omega)) (by omega)) (by omega))
    · have hd2 := hd
      rw [e9] at hd2
      exact lwt25 hL hn (k := 2) (by decide) (fun Q => w199_t2 (fun Q => by rw [c82 hj hw b5 b6, if_pos h1, if_neg hd])) (fun Q hq => by rw [c169 hcc p5, if_pos h1, if_neg hd2]; exact hq) (rf_60 _ _) (hK _ _ _ _ _ (INV_rf h (by omega) 2) (by omega))
  · exact lwt25 hL hn (k := 1) (by decide) (fun Q => w199_t0 (fun Q => by rw [c82 hj hw b5 b6, if_neg h1])) (fun Q hq => by rw [c169 hcc p5, if_neg h1]; exact hq) (rf_60 _ _) (hK _ _ _ _ _ (INV_rf h (by omega) 1) (by omega))
theorem ls26 (hL : sc.1 ≤ 2048) (hn : n + 3 < sc.1) (h : INV B I) (hB : B < 2 ^ 29) (hK : lk sc Q n (B + 80000) (t + 1)) : mm_C (213, mm_blk 213 52, [some (.float 0), some (.ref 0), some (.ref 206), some (.ref 214), some (.int (nI n)), x5, x6], [], (hp sc I o t)) Q := by
  obtain ⟨nx, cc, hpq⟩ := h.2.1
  obtain ⟨j, hj, hw, hnj⟩ := pa_wrap_j hpq.1 hpq.2.2.1
  have b5 := (INV_b01 h).1
  have b6 := (INV_b01 h).2
  have p5 := hpq.2.2.2.2.1
  have hcc := hpq.2.1
  have e206 : pa_rem I j 206 = I 206 := pa_rem_n I j (by omega) (by omega)
  have e207 : pa_rem I j 207 = I 207 := pa_rem_n I j (by omega) (by omega)
  have h3 := pa_rem_3 h.1 hj
  have hd : mm_b01 (if sc.2 (n + 1) = 0 then 0 else 1) := by
    split
    · exact Or.inl rfl
    · exact Or.inr rfl
  revert hd
  obtain ⟨d, ed⟩ : ∃ d : Int32, d = if sc.2 (n + 1) = 0 then 0 else 1 := ⟨_, rfl⟩
  rw [← ed]
  intro hd
  obtain ⟨r1, r2⟩ := R_pedal h3 hd
  have o1 : ∀ x, ¬ (3 ≤ x ∧ x < 14) → (sy_pedal (pa_rem I j) 3 d).2 x = pa_rem I j x := fun x hx => fr_pedal _ _ (by omega)
  have q7 : (sy_pedal (pa_rem I j) 3 d).2 207 = I 207 := by rw [o1 207 (by omega), e207]
  have q6 : (sy_pedal (pa_rem I j) 3 d).2 206 5 = nI cc := by rw [o1 206 (by omega), e206]; exact p5
  exact lwa26 hL hn (fun Q => by rw [← ed, c83 hj hw b5 b6 hd]) (fun Q hq => by rw [← ed, c170 hcc q6 (by rw [q7]; exact mo_inv_kok (SX_inv h.1)), q7, ← r1]; exact hq) (hK _ _ _ _ _ (INV_act h hpq hj hnj o1 (SX_B r2 (by omega)) (by omega)) (by omega))
theorem ls27 (hL : sc.1 ≤ 2048) (hn : n + 3 < sc.1) (h : INV B I) (hB : B < 2 ^ 29) (hK : lk sc Q n (B + 80000) (t + 1)) : mm_C (213, mm_blk 213 57, [some (.float 0), some (.ref 0), some (.ref 206), some (.ref 214), some (.int (nI n)), x5, x6], [], (hp sc I o t)) Q := by
  obtain ⟨nx, cc, hpq⟩ := h.2.1
  obtain ⟨j, hj, hw, hnj⟩ := pa_wrap_j hpq.1 hpq.2.2.1
  have b5 := (INV_b01 h).1
  have b6 := (INV_b01 h).2
  have p5 := hpq.2.2.2.2.1
  have hcc := hpq.2.1
  have e206 : pa_rem I j 206 = I 206 := pa_rem_n I j (by omega) (by omega)
  have e207 : pa_rem I j 207 = I 207 := pa_rem_n I j (by omega) (by omega)
  have h3 := pa_rem_3 h.1 hj
  by_cases h1 : ¬ sc.2 (n + 1) < 1 ∧ ¬ 1000 < sc.2 (n + 1)
  · by_cases h2 : ¬ sc.2 (n + 2) < 1 ∧ ¬ 1000 < sc.2 (n + 2)
    · obtain ⟨x1, ha1, ha2, ea⟩ := rng (l := 1) (m := 1000) (by omega) (by omega) h1
      obtain ⟨x2, hb1, hb2, eb⟩ := rng (l := 1) (m := 1000) (by omega) (by omega) h2
      have o1 : ∀ x, ¬ (3 ≤ x ∧ x < 14) → (mm_up (pa_rem I j) (3 + 2) (mm_up (mm_up (pa_rem I j (3 + 2)) 0 (sc.2 (n + 1))) 1 (sc.2 (n + 2)))) x = pa_rem I j x := fun x hx => mm_up_n _ _ (by omega)
      have r2 : SX 0 0 B (mm_up (pa_rem I j) (3 + 2) (mm_up (mm_up (pa_rem I j (3 + 2)) 0 (sc.2 (n + 1))) 1 (sc.2 (n + 2)))) 3 (mm_up (mm_up (I 207) 154 (sc.2 (n + 2))) 153 (sc.2 (n + 1))) := by
        refine SX_s h3 ?_ (fun x hx => by rw [mm_up_n _ _ (by omega), mm_up_n _ _ (by omega)])
        obtain ⟨g4, g5, g6, g7, g8, s0, s1, s2, s3⟩ := h3.2.2
        simp +decide only [GR, mm_up_s, mm_up_n, not_false_eq_true]
        exact ⟨g4, g5, g6, g7, g8, ⟨trivial, x1, ha1, ha2, ea⟩, ⟨trivial, x2, hb1, hb2, eb⟩, s2, s3⟩
      have ea9 : pa_rem I j (3 + 2) 0 = I 207 153 := h3.2.2.2.2.2.2.2.1.1
      have q7 : (mm_up (pa_rem I j) (3 + 2) (mm_up (mm_up (pa_rem I j (3 + 2)) 0 (sc.2 (n + 1))) 1 (sc.2 (n + 2)))) 207 = I 207 := by rw [o1 207 (by omega), e207]
      have q6 : (mm_up (pa_rem I j) (3 + 2) (mm_up (mm_up (pa_rem I j (3 + 2)) 0 (sc.2 (n + 1))) 1 (sc.2 (n + 2)))) 206 5 = nI cc := by rw [o1 206 (by omega), e206]; exact p5
      exact lwo27 hL hn (fun Q => w200_ok (fun Q => by rw [c84 hj hw b5 b6, if_pos h1, if_pos h2])) (fun Q hq => by rw [c171 hcc q6, if_pos ⟨h1, h2⟩, q7, ← ea9]; exact hq) (act_60 _ _ _) (hK _ _ _ _ _ (INV_act h hpq hj hnj o1 (SX_B r2 (by omega)) (by omega)) (by omega))
    · exact lwt27 hL hn (k := 1) (by decide) (fun Q => w200_t1 (fun Q => by rw [c84 hj hw b5 b6, if_pos h1, if_neg h2])) (fun Q hq => by rw [c171 hcc p5, if_neg (fun g => h2 g.2)]; exact hq) (rf_60 _ _) (hK _ _ _ _ _ (INV_rf h (by omega) 1) (by omega))
  · exact lwt27 hL hn (k := 1) (by decide) (fun Q => w200_t1 (fun Q => by rw [c84 hj hw b5 b6, if_neg h1])) (fun Q hq => by rw [c171 hcc p5, if_neg (fun g => h1 g.1)]; exact hq) (rf_60 _ _) (hK _ _ _ _ _ (INV_rf h (by omega) 1) (by omega))
theorem ls28 (hL : sc.1 ≤ 2048) (hn : n + 3 < sc.1) (h : INV B I) (hB : B < 2 ^ 29) (hK : lk sc Q n (B + 80000) (t + 1)) : mm_C (213, mm_blk 213 60, [some (.float 0), some (.ref 0), some (.ref 206), some (.ref 214), some (.int (nI n)), x5, x6], [], (hp sc I o t)) Q := by
  obtain ⟨nx, cc, hpq⟩ := h.2.1
  obtain ⟨j, hj, hw, hnj⟩ := pa_wrap_j hpq.1 hpq.2.2.1
  have b5 := (INV_b01 h).1
  have b6 := (INV_b01 h).2
  have p5 := hpq.2.2.2.2.1
  have hcc := hpq.2.1
  have e206 : pa_rem I j 206 = I 206 := pa_rem_n I j (by omega) (by omega)
  have e207 : pa_rem I j 207 = I 207 := pa_rem_n I j (by omega) (by omega)
  have h3 := pa_rem_3 h.1 hj
  by_cases h1 : ¬ sc.2 (n + 1) < 0 ∧ ¬ 100 < sc.2 (n + 1)
  · by_cases h2 : ¬ sc.2 (n + 2) < 1 ∧ ¬ 1000 < sc.2 (n + 2)
    · obtain ⟨x1, ha1, ha2, ea⟩ := rng (l := 0) (m := 100) (by omega) (by omega) h1
      obtain ⟨x2, hb1, hb2, eb⟩ := rng (l := 1) (m := 1000) (by omega) (by omega) h2
      have o1 : ∀ x, ¬ (3 ≤ x ∧ x < 14) → (mm_up (pa_rem I j) (3 + 2) (mm_up (mm_up (pa_rem I j (3 + 2)) 2 (sc.2 (n + 1))) 3 (sc.2 (n + 2)))) x = pa_rem I j x := fun x hx => mm_up_n _ _ (by omega)
      have r2 : SX 0 0 B (mm_up (pa_rem I j) (3 + 2) (mm_up (mm_up (pa_rem I j (3 + 2)) 2 (sc.2 (n + 1))) 3 (sc.2 (n + 2)))) 3 (mm_up (mm_up (I 207) 156 (sc.2 (n + 2))) 155 (sc.2 (n + 1))) := by
        refine SX_s h3 ?_ (fun x hx => by rw [mm_up_n _ _ (by omega), mm_up_n _ _ (by omega)])
        obtain ⟨g4, g5, g6, g7, g8, s0, s1, s2, s3⟩ := h3.2.2
        simp +decide only [GR, mm_up_s, mm_up_n, not_false_eq_true]
        exact ⟨g4, g5, g6, g7, g8, s0, s1, ⟨trivial, x1, ha2, ea⟩, ⟨trivial, x2, hb1, hb2, eb⟩⟩
      have ea9 : pa_rem I j (3 + 2) 2 = I 207 155 := h3.2.2.2.2.2.2.2.2.2.1.1
      have q7 : (mm_up (pa_rem I j) (3 + 2) (mm_up (mm_up (pa_rem I j (3 + 2)) 2 (sc.2 (n + 1))) 3 (sc.2 (n + 2)))) 207 = I 207 := by rw [o1 207 (by omega), e207]
      have q6 : (mm_up (pa_rem I j) (3 + 2) (mm_up (mm_up (pa_rem I j (3 + 2)) 2 (sc.2 (n + 1))) 3 (sc.2 (n + 2)))) 206 5 = nI cc := by rw [o1 206 (by omega), e206]; exact p5
      exact lwo28 hL hn (fun Q => w201_ok (fun Q => by rw [c85 hj hw b5 b6, if_pos h1, if_pos h2])) (fun Q hq => by rw [c172 hcc q6, if_pos ⟨h1, h2⟩, q7, ← ea9]; exact hq) (act_60 _ _ _) (hK _ _ _ _ _ (INV_act h hpq hj hnj o1 (SX_B r2 (by omega)) (by omega)) (by omega))
    · exact lwt28 hL hn (k := 1) (by decide) (fun Q => w201_t1 (fun Q => by rw [c85 hj hw b5 b6, if_pos h1, if_neg h2])) (fun Q hq => by rw [c172 hcc p5, if_neg (fun g => h2 g.2)]; exact hq) (rf_60 _ _) (hK _ _ _ _ _ (INV_rf h (by omega) 1) (by omega))
  · exact lwt28 hL hn (k := 1) (by decide) (fun Q => w201_t1 (fun Q => by rw [c85 hj hw b5 b6, if_neg h1])) (fun Q hq => by rw [c172 hcc p5, if_neg (fun g => h1 g.1)]; exact hq) (rf_60 _ _) (hK _ _ _ _ _ (INV_rf h (by omega) 1) (by omega))
theorem ls29 (hL : sc.1 ≤ 2048) (hn : n + 3 < sc.1) (h : INV B I) (hB : B < 2 ^ 29) (hK : lk sc Q n (B + 80000) (t + 1)) : mm_C (213, mm_blk 213 63, [some (.float 0), some (.ref 0), some (.ref 206), some (.ref 214), some (.int (nI n)), x5, x6], [], (hp sc I o t)) Q := by
  obtain ⟨nx, cc, hpq⟩ := h.2.1
  obtain ⟨j, hj, hw, hnj⟩ := pa_wrap_j hpq.1 hpq.2.2.1
  have b5 := (INV_b01 h).1
  have b6 := (INV_b01 h).2
  have p5 := hpq.2.2.2.2.1
  have hcc := hpq.2.1
  have e206 : pa_rem I j 206 = I 206 := pa_rem_n I j (by omega) (by omega)
  have e207 : pa_rem I j 207 = I 207 := pa_rem_n I j (by omega) (by omega)
  have h3 := pa_rem_3 h.1 hj
  by_cases h1 : ¬ sc.2 (n + 1) < 0 ∧ ¬ 3 < sc.2 (n + 1)
  · obtain ⟨x1, ha1, ha2, ea⟩ := rng (l := 0) (m := 3) (by omega) (by omega) h1
    have o1 : ∀ x, ¬ (3 ≤ x ∧ x < 14) → (mm_up (pa_rem I j) 3 (mm_up (pa_rem I j 3) 7 (sc.2 (n + 1)))) x = pa_rem I j x := fun x hx => mm_up_n _ _ (by omega)
    have r2 : SX 0 0 B (mm_up (pa_rem I j) 3 (mm_up (pa_rem I j 3) 7 (sc.2 (n + 1)))) 3 (mm_up (I 207) 152 (sc.2 (n + 1))) := by
      obtain ⟨g4, g5, g6, g7, g8, gs⟩ := h3.2.2
      refine SX_g h3 ?_ (fun x hx => mm_up_n _ _ (by omega))
      simp +decide only [GR, mm_up_s, mm_up_n, not_false_eq_true]
      refine ⟨g4, g5, g6, ⟨trivial, ?_⟩, g8, gs⟩
      rw [ea]
      have : x1 = 0 ∨ x1 = 1 ∨ x1 = 2 ∨ x1 = 3 := by omega
      rcases this with e | e | e | e <;> rw [e]
      · exact Or.inl rfl
      · exact Or.inr (Or.inl rfl)
      · exact Or.inr (Or.inr (Or.inl rfl))
      · exact Or.inr (Or.inr (Or.inr rfl))
    have ea9 : pa_rem I j 3 7 = I 207 152 := h3.2.2.2.2.2.1.1
    have q7 : (mm_up (pa_rem I j) 3 (mm_up (pa_rem I j 3) 7 (sc.2 (n + 1)))) 207 = I 207 := by rw [o1 207 (by omega), e207]
    have q6 : (mm_up (pa_rem I j) 3 (mm_up (pa_rem I j 3) 7 (sc.2 (n + 1)))) 206 5 = nI cc := by rw [o1 206 (by omega), e206]; exact p5
    exact lwo29 hL hn (fun Q => w202_ok (fun Q => by rw [c86 hj hw b5 b6, if_pos h1])) (fun Q hq => by rw [c173 hcc q6, if_pos h1, q7, ← ea9]; exact hq) (act_60 _ _ _) (hK _ _ _ _ _ (INV_act h hpq hj hnj o1 (SX_B r2 (by omega)) (by omega)) (by omega))
  · exact lwt29 hL hn (k := 1) (by decide) (fun Q => w202_t1 (fun Q => by rw [c86 hj hw b5 b6, if_neg h1])) (fun Q hq => by rw [c173 hcc p5, if_neg h1]; exact hq) (rf_60 _ _) (hK _ _ _ _ _ (INV_rf h (by omega) 1) (by omega))
theorem ls30 (hL : sc.1 ≤ 2048) (hn : n + 3 < sc.1) (h : INV B I) (hB : B < 2 ^ 29) (hK : lk sc Q n (B + 80000) (t + 1)) : mm_C (213, mm_blk 213 66, [some (.float 0), some (.ref 0), some (.ref 206), some (.ref 214), some (.int (nI n)), x5, x6], [], (hp sc I o t)) Q := by
  obtain ⟨nx, cc, hpq⟩ := h.2.1
  obtain ⟨j, hj, hw, hnj⟩ := pa_wrap_j hpq.1 hpq.2.2.1
  have b5 := (INV_b01 h).1
  have b6 := (INV_b01 h).2
  have p5 := hpq.2.2.2.2.1
  have hcc := hpq.2.1
  have e206 : pa_rem I j 206 = I 206 := pa_rem_n I j (by omega) (by omega)
  have e207 : pa_rem I j 207 = I 207 := pa_rem_n I j (by omega) (by omega)
  have h3 := pa_rem_3 h.1 hj
  have hd : mm_b01 (if sc.2 (n + 1) = 0 then 0 else 1) := by
    split
    · exact Or.inl rfl
    · exact Or.inr rfl
  have hd2 : (if (if sc.2 (n + 1) = 0 then (0 : Int32) else 1) = 0 then (0 : Int32) else 1) = if sc.2 (n + 1) = 0 then 0 else 1 := by
    by_cases e : sc.2 (n + 1) = 0
    · rw [if_pos e, if_pos rfl]
    · rw [if_neg e, if_neg (by decide)]
  revert hd hd2
  obtain ⟨d, ed⟩ : ∃ d : Int32, d = if sc.2 (n + 1) = 0 then 0 else 1 := ⟨_, rfl⟩
  rw [← ed]
  intro hd hd2
  have o1 : ∀ x, ¬ (3 ≤ x ∧ x < 14) → (mm_up (pa_rem I j) 3 (mm_up (pa_rem I j 3) 6 d)) x = pa_rem I j x := fun x hx => mm_up_n _ _ (by omega)
  have r2 : SX 0 0 B (mm_up (pa_rem I j) 3 (mm_up (pa_rem I j 3) 6 d)) 3 (mm_up (I 207) 151 d) := by
    obtain ⟨g4, g5, g6, g7, g8, gs⟩ := h3.2.2
    refine SX_g h3 ?_ (fun x hx => mm_up_n _ _ (by omega))
    simp +decide only [GR, mm_up_s, mm_up_n, not_false_eq_true]
    exact ⟨g4, g5, ⟨trivial, hd⟩, g7, g8, gs⟩
  have q7 : (mm_up (pa_rem I j) 3 (mm_up (pa_rem I j 3) 6 d)) 207 = I 207 := by rw [o1 207 (by omega), e207]
  have q6 : (mm_up (pa_rem I j) 3 (mm_up (pa_rem I j 3) 6 d)) 206 5 = nI cc := by rw [o1 206 (by omega), e206]; exact p5
  exact lwa30 hL hn (fun Q => by rw [← ed, c87 hj hw b5 b6 hd]) (fun Q hq => by rw [← ed, c174 hcc q6, q7, hd2, ← R_wait r2]; exact hq) (hK _ _ _ _ _ (INV_act h hpq hj hnj o1 (SX_B r2 (by omega)) (by omega)) (by omega))
theorem ls31 (hL : sc.1 ≤ 2048) (hn : n + 3 < sc.1) (h : INV B I) (hB : B < 2 ^ 29) (hK : lk sc Q n (B + 80000) (t + 1)) : mm_C (213, mm_blk 213 71, [some (.float 0), some (.ref 0), some (.ref 206), some (.ref 214), some (.int (nI n)), x5, x6], [], (hp sc I o t)) Q := by
  obtain ⟨nx, cc, hpq⟩ := h.2.1
  obtain ⟨j, hj, hw, hnj⟩ := pa_wrap_j hpq.1 hpq.2.2.1
  have b5 := (INV_b01 h).1
  have b6 := (INV_b01 h).2
  have p5 := hpq.2.2.2.2.1
  have hcc := hpq.2.1
  have e206 : pa_rem I j 206 = I 206 := pa_rem_n I j (by omega) (by omega)
  have e207 : pa_rem I j 207 = I 207 := pa_rem_n I j (by omega) (by omega)
  have h3 := pa_rem_3 h.1 hj
  by_cases h1 : ¬ sc.2 (n + 1) < 1 ∧ ¬ 99 < sc.2 (n + 1)
  · obtain ⟨x1, ha1, ha2, ea⟩ := rng (l := 1) (m := 99) (by omega) (by omega) h1
    have ex : (sc.2 (n + 1)).toNatClampNeg = x1 := by rw [ea, nI_clamp (by omega)]
    have o1 : ∀ x, ¬ (3 ≤ x ∧ x < 14) → (sy_run 3 (sc.2 (n + 1)).toNatClampNeg (pa_rem I j)) x = pa_rem I j x := fun x hx => fr_run _ _ (by omega)
    have r2 := R_run (sc.2 (n + 1)).toNatClampNeg 0 h3
    have r1 := R_run_ans h3 (sc.2 (n + 1)).toNatClampNeg
    have q7 : (sy_run 3 (sc.2 (n + 1)).toNatClampNeg (pa_rem I j)) 207 = I 207 := by rw [o1 207 (by omega), e207]
    have q6 : (sy_run 3 (sc.2 (n + 1)).toNatClampNeg (pa_rem I j)) 206 5 = nI cc := by rw [o1 206 (by omega), e206]; exact p5
    exact lwo31 hL hn (fun Q => w203_ok (fun Q => by rw [c88 hj hw b5 b6, if_pos h1])) (fun Q hq => by rw [c175 hcc q6, if_pos h1, q7, ← r1]; exact hq) (act_60 _ _ _) (hK _ _ _ _ _ (INV_act h hpq hj hnj o1 (SX_B r2 (by omega)) (by omega)) (by omega))
  · exact lwt31 hL hn (k := 1) (by decide) (fun Q => w203_t1 (fun Q => by rw [c88 hj hw b5 b6, if_neg h1])) (fun Q hq => by rw [c175 hcc p5, if_neg h1]; exact hq) (rf_60 _ _) (hK _ _ _ _ _ (INV_rf h (by omega) 1) (by omega))
theorem ls32 (hL : sc.1 ≤ 2048) (hn : n + 3 < sc.1) (h : INV B I) (hB : B < 2 ^ 29) (hK : lk sc Q n (B + 80000) (t + 1)) : mm_C (213, mm_blk 213 74, [some (.float 0), some (.ref 0), some (.ref 206), some (.ref 214), some (.int (nI n)), x5, x6], [], (hp sc I o t)) Q := by
  obtain ⟨nx, cc, hpq⟩ := h.2.1
  obtain ⟨p1, p2, p3, p4, p5, p6⟩ := hpq
  cases cc with
  | zero => exact lwt32 (k := 1) (by decide) (fun Q => w204_t2 (fun Q => by rw [c89_0 p4])) (fun Q hq => by rw [c176_0 p5]; exact hq) (rf_60 _ _) (hK _ _ _ _ _ (INV_rf h (by omega) 1) (by omega))
  | succ s =>
    have hs : s < 14 := by omega
    have hj : (nx + 13) % 14 < 14 := Nat.mod_lt _ (by omega)
    have hne : ¬ I 14 2 = 0 := by
      rw [p4]
      intro g
      have := (nI_eq (a := s + 1) (b := 0) (by omega) (by omega)).mp g
      omega
    have hw : (if 0 < I 14 1 then I 14 1 - 1 else 13) = nI ((nx + 13) % 14) := by
      rw [p3]
      by_cases e : nx = 0
      · rw [e, if_neg (by decide)]; rfl
      · obtain ⟨m, rfl⟩ : ∃ m, nx = m + 1 := ⟨nx - 1, by omega⟩
        have hp9 : (0 : Int32) < nI (m + 1) := by
          rw [show (0 : Int32) = nI 0 from rfl]
          exact nI_lt (by omega) (by omega)
        rw [if_pos hp9, nI_pred]
        congr 1
        omega
    have ex : rgx nx (s + 1) s = (nx + 13) % 14 := by unfold rgx; omega
    have r1 := p6 s (by omega)
    rw [ex] at r1
    obtain ⟨b5, b6⟩ := SX_b01 r1
    have e206 : pa_back I ((nx + 13) % 14) 206 = I 206 := by
      unfold pa_back
      rw [sy_copy_o _ (by omega), mm_up_n _ _ (by decide)]
    have e14 : pa_back I ((nx + 13) % 14) 14 2 = nI s := by
      unfold pa_back
      rw [sy_copy_o _ (by omega), mm_up_s, mm_up_s, p4, nI_pred]
    exact lwo32 (A := nI s) (fun Q => w204_ok (fun Q => by rw [c89 hj hne hw b5 b6, e14])) (fun Q hq => by rw [c176 hs (by rw [e206]; exact p5)]; exact hq) (mo_un_60 _ _) (hK _ _ _ _ _ (INV_B (INV_undo h ⟨p1, p2, p3, p4, p5, p6⟩ hj rfl) (by omega)) (by omega))
theorem mo_sv_60 (J : Nat → Nat → Int32) (s : Nat) : mo_sv (rf J 0) s 206 0 = 0 := by
  unfold mo_sv
  rw [mm_up_n _ _ (by decide), mm_up_n _ _ (by decide)]
  exact rf_60 _ _
theorem mo_rs_60 (J : Nat → Nat → Int32) (s : Nat) : mo_rs (rf J 0) s 206 0 = 0 := by
  unfold mo_rs
  rw [mm_up_s, mm_up_n _ _ (by decide)]
  exact rf_60 _ _
theorem ls41 (hL : sc.1 ≤ 2048) (hn : n + 3 < sc.1) (h : INV B I) (hB : B < 2 ^ 29) (hK : lk sc Q n (B + 80000) (t + 1)) : mm_C (213, mm_blk 213 97, [some (.float 0), some (.ref 0), some (.ref 206), some (.ref 214), some (.int (nI n)), x5, x6], [], (hp sc I o t)) Q := by
  by_cases h1 : ¬ sc.2 (n + 1) < 0 ∧ sc.2 (n + 1) < 2
  · obtain ⟨k, hk, ek⟩ := cJ (n := 2) (by omega) h1.1 h1.2
    have ec : (sc.2 (n + 1)).toNatClampNeg = k := by rw [ek, nI_clamp (by omega)]
    have o1 : ∀ x, 3 ≤ x → x < 14 → sy_save I k x = I x := fun x b1 b2 => by
      unfold sy_save
      rw [mm_up_n _ _ (by omega), sy_copy_o _ (by omega)]
    have o7 : sy_save I k 207 = I 207 := by
      unfold sy_save
      rw [mm_up_n _ _ (by omega), sy_copy_o _ (by omega)]
    have r1 : sy_cnt (sy_save I k) 3 = mo_use (I 207) := R_cnt (SX_pl h.1 (fun x b1 b2 => o1 x (by omega) (by omega)))
    exact lwo41 hL hn (fun Q => w211_ok (fun Q => by rw [c99 (INV_b01 h).1 (INV_b01 h).2, if_pos h1, ec])) (fun Q hq => by rw [c188, if_pos h1, ec, o7, ← r1]; exact hq) (mo_sv_60 _ _) (hK _ _ _ _ _ (INV_B (INV_save h hk) (by omega)) (by omega))
  · exact lwt41 hL hn (k := 1) (by decide) (fun Q => w211_t0 (fun Q => by rw [c99 (INV_b01 h).1 (INV_b01 h).2, if_neg h1])) (fun Q hq => by rw [c188, if_neg h1]; exact hq) (rf_60 _ _) (hK _ _ _ _ _ (INV_rf h (by omega) 1) (by omega))
theorem ls42 (hL : sc.1 ≤ 2048) (hn : n + 3 < sc.1) (h : INV B I) (hB : B < 2 ^ 29) (hK : lk sc Q n (B + 80000) (t + 1)) : mm_C (213, mm_blk 213 100, [some (.float 0), some (.ref 0), some (.ref 206), some (.ref 214), some (.int (nI n)), x5, x6], [], (hp sc I o t)) Q := by
  by_cases h1 : ¬ sc.2 (n + 1) < 0 ∧ sc.2 (n + 1) < 2
  · obtain ⟨k, hk, ek⟩ := cJ (n := 2) (by omega) h1.1 h1.2
    have ec : (sc.2 (n + 1)).toNatClampNeg = k := by rw [ek, nI_clamp (by omega)]
    obtain ⟨⟨s1, s2⟩, -, -⟩ := h.2.2.1 k hk
    by_cases hz : I 171 k = 0
    · have hz2 : I 212 k = 0 := by rw [← s1]; exact hz
      exact lwt42 hL hn (k := 2) (by decide) (fun Q => w212_t2 (fun Q => by rw [c100 (fun s hs => (h.2.2.1 s hs).2.1.1) (fun s hs => (h.2.2.1 s hs).2.1.2), if_pos h1, ec, if_neg (fun g => g hz)])) (fun Q hq => by rw [c189, if_pos h1, ec, if_pos hz2]; exact hq) (rf_60 _ _) (hK _ _ _ _ _ (INV_rf h (by omega) 2) (by omega))
    · have h171 : I 171 k = 1 := s2.resolve_left hz
      have hI := INV_rest h hk h171
      have o2 : ∀ x, ¬ x = 14 → ¬ (3 ≤ x ∧ x < 14) → sy_rest I k x = I x := fun x b1 b2 => by
        unfold sy_rest
        rw [mm_up_n _ _ b1, sy_copy_o _ (by omega)]
      have hz2 : ¬ sy_rest I k 212 k = 0 := by rw [o2 212 (by omega) (by omega), ← s1]; exact hz
      have e7 : mo_rs (rf (sy_rest I k) 0) k 207 = mo_out (sy_rest I k 207) (sy_rest I k 211) (163 * k) 163 := by
        unfold mo_rs
        rw [mm_up_n _ _ (by decide), mm_up_s, rf_n _ _ (by decide), rf_n _ _ (by decide)]
      have r1 : sy_cnt (sy_rest I k) 3 = mo_use (mo_out (sy_rest I k 207) (sy_rest I k 211) (163 * k) 163) := by
        rw [← e7]
        refine R_cnt (SX_pl hI.1 (fun x b1 b2 => ?_))
        unfold mo_rs
        rw [mm_up_n _ _ (by omega), mm_up_n _ _ (by omega), rf_n _ _ (by omega)]
      exact lwo42 hL hn (fun Q => w212_ok (fun Q => by rw [c100 (fun s hs => (h.2.2.1 s hs).2.1.1) (fun s hs => (h.2.2.1 s hs).2.1.2), if_pos h1, ec, if_pos hz])) (fun Q hq => by rw [c189, if_pos h1, ec, if_neg hz2, ← r1]; exact hq) (mo_rs_60 _ _) (hK _ _ _ _ _ (INV_B hI (by omega)) (by omega))
  · exact lwt42 hL hn (k := 1) (by decide) (fun Q => w212_t0 (fun Q => by rw [c100 (fun s hs => (h.2.2.1 s hs).2.1.1) (fun s hs => (h.2.2.1 s hs).2.1.2), if_neg h1])) (fun Q hq => by rw [c189, if_neg h1]; exact hq) (rf_60 _ _) (hK _ _ _ _ _ (INV_rf h (by omega) 1) (by omega))
theorem ls40 {c1 c2 c3 : Nat} (hb97 : mm_blk 97 1 = [(24, 2, 0, [6, 0]), (26, 2, 0, [3, 1]), (27, 37, 0, [2]), (30, 6, 0, [4, 0]), (32, 71, 0, [c1, 1, 264, 776]), (35, 16, 0, []), (36, 71, 0, [c2, 1, 266, 777]), (39, 15, 0, []), (40, 7, 0, [4, 0]), (42, 4, 0, [0, 1]), (43, 6, 0, [4, 0]), (45, 1, 33, [1]), (47, 19, 0, []), (48, 22, 0, []), (49, 66, 0, [98, 2, 5, 268, 778, 0]), (52, 8, 1, [6]), (55, 0, 0, [1])]) (hb187 : mm_blk 187 4 = [(43, 2, 0, [6, 0]), (45, 2, 0, [3, 1]), (46, 37, 0, [5]), (49, 6, 0, [4, 0]), (51, 71, 0, [c1, 1, 198, 1153]), (54, 16, 0, []), (55, 71, 0, [c2, 1, 200, 1154]), (58, 15, 0, []), (59, 7, 0, [4, 0]), (61, 4, 0, [0, 1]), (62, 6, 0, [4, 0]), (64, 1, 33, [1]), (66, 19, 0, []), (67, 22, 0, []), (68, 66, 0, [186, 2, 6, 202, 1155, 0]), (71, 8, 1, [6]), (74, 0, 0, [4])]) (hb94 : mm_blk 213 94 = [(1686, 4, 0, [1, 1]), (1687, 4, 0, [0, 1]), (1688, 2, 0, [4, 0]), (1690, 1, 1, [0]), (1691, 9, 0, []), (1692, 61, 0, []), (1693, 21, 0, []), (1694, 1, 32, [1]), (1696, 20, 0, []), (1697, 4, 0, [0, 1]), (1698, 2, 0, [4, 0]), (1700, 1, 2, [0]), (1701, 9, 0, []), (1702, 61, 0, []), (1703, 21, 0, []), (1704, 71, 0, [c3, 1, 243, 1167]), (1707, 17, 0, []), (1708, 18, 0, []), (1709, 4, 0, [0, 1]), (1710, 2, 0, [4, 0]), (1712, 1, 3, [0]), (1713, 9, 0, []), (1714, 61, 0, []), (1715, 4, 0, [3, 1]), (1716, 65, 0, [210, 4, 99, 245, 769, 0]), (1719, 3, 0, [5, 0]), (1721, 4, 0, [2, 1]), (1722, 4, 0, [0, 1]), (1723, 2, 0, [4, 0]), (1725, 1, 1, [0]), (1726, 9, 0, []), (1727, 61, 0, []), (1728, 21, 0, []), (1729, 1, 32, [1]), (1731, 20, 0, []), (1732, 4, 0, [0, 1]), (1733, 2, 0, [4, 0]), (1735, 1, 2, [0]), (1736, 9, 0, []), (1737, 61, 0, []), (1738, 21, 0, []), (1739, 71, 0, [c3, 1, 243, 1167]), (1742, 17, 0, []), (1743, 18, 0, []), (1744, 4, 0, [0, 1]), (1745, 2, 0, [4, 0]), (1747, 1, 3, [0]), (1748, 9, 0, []), (1749, 61, 0, []), (1750, 66, 0, [187, 3, 6, 248, 1148, 0]), (1753, 3, 0, [6, 0]), (1755, 4, 0, [2, 1]), (1756, 66, 0, [107, 1, 6, 99, 850, 0]), (1759, 2, 0, [5, 0]), (1761, 34, 0, [95]), (1764, 1, 0, [0]), (1765, 42, 0, [])]) (hL : sc.1 ≤ 2048) (hn : n + 3 < sc.1) (h : INV B I) (hB : B < 2 ^ 29) (hK : lk sc Q n (B + 80000) (t + 1)) : mm_C (213, mm_blk 213 94, [some (.float 0), some (.ref 0), some (.ref 206), some (.ref 214), some (.int (nI n)), x5, x6], [], (hp sc I o t)) Q := by
  have b5 := (INV_b01 h).1
  have b6 := (INV_b01 h).2
  have hr : ∀ x, sy_okr (sy_r x) := okr_r
  by_cases h1 : ¬ sc.2 (n + 3) < 1 ∧ ¬ 60 < sc.2 (n + 3)
  · obtain ⟨x1, ha1, ha2, ea⟩ := rng (l := 1) (m := 60) (by omega) (by omega) h1
    have ex : (sc.2 (n + 3)).toNatClampNeg = x1 := by rw [ea, nI_clamp (by omega)]
    obtain ⟨-, o2⟩ := R_sim c1 c2 x1 (sd c3 sc n) (INV_trial h) (by omega)
    have rs := fun g => (R_sim c1 c2 x1 (r := mo_cp (I 207) 163 g) (sd c3 sc n) (SX_row (q := mo_cp (I 207) 163 g) (INV_trial h) (fun k hk => mo_cp_163 (I 207) g hk)) (by omega)).1
    have hJ : ∀ x, ¬ (172 ≤ x ∧ x < 184) → (itr (sy_st c1 c2) x1 (sy_copy I 172 3, sd c3 sc n)).1 x = I x := fun x hx => by rw [o2 x (by omega), sy_copy_o _ (by omega)]
    have hI := INV_183 h hJ
    have e7 := hJ 207 (by omega)
    have e3 := hJ 3 (by omega)
    have n9 : ∀ g, (itr (sy_st c1 c2) x1 (sy_copy I 172 3, sd c3 sc n)).1 172 9 = (itr (mo_st c1 c2) x1 (mo_cp (I 207) 163 g, sd c3 sc n)).1 158 := fun g => (rs g).2.2.2.2.2.2.1.2.1
    have n3 : (itr (sy_st c1 c2) x1 (sy_copy I 172 3, sd c3 sc n)).1 3 9 = I 207 158 := by rw [e3]; exact h.1.2.2.2.2.2.2.1.2.1
    have nl : ∀ g, sy_loud (itr (sy_st c1 c2) x1 (sy_copy I 172 3, sd c3 sc n)).1 172 = mo_loud (itr (mo_st c1 c2) x1 (mo_cp (I 207) 163 g, sd c3 sc n)).1 := fun g => R_loud (rs g)
    refine lwo40 hb94 hL hn (fun Q => w210_ok (fun Q => by rw [c97 hb97 hr b5 b6, if_pos h1, ex])) (fun Q hq => ?_) ?_ (hK _ _ _ _ _ (INV_B (INV_208 (q := (itr (mo_st c1 c2) x1 (mo_cp (I 207) 163 ((itr (sy_st c1 c2) x1 (sy_copy I 172 3, sd c3 sc n)).1 208), sd c3 sc n)).1) hI) (by omega)) (by omega))
    · rw [c187 hb187 hr (by rw [e7]; exact SX_inv h.1), if_pos h1, ex, e7, ← n9, ← nl, ← n3]
      exact hq
    · rw [mm_up_n _ _ (by decide)]; exact rf_60 _ _
  · exact lwt40 hb94 hL hn (k := 1) (by decide) (fun Q => w210_t1 (fun Q => by rw [c97 hb97 hr b5 b6, if_neg h1])) (fun Q hq => by rw [c187 hb187 hr (SX_inv h.1), if_neg h1]; exact hq) (rf_60 _ _) (hK _ _ _ _ _ (INV_rf h (by omega) 1) (by omega))
theorem ls0 (hL : sc.1 ≤ 2048) (hn : n + 3 < sc.1) (h : INV B I) (hB : B < 2 ^ 29) (hK : lk sc Q n (B + 80000) (t + 1)) : mm_C (213, mm_blk 213 2, [some (.float 0), some (.ref 0), some (.ref 206), some (.ref 214), some (.int (nI n)), x5, x6], [], (hp sc I o t)) Q := by
  obtain ⟨L, t1, t2, t3, t4, t5⟩ := h.2.2.2
  have hn0 : ¬ I 1 1 < 0 := by rw [t2]; exact nI_pos (by omega)
  by_cases h1 : ¬ sc.2 (n + 1) < 0 ∧ ¬ 255 < sc.2 (n + 1)
  · by_cases h2 : L < 120
    · have h2' : I 1 1 < 120 := by rw [t2]; exact nI_lt (b := 120) h2 (by omega)
      have ea : pc_add I (sc.2 (n + 1)) 1 1 = nI (L + 1) := by
        unfold pc_add
        rw [if_pos h2', mm_up_s, mm_up_s, t2, nI_1]
      have e9 : pc_add I (sc.2 (n + 1)) 206 9 = nI L := by
        unfold pc_add
        rw [if_pos h2', mm_up_n _ _ (by decide), mm_up_n _ _ (by decide)]; exact t3
      have h60 : tx_add (pc_add I (sc.2 (n + 1))) L (sc.2 (n + 1)) 206 0 = 0 := by
        unfold tx_add
        rw [mm_up_s, mm_up_n _ _ (by decide)]; exact rf_60 _ _
      exact lwo0 hL hn (A := nI (L + 1)) (fun Q => w190_ok (fun Q => by rw [c56 hn0 ag_c, if_pos h1, if_pos h2', ea])) (fun Q hq => by rw [c133 t1 e9, if_pos h1, if_pos h2]; exact hq) h60 (hK _ _ _ _ _ (INV_B (INV_add h ⟨t1, t2, t3, t4, t5⟩ h2 (ag_c h1)) (by omega)) (by omega))
    · have h2' : ¬ I 1 1 < 120 := by rw [t2]; exact nI_nlt (a := L) (b := 120) (by omega) (by omega)
      exact lwt0 hL hn (k := 2) (by decide) (fun Q => w190_t2 (fun Q => by rw [c56 hn0 ag_c, if_pos h1, if_neg h2'])) (fun Q hq => by rw [c133 t1 t3, if_pos h1, if_neg h2]; exact hq) (rf_60 _ _) (hK _ _ _ _ _ (INV_rf h (by omega) 2) (by omega))
  · exact lwt0 hL hn (k := 1) (by decide) (fun Q => w190_t1 (fun Q => by rw [c56 hn0 ag_c, if_neg h1])) (fun Q hq => by rw [c133 t1 t3, if_neg h1]; exact hq) (rf_60 _ _) (hK _ _ _ _ _ (INV_rf h (by omega) 1) (by omega))
theorem ls1 (hL : sc.1 ≤ 2048) (hn : n + 3 < sc.1) (h : INV B I) (hB : B < 2 ^ 29) (hK : lk sc Q n (B + 80000) (t + 1)) : mm_C (213, mm_blk 213 5, [some (.float 0), some (.ref 0), some (.ref 206), some (.ref 214), some (.int (nI n)), x5, x6], [], (hp sc I o t)) Q := by
  obtain ⟨L, t1, t2, t3, t4, t5⟩ := h.2.2.2
  have e6 : mm_up I 1 (mm_up (I 1) 1 0) 206 = I 206 := mm_up_n _ _ (by decide)
  exact lwa1 (A := I 1 1) (fun Q => c57) (fun Q hq => by rw [c134, e6, t3, ← t2]; exact hq) (hK _ _ _ _ _ (INV_B (INV_clear h) (by omega)) (by omega))
theorem ls2 (hL : sc.1 ≤ 2048) (hn : n + 3 < sc.1) (h : INV B I) (hB : B < 2 ^ 29) (hK : lk sc Q n (B + 80000) (t + 1)) : mm_C (213, mm_blk 213 6, [some (.float 0), some (.ref 0), some (.ref 206), some (.ref 214), some (.int (nI n)), x5, x6], [], (hp sc I o t)) Q := by
  obtain ⟨L, t1, t2, t3, t4, t5⟩ := h.2.2.2
  have ee : pe_err (I 2) L = if (rd_all (I 213) L (mo_fr (I 209))).1.2 = true then -1 else nI (rd_all (I 213) L (mo_fr (I 209))).1.1 := by rw [pe_err_ag t4]; exact err_pe t1 _
  refine lwa2 (A := pe_err (I 2) L) (fun Q => c58 t5 t2 t1) (fun Q hq => c143 t3 t1 (by rw [← ee]; exact hq)) (hK _ _ _ _ _ (INV_q h (by omega) (fun x _ h6 _ h9 _ => ?_) ?_ ?_) (by omega))
  · unfold rd_h
    rw [mm_up_n _ _ h6, mm_up_n _ _ h9, rf_n _ _ h6]
  · unfold rd_h
    rw [mm_up_s, (tx_r _ _ _ _).2.2.2.2.2, rf_6, mm_up_n _ _ (by decide)]
  · unfold rd_h
    rw [mm_up_s, (tx_r _ _ _ _).2.2.2.1, rf_6, mm_up_n _ _ (by decide)]
theorem ra_le (T : Nat → Int32) (L : Nat) (hL2 : L ≤ 120) (n : Nat) : ∀ s : (Nat × Bool) × (Nat → Int32) × Int32, s.1.1 ≤ 130 → (ra T L n s).1.1 ≤ 130 := by
  induction n with
  | zero => intro s h; exact h
  | succ n ih =>
    intro s h
    unfold ra
    split
    · next hc =>
      refine ih _ ?_
      have := rc_le T s.2.1 L s.1.1 s.2.2
      omega
    · exact h
theorem rd_le (T : Nat → Int32) (L : Nat) (hL2 : L ≤ 120) (q : Nat → Int32) : (rd_all T L q).1.1 < 1000 := by
  have h : (rd_0 T L q).1.1 ≤ 130 := by
    unfold rd_0
    split
    · show 1 ≤ 130; omega
    · show 0 ≤ 130; omega
  have := ra_le T L hL2 130 (rd_0 T L q) h
  unfold rd_all
  omega
theorem ls3 (hL : sc.1 ≤ 2048) (hn : n + 3 < sc.1) (h : INV B I) (hB : B < 2 ^ 29) (hK : lk sc Q n (B + 80000) (t + 1)) : mm_C (213, mm_blk 213 7, [some (.float 0), some (.ref 0), some (.ref 206), some (.ref 214), some (.int (nI n)), x5, x6], [], (hp sc I o t)) Q := by
  obtain ⟨L, t1, t2, t3, t4, t5⟩ := h.2.2.2
  have ee : pe_err (I 2) L = if (rd_all (I 213) L (mo_fr (I 209))).1.2 = true then -1 else nI (rd_all (I 213) L (mo_fr (I 209))).1.1 := by rw [pe_err_ag t4]; exact err_pe t1 _
  have hlt := rd_le (I 213) L t1 (mo_fr (I 209))
  by_cases hv : pe_err (I 2) L = -1
  · have hg : (rd_all (I 213) L (mo_fr (I 209))).1.2 = true := Classical.byContradiction fun g => by
      rw [if_neg g, hv] at ee
      exact neN (by omega) ee.symm
    obtain ⟨l1, l2⟩ := INV_load (B' := B + 80000) h ⟨t1, t2, t3, t4, t5⟩ hv (by omega) (by omega)
    have o1 : ∀ x, ¬ (3 ≤ x ∧ x < 14) → ¬ x = 14 → ¬ x = 171 → (sc_play (I 2) L 120 1 (sc_ld0 I) 0).2 x = I x := fun x b1 b2 b3 => by
      have hall : pe_all (I 213) L 120 1 = -1 := by
        have hv' := hv
        rw [pe_err_ag t4] at hv'
        unfold pe_err at hv'
        by_cases h1 : 0 < L ∧ I 213 0 = 86
        · rw [if_pos h1] at hv'; exact hv'
        · rw [if_neg h1] at hv'; exact absurd hv' (by decide)
      have hall2 : pe_all (I 2) L 120 1 = -1 := by rw [pe_all_ag t4]; exact hall
      rw [sc_play_ag t4 t1 120 1 _ _ hall2]
      have h0 : SX 0 0 0 (sc_ld0 I) 3 (mo_fr (I 209)) := R_fresh (SN_pl (SN_new I 3) (fun x b1 b2 => by
        unfold sc_ld0
        rw [mm_up_n _ _ (by omega), mm_up_n _ _ (by omega)])) (mo_fr_eq _)
      rw [(R_play t1 120 130 1 0 h0 (by omega) hall (by omega) (by omega)).2.2 x b1]
      unfold sc_ld0
      rw [mm_up_n _ _ b3, mm_up_n _ _ b2, fr_new I (by omega)]
    have o6 := o1 206 (by omega) (by omega) (by omega)
    have o9 := o1 209 (by omega) (by omega) (by omega)
    have o13 := o1 213 (by omega) (by omega) (by omega)
    have e12 : rd_h (sc_play (I 2) L 120 1 (sc_ld0 I) 0).2 (I 206) (rd_all (I 213) L (mo_fr (I 209))) 206 12 = (sc_play (I 2) L 120 1 (sc_ld0 I) 0).1 := by
      unfold rd_h
      rw [mm_up_s, (tx_r _ _ _ _).2.2.1, l1]
    have h60 : ∀ J, mo_ld J 206 0 = 0 := fun J => by
      unfold mo_ld
      rw [mm_up_n _ _ (by decide), mm_up_n _ _ (by decide), mm_up_s, mm_up_n _ _ (by decide), mm_up_s]
    refine lwo3 (fun Q => w191_ok (fun Q => by rw [c59 t5 t2 t1, if_pos hv])) (fun Q hq => ?_) (h60 _) (hK _ _ _ _ _ (l2 _ rfl) (by omega))
    refine c144 (L := L) (by rw [o6]; exact t3) t1 (J := rd_h (sc_play (I 2) L 120 1 (sc_ld0 I) 0).2 (I 206) (rd_all (I 213) L (mo_fr (I 209)))) (by rw [o6, o9, o13]) (by rw [o9, o13]; exact hlt) ?_
    rw [o9, o13, if_pos hg, e12]
    exact hq
  · have hg : ¬ (rd_all (I 213) L (mo_fr (I 209))).1.2 = true := fun g => by
      rw [if_pos g] at ee
      exact hv ee
    refine lwt3 (k := 1) (A := 0) (by decide) (fun Q => w191_t2 (fun Q => by rw [c59 t5 t2 t1, if_neg hv])) (fun Q hq => ?_) (rf_60 _ _) (hK _ _ _ _ _ (INV_rf (B := B) (I := rd_h I (I 206) (rd_all (I 213) L (mo_fr (I 209)))) (INV_q h (Nat.le_refl _) (fun x _ h6 _ h9 _ => ?_) ?_ ?_) (by omega) 1) (by omega))
    · refine c144 (L := L) t3 t1 rfl hlt ?_
      rw [if_neg hg]
      exact hq
    · unfold rd_h
      rw [mm_up_n _ _ h6, mm_up_n _ _ h9]
    · unfold rd_h
      rw [mm_up_s, (tx_r _ _ _ _).2.2.2.2.2]
    · unfold rd_h
      rw [mm_up_s, (tx_r _ _ _ _).2.2.2.1]
end XM
