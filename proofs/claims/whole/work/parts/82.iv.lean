/-! what holds between two calls of the law -/
section XJ
variable {B B' : Nat} {I I' : Nat → Nat → Int32}
def rgx (nx c i : Nat) : Nat := (nx + 14 - c + i) % 14
def IVp (B : Nat) (I : Nat → Nat → Int32) (nx c : Nat) : Prop := nx ≤ 14 ∧ c ≤ 14 ∧ I 14 1 = nI nx ∧ I 14 2 = nI c ∧ I 206 5 = nI c ∧ ∀ i, i < c → SX 0 0 B I (16 + 11 * rgx nx c i) (fun j => I 210 (163 * i + j))
def IVs (B : Nat) (I : Nat → Nat → Int32) (s : Nat) : Prop := (I 171 s = I 212 s ∧ (I 171 s = 0 ∨ I 171 s = 1)) ∧ (mm_b01 (I (184 + 11 * s) 5) ∧ mm_b01 (I (184 + 11 * s) 6)) ∧ (I 171 s = 1 → SX 0 0 B I (184 + 11 * s) (fun j => I 211 (163 * s + j)))
def IVt (I : Nat → Nat → Int32) (L : Nat) : Prop := L ≤ 120 ∧ I 1 1 = nI L ∧ I 206 9 = nI L ∧ (∀ j, j < L → I 2 j = I 213 j) ∧ ∀ j, j < 120 → ((I 2 j).toUInt32 % 65536).toInt32 = I 2 j
def INV (B : Nat) (I : Nat → Nat → Int32) : Prop := SX 0 0 B I 3 (I 207) ∧ (∃ nx c, IVp B I nx c) ∧ (∀ s, s < 2 → IVs B I s) ∧ ∃ L, IVt I L
theorem rgx_lt (nx c i : Nat) : rgx nx c i < 14 := Nat.mod_lt _ (by omega)
theorem IVp_eq (h : ∃ nx c, IVp B I nx c) (hB : B ≤ B') (hI : ∀ x, 14 ≤ x → x < 170 → I' x = I x) (h5 : I' 206 5 = I 206 5) (h10 : I' 210 = I 210) : ∃ nx c, IVp B' I' nx c := by
  obtain ⟨nx, c, h1, h2, h3, h4, h6, h7⟩ := h
  refine ⟨nx, c, h1, h2, by rw [hI 14 (by omega) (by omega)]; exact h3, by rw [hI 14 (by omega) (by omega)]; exact h4, by rw [h5]; exact h6, fun i hi => ?_⟩
  have hl := rgx_lt nx c i
  rw [h10]
  exact SX_B (SX_pl (h7 i hi) (fun x a1 a2 => hI x (by omega) (by omega))) hB
theorem IVs_eq {s : Nat} (hs : s < 2) (h : IVs B I s) (hB : B ≤ B') (h1 : I' 171 = I 171) (h2 : I' 212 = I 212) (h3 : ∀ x, 184 ≤ x → x < 206 → I' x = I x) (h4 : I' 211 = I 211) : IVs B' I' s := by
  obtain ⟨a1, a2, a3⟩ := h
  refine ⟨by rw [h1, h2]; exact a1, by rw [h3 (184 + 11 * s) (by omega) (by omega)]; exact a2, fun g => ?_⟩
  rw [h1] at g
  rw [h4]
  exact SX_B (SX_pl (a3 g) (fun x b1 b2 => h3 x (by omega) (by omega))) hB
theorem IVt_eq (h : ∃ L, IVt I L) (h1 : I' 1 1 = I 1 1) (h2 : I' 2 = I 2) (h3 : I' 206 9 = I 206 9) (h4 : I' 213 = I 213) : ∃ L, IVt I' L := by
  obtain ⟨L, a1, a2, a3, a4, a5⟩ := h
  exact ⟨L, a1, by rw [h1]; exact a2, by rw [h3]; exact a3, by rw [h2, h4]; exact a4, by rw [h2]; exact a5⟩
/-- a question -/
theorem INV_q (h : INV B I) (hB : B ≤ B') (hI : ∀ x, ¬ (172 ≤ x ∧ x < 184) → ¬ x = 206 → ¬ x = 208 → ¬ x = 209 → ¬ x = 214 → I' x = I x) (h5 : I' 206 5 = I 206 5) (h9 : I' 206 9 = I 206 9) : INV B' I' := by
  obtain ⟨a1, a2, a3, a4⟩ := h
  refine ⟨?_, IVp_eq a2 hB (fun x b1 b2 => hI x (by omega) (by omega) (by omega) (by omega) (by omega)) h5 (hI _ (by omega) (by omega) (by omega) (by omega) (by omega)), fun s hs => IVs_eq hs (a3 s hs) hB (hI _ (by omega) (by omega) (by omega) (by omega) (by omega)) (hI _ (by omega) (by omega) (by omega) (by omega) (by omega)) (fun x b1 b2 => hI x (by omega) (by omega) (by omega) (by omega) (by omega)) (hI _ (by omega) (by omega) (by omega) (by omega) (by omega)), IVt_eq a4 (by rw [hI 1 (by omega) (by omega) (by omega) (by omega) (by omega)]) (hI _ (by omega) (by omega) (by omega) (by omega) (by omega)) h9 (hI _ (by omega) (by omega) (by omega) (by omega) (by omega))⟩
  rw [hI 207 (by omega) (by omega) (by omega) (by omega) (by omega)]
  exact SX_B (SX_pl a1 (fun x b1 b2 => hI x (by omega) (by omega) (by omega) (by omega) (by omega))) hB
theorem INV_rf (h : INV B I) (hB : B ≤ B') (w : Int32) : INV B' (rf I w) := INV_q h hB (fun x _ h6 _ _ _ => rf_n _ _ h6) (by rw [rf_6, mm_up_n _ _ (by decide)]) (by rw [rf_6, mm_up_n _ _ (by decide)])
theorem INV_B (h : INV B I) (hB : B ≤ B') : INV B' I := INV_q h hB (fun _ _ _ _ _ _ => rfl) rfl rfl
theorem INV_b01 (h : INV B I) : mm_b01 (I 3 5) ∧ mm_b01 (I 3 6) := ⟨h.1.2.2.2.1.2, h.1.2.2.2.2.1.2⟩
theorem SX_b01 {a : Nat} {r : Nat → Int32} (h : SX 0 0 B I a r) : mm_b01 (I a 5) ∧ mm_b01 (I a 6) := ⟨h.2.2.2.1.2, h.2.2.2.2.1.2⟩
/-- what is remembered -/
theorem pa_wrap_j {nx : Nat} (hn : nx ≤ 14) (h1 : I 14 1 = nI nx) : ∃ j, j < 14 ∧ pa_wrap I 14 1 = nI j ∧ nx % 14 = j := by
  unfold pa_wrap
  by_cases c : nx < 14
  · rw [if_pos (by rw [h1]; exact nI_lt (b := 14) c (by omega))]
    exact ⟨nx, c, h1, Nat.mod_eq_of_lt c⟩
  · have e : nx = 14 := by omega
    rw [if_neg (by rw [h1, e]; decide), mm_up_s, mm_up_s]
    exact ⟨0, by omega, rfl, by rw [e]⟩
theorem pa_wrap_n (I : Nat → Nat → Int32) {x : Nat} (h : ¬ x = 14) : pa_wrap I x = I x := by
  unfold pa_wrap
  split
  · rfl
  · exact mm_up_n _ _ h
theorem pa_wrap_2 (I : Nat → Nat → Int32) : pa_wrap I 14 2 = I 14 2 := by
  unfold pa_wrap
  split
  · rfl
  · rw [mm_up_s, mm_up_n _ _ (by decide)]
theorem pa_rem_n (I : Nat → Nat → Int32) (j : Nat) {x : Nat} (h : ¬ x = 14) (h2 : ¬ (16 + 11 * j ≤ x ∧ x < 16 + 11 * j + 11)) : pa_rem I j x = I x := by
  unfold pa_rem
  rw [mm_up_n _ _ h, sy_copy_o _ h2, pa_wrap_n _ h]
theorem rg_dis {j : Nat} (hj : j < 14) : ∀ i k, i < 11 → k < 11 → ¬ 3 + i = 16 + 11 * j + k := fun i k h1 h2 => by omega
theorem pa_rem_c {r : Nat → Int32} (h : SX 0 0 B I 3 r) {j : Nat} (hj : j < 14) : SX 0 0 B (pa_rem I j) (16 + 11 * j) r := by
  have h0 : SX 0 0 B (pa_wrap I) 3 r := SX_pl h (fun x a1 a2 => pa_wrap_n _ (by omega))
  have h1 : SX 0 0 B (sy_copy (pa_wrap I) (16 + 11 * j) 3) (16 + 11 * j) r := R_copy (rg_dis hj) h0 (fun _ _ => rfl)
  exact SX_pl h1 (fun x a1 a2 => mm_up_n _ _ (by omega))
theorem pa_rem_3 {r : Nat → Int32} (h : SX 0 0 B I 3 r) {j : Nat} (_ : j < 14) : SX 0 0 B (pa_rem I j) 3 r := SX_pl h (fun x a1 a2 => pa_rem_n _ _ (by omega) (by omega))
theorem sv_min14 {c : Nat} (hc : c ≤ 14) : sv_min (nI c + 1) 14 = nI (if c = 14 then 14 else c + 1) := by
  rw [nI_1, show (14 : Int32) = nI 14 from rfl, sv_min_n (by omega) (by omega)]
  congr 1
  by_cases e : c = 14
  · rw [if_pos e, if_pos (by omega)]
  · rw [if_neg e, if_neg (by omega)]
theorem INV_act {I1 : Nat → Nat → Int32} {q : Nat → Int32} {nx c j : Nat} (h : INV B I) (hp9 : IVp B I nx c) (hj : j < 14) (hnj : nx % 14 = j) (h1 : ∀ x, ¬ (3 ≤ x ∧ x < 14) → I1 x = pa_rem I j x) (hS : SX 0 0 B' I1 3 q) (hB : B ≤ B') : INV B' (mm_up (mo_rm I1 c) 207 q) := by
  obtain ⟨a1, -, a3, a4⟩ := h
  obtain ⟨p1, p2, p3, p4, p5, p6⟩ := hp9
  have hn : ∀ x, ¬ x = 206 → ¬ x = 207 → ¬ x = 210 → mm_up (mo_rm I1 c) 207 q x = I1 x := fun x b1 b2 b3 => by
    rw [mm_up_n _ _ b2]
    unfold mo_rm
    rw [mo_rem_n _ _ b1 b3, rf_n _ _ b1]
  have hw : ∀ x, ¬ (3 ≤ x ∧ x < 14) → ¬ x = 14 → ¬ (16 + 11 * j ≤ x ∧ x < 16 + 11 * j + 11) → ¬ x = 206 → ¬ x = 207 → ¬ x = 210 → mm_up (mo_rm I1 c) 207 q x = I x := fun x b1 b2 b3 b4 b5 b6 => by rw [hn x b4 b5 b6, h1 x b1, pa_rem_n _ _ b2 b3]
  have e6 : ∀ k, ¬ k = 0 → ¬ k = 5 → mm_up (mo_rm I1 c) 207 q 206 k = I 206 k := fun k k0 k5 => by
    rw [mm_up_n _ _ (by decide)]
    have e0 : rf I1 0 206 k = I 206 k := by rw [rf_6, mm_up_n _ _ k0, h1 206 (by omega), pa_rem_n _ _ (by omega) (by omega)]
    unfold mo_rm mo_rem
    split
    · rw [mm_up_s, mm_up_n _ _ k5]; exact e0
    · rw [mm_up_s, mm_up_n _ _ k5]; exact e0
  have e65 : mm_up (mo_rm I1 c) 207 q 206 5 = nI (if c = 14 then 14 else c + 1) := by
    rw [mm_up_n _ _ (by decide)]
    unfold mo_rm mo_rem
    by_cases e : c = 14
    · rw [if_pos e, if_pos e, mm_up_s, mm_up_s]; rfl
    · rw [if_neg e, if_neg e, mm_up_s, mm_up_s]
  have r7 : rf I1 0 207 = I 207 := by rw [rf_n _ _ (by decide), h1 207 (by omega), pa_rem_n _ _ (by omega) (by omega)]
  have r10 : rf I1 0 210 = I 210 := by rw [rf_n _ _ (by decide), h1 210 (by omega), pa_rem_n _ _ (by omega) (by omega)]
  have e10 : mm_up (mo_rm I1 c) 207 q 210 = if c = 14 then mo_ins (mo_sh (I 210) 2119) (I 207) (163 * 13) 163 else mo_ins (I 210) (I 207) (163 * c) 163 := by
    rw [mm_up_n _ _ (by decide)]
    unfold mo_rm mo_rem
    rw [r7, r10]
    by_cases e : c = 14
    · rw [if_pos e, if_pos e, mm_up_n _ _ (by decide), mm_up_s]
    · rw [if_neg e, if_neg e, mm_up_n _ _ (by decide), mm_up_s]
  refine ⟨?_, ?_, fun s hs => IVs_eq hs (a3 s hs) hB (hw _ (by omega) (by omega) (by omega) (by omega) (by omega) (by omega)) (hw _ (by omega) (by omega) (by omega) (by omega) (by omega) (by omega)) (fun x b1 b2 => hw x (by omega) (by omega) (by omega) (by omega) (by omega) (by omega)) (hw _ (by omega) (by omega) (by omega) (by omega) (by omega) (by omega)), IVt_eq a4 (by rw [hw 1 (by omega) (by omega) (by omega) (by omega) (by omega) (by omega)]) (hw _ (by omega) (by omega) (by omega) (by omega) (by omega) (by omega)) (e6 9 (by omega) (by omega)) (hw _ (by omega) (by omega) (by omega) (by omega) (by omega) (by omega))⟩
  · rw [mm_up_s]
    exact SX_pl hS (fun x b1 b2 => hn x (by omega) (by omega) (by omega))
  · have e14 : mm_up (mo_rm I1 c) 207 q 14 = mm_up (mm_up (pa_wrap I 14) 1 (nI j + 1)) 2 (sv_min (pa_wrap I 14 2 + 1) 14) := by
      rw [hn 14 (by omega) (by omega) (by omega), h1 14 (by omega)]
      unfold pa_rem
      rw [mm_up_s]
    have nc : SX 0 0 B' (mm_up (mo_rm I1 c) 207 q) (16 + 11 * j) (I 207) := SX_B (SX_pl (pa_rem_c a1 hj) (fun x b1 b2 => by rw [hn x (by omega) (by omega) (by omega), h1 x (by omega)])) hB
    have oc : ∀ k, k < 14 → ¬ k = j → ∀ {r : Nat → Int32}, SX 0 0 B I (16 + 11 * k) r → SX 0 0 B' (mm_up (mo_rm I1 c) 207 q) (16 + 11 * k) r := fun k hk hkj r hr => SX_B (SX_pl hr (fun x b1 b2 => hw x (by omega) (by omega) (by omega) (by omega) (by omega) (by omega))) hB
    refine ⟨j + 1, if c = 14 then 14 else c + 1, by omega, by split <;> omega, ?_, ?_, e65, fun i hi => ?_⟩
    · rw [e14, mm_up_n _ _ (by decide), mm_up_s, nI_1]
    · rw [e14, mm_up_s, pa_wrap_2, p4, sv_min14 p2]
    · rw [e10]
      by_cases e : c = 14
      · rw [if_pos e] at hi
        rw [if_pos e, if_pos e]
        by_cases ei : i = 13
        · have ex : rgx (j + 1) 14 i = j := by unfold rgx; omega
          rw [ex]
          refine SX_row nc (fun k hk => ?_)
          have e9 : 163 * i + k - 163 * 13 = k := by omega
          unfold mo_ins
          rw [if_pos (by omega), e9]
        · have ex : rgx (j + 1) 14 i = rgx nx c (i + 1) := by unfold rgx; omega
          have en : ¬ rgx nx c (i + 1) = j := by unfold rgx; omega
          rw [ex]
          refine SX_row (oc _ (rgx_lt _ _ _) en (p6 (i + 1) (by omega))) (fun k hk => ?_)
          show mo_ins (mo_sh (I 210) 2119) (I 207) (163 * 13) 163 (163 * i + k) = I 210 (163 * (i + 1) + k)
          unfold mo_ins mo_sh
          rw [if_neg (by omega), if_pos (by omega)]
          congr 1
          omega
      · rw [if_neg e] at hi
        rw [if_neg e, if_neg e]
        by_cases ei : i = c
        · have ex : rgx (j + 1) (c + 1) i = j := by unfold rgx; omega
          rw [ex]
          refine SX_row nc (fun k hk => ?_)
          unfold mo_ins
          rw [if_pos (by omega)]
          congr 1
          omega
        · have ex : rgx (j + 1) (c + 1) i = rgx nx c i := by unfold rgx; omega
          have en : ¬ rgx nx c i = j := by unfold rgx; omega
          rw [ex]
          refine SX_row (oc _ (rgx_lt _ _ _) en (p6 i (by omega))) (fun k hk => ?_)
          show mo_ins (I 210) (I 207) (163 * c) 163 (163 * i + k) = I 210 (163 * i + k)
          unfold mo_ins
          rw [if_neg (by omega)]
end XJ
