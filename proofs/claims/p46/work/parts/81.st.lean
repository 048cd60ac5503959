/-! what holds of the one object between two calls; what each call does to it -/
section XA
abbrev A46 : Type := (Nat → Int32) × Nat × (Nat → Nat → Int32) × (Nat → Int32) × (Nat → Nat → Int32) × Nat × (Nat → Int32)
def SK (B : Nat) (I : Nat → Nat → Int32) (a : Nat) (r : Nat → Int32) : Prop := SX 0 0 B I a r ∧ KV B r
def rgx (nx c i : Nat) : Nat := (nx + 14 - c + i) % 14
theorem rgx_lt (nx c i : Nat) : rgx nx c i < 14 := Nat.mod_lt _ (by omega)
def OBp (B : Nat) (I : Nat → Nat → Int32) (nx c : Nat) (P : Nat → Nat → Int32) : Prop := nx ≤ 14 ∧ c ≤ 14 ∧ I 14 1 = nI nx ∧ I 14 2 = nI c ∧ ∀ i, i < c → SK B I (16 + 11 * rgx nx c i) (P i)
def OBs (B : Nat) (I : Nat → Nat → Int32) (s : Nat) (u : Int32) (q : Nat → Int32) : Prop := (I 171 s = u ∧ (u = 0 ∨ u = 1)) ∧ (mm_b01 (I (184 + 11 * s) 5) ∧ mm_b01 (I (184 + 11 * s) 6)) ∧ (u = 1 → SK B I (184 + 11 * s) q)
def OBt (I : Nat → Nat → Int32) (L : Nat) (T : Nat → Int32) : Prop := L ≤ 120 ∧ I 1 1 = nI L ∧ (∀ j, j < L → I 2 j = T j) ∧ ∀ j, j < 120 → ((I 2 j).toUInt32 % 65536).toInt32 = I 2 j
def OB (B : Nat) (I : Nat → Nat → Int32) (nx : Nat) (A : A46) : Prop := SK B I 3 A.1 ∧ OBp B I nx A.2.1 A.2.2.1 ∧ (∀ s, s < 2 → OBs B I s (A.2.2.2.1 s) (A.2.2.2.2.1 s)) ∧ OBt I A.2.2.2.2.2.1 A.2.2.2.2.2.2
variable {B B' : Nat} {I I' : Nat → Nat → Int32} {nx : Nat} {A : A46} {r q : Nat → Int32}
theorem SK_B {a : Nat} (h : SK B I a r) (hB : B ≤ B') : SK B' I a r := ⟨SX_B h.1 hB, KV_B h.2 hB⟩
theorem SK_pl {a : Nat} (h : SK B I a r) (hI : ∀ x, a ≤ x → x < a + 11 → I' x = I x) : SK B I' a r := ⟨SX_pl h.1 hI, h.2⟩
theorem OBp_pl {c : Nat} {P : Nat → Nat → Int32} (h : OBp B I nx c P) (hB : B ≤ B') (hI : ∀ x, 14 ≤ x → x < 170 → I' x = I x) : OBp B' I' nx c P := by
  obtain ⟨h1, h2, h3, h4, h5⟩ := h
  refine ⟨h1, h2, by rw [hI 14 (by omega) (by omega)]; exact h3, by rw [hI 14 (by omega) (by omega)]; exact h4, fun i hi => ?_⟩
  have hl := rgx_lt nx c i
  exact SK_B (SK_pl (h5 i hi) fun x x1 x2 => hI x (by omega) (by omega)) hB
theorem OBs_pl {s : Nat} {u : Int32} (hs : s < 2) (h : OBs B I s u q) (hB : B ≤ B') (h1 : I' 171 s = I 171 s) (hI : ∀ x, 184 ≤ x → x < 206 → I' x = I x) : OBs B' I' s u q := by
  obtain ⟨a1, a2, a3⟩ := h
  exact ⟨by rw [h1]; exact a1, by rw [hI (184 + 11 * s) (by omega) (by omega)]; exact a2, fun g => SK_B (SK_pl (a3 g) fun x x1 x2 => hI x (by omega) (by omega)) hB⟩
theorem OBt_pl {L : Nat} {T : Nat → Int32} (h : OBt I L T) (h1 : I' 1 1 = I 1 1) (h2 : I' 2 = I 2) : OBt I' L T := by
  obtain ⟨a1, a2, a3, a4⟩ := h
  exact ⟨a1, by rw [h1]; exact a2, by rw [h2]; exact a3, by rw [h2]; exact a4⟩
theorem OB_pl (h : OB B I nx A) (hB : B ≤ B') (hI : ∀ x, x < 206 → ¬ (172 ≤ x ∧ x < 184) → I' x = I x) : OB B' I' nx A := by
  obtain ⟨h1, h2, h3, h4⟩ := h
  exact ⟨SK_B (SK_pl h1 fun x x1 x2 => hI x (by omega) (by omega)) hB, OBp_pl h2 hB (fun x x1 x2 => hI x (by omega) (by omega)), fun s hs => OBs_pl hs (h3 s hs) hB (by rw [hI 171 (by omega) (by omega)]) (fun x x1 x2 => hI x (by omega) (by omega)), OBt_pl h4 (by rw [hI 1 (by omega) (by omega)]) (hI 2 (by omega) (by omega))⟩
theorem OB_B (h : OB B I nx A) (hB : B ≤ B') : OB B' I nx A := OB_pl h hB fun _ _ _ => rfl
/-- what is remembered -/
theorem pa_wrap_j {nx : Nat} (hn : nx ≤ 14) (h1 : I 14 1 = nI nx) : ∃ j, j < 14 ∧ pa_wrap I 14 1 = nI j ∧ nx % 14 = j := by
  unfold pa_wrap
  by_cases c : nx < 14
  · rw [if_pos (by rw [h1]; exact nI_lt (b := 14) c (by omega))]
    exact ⟨nx, c, h1, Nat.mod_eq_of_lt c⟩
  · have e : nx = 14 := by omega
    rw [if_neg (by rw [h1, e]; decide), mm_up_s, mm_up_s]
    exact ⟨0, by omega, rfl, by rw [e]⟩
theorem pa_wrap_n (I : Nat → Nat → Int32) {x : Nat} (h : ¬ x = 14) : pa_wrap I x = I x := by
  unfold pa_wrap
  split
  · rfl
  · exact mm_up_n _ _ h
theorem pa_wrap_2 (I : Nat → Nat → Int32) : pa_wrap I 14 2 = I 14 2 := by
  unfold pa_wrap
  split
  · rfl
  · rw [mm_up_s, mm_up_n _ _ (by decide)]
theorem pa_rem_n (I : Nat → Nat → Int32) (j : Nat) {x : Nat} (h : ¬ x = 14) (h2 : ¬ (16 + 11 * j ≤ x ∧ x < 16 + 11 * j + 11)) : pa_rem I j x = I x := by
  unfold pa_rem
  rw [mm_up_n _ _ h, sy_copy_o _ h2, pa_wrap_n _ h]
theorem rg_dis {j : Nat} (hj : j < 14) : ∀ i k, i < 11 → k < 11 → ¬ 3 + i = 16 + 11 * j + k := fun i k h1 h2 => by omega
theorem pa_rem_c (h : SX 0 0 B I 3 r) {j : Nat} (hj : j < 14) : SX 0 0 B (pa_rem I j) (16 + 11 * j) r := by
  have h0 : SX 0 0 B (pa_wrap I) 3 r := SX_pl h (fun x a1 a2 => pa_wrap_n _ (by omega))
  have h1 : SX 0 0 B (sy_copy (pa_wrap I) (16 + 11 * j) 3) (16 + 11 * j) r := R_copy (rg_dis hj) h0 (fun _ _ => rfl)
  exact SX_pl h1 (fun x a1 a2 => mm_up_n _ _ (by omega))
theorem pa_rem_3 (h : SX 0 0 B I 3 r) {j : Nat} (_ : j < 14) : SX 0 0 B (pa_rem I j) 3 r := SX_pl h (fun x a1 a2 => pa_rem_n _ _ (by omega) (by omega))
theorem sv_min14 {c : Nat} (hc : c ≤ 14) : sv_min (nI c + 1) 14 = nI (if c = 14 then 14 else c + 1) := by
  rw [nI_1, show (14 : Int32) = nI 14 from rfl, sv_min_n (by omega) (by omega)]
  congr 1
  by_cases e : c = 14
  · rw [if_pos e, if_pos (by omega)]
  · rw [if_neg e, if_neg (by omega)]
def pc1 (c : Nat) : Nat := if c = 14 then 14 else c + 1
def psh (c : Nat) (P : Nat → Nat → Int32) (r : Nat → Int32) : Nat → Nat → Int32 := fun i => if c = 14 then (if i = 13 then r else P (i + 1)) else (if i = c then r else P i)
theorem OB_act {I1 : Nat → Nat → Int32} {c j : Nat} {P S : Nat → Nat → Int32} {u T : Nat → Int32} {L : Nat} (h : OB B I nx (r, c, P, u, S, L, T)) (hj : j < 14) (hnj : nx % 14 = j) (h1 : ∀ x, ¬ (3 ≤ x ∧ x < 14) → I1 x = pa_rem I j x) (hS : SK B' I1 3 q) (hB : B ≤ B') : OB B' I1 (j + 1) (q, pc1 c, psh c P r, u, S, L, T) := by
  obtain ⟨a1, ⟨p1, p2, p3, p4, p6⟩, a3, a4⟩ := h
  have p2 : c ≤ 14 := p2
  have hw : ∀ x, ¬ (3 ≤ x ∧ x < 14) → ¬ x = 14 → ¬ (16 + 11 * j ≤ x ∧ x < 16 + 11 * j + 11) → I1 x = I x := fun x b1 b2 b3 => by rw [h1 x b1, pa_rem_n _ _ b2 b3]
  have e14 : I1 14 = mm_up (mm_up (pa_wrap I 14) 1 (nI j + 1)) 2 (sv_min (pa_wrap I 14 2 + 1) 14) := by
    rw [h1 14 (by omega)]
    unfold pa_rem
    rw [mm_up_s]
  have nc : SK B' I1 (16 + 11 * j) r := SK_B ⟨SX_pl (pa_rem_c a1.1 hj) (fun x b1 b2 => h1 x (by omega)), a1.2⟩ hB
  have oc : ∀ k, k < 14 → ¬ k = j → ∀ {r : Nat → Int32}, SK B I (16 + 11 * k) r → SK B' I1 (16 + 11 * k) r := fun k hk hkj r hr => SK_B (SK_pl hr (fun x b1 b2 => hw x (by omega) (by omega) (by omega))) hB
  refine ⟨hS, ⟨by omega, ?_, ?_, ?_, fun i hi => ?_⟩, fun s hs => OBs_pl hs (a3 s hs) hB (by rw [hw 171 (by omega) (by omega) (by omega)]) (fun x x1 x2 => hw x (by omega) (by omega) (by omega)), OBt_pl a4 (by rw [hw 1 (by omega) (by omega) (by omega)]) (hw 2 (by omega) (by omega) (by omega))⟩
  · show pc1 c ≤ 14
    unfold pc1
    have : c ≤ 14 := p2
    split <;> omega
  · rw [e14, mm_up_n _ _ (by decide), mm_up_s, nI_1]
  · show I1 14 2 = nI (pc1 c)
    rw [e14, mm_up_s, pa_wrap_2, p4, sv_min14 p2]
    rfl
  · show SK B' I1 (16 + 11 * rgx (j + 1) (pc1 c) i) (psh c P r i)
    have hi : i < pc1 c := hi
    have p6 : ∀ i, i < c → SK B I (16 + 11 * rgx nx c i) (P i) := p6
    unfold pc1 at hi ⊢
    unfold psh
    by_cases e : c = 14
    · rw [if_pos e] at hi
      rw [if_pos e, if_pos e]
      by_cases ei : i = 13
      · have ex : rgx (j + 1) 14 i = j := by unfold rgx; omega
        rw [ex, if_pos ei]
        exact nc
      · have ex : rgx (j + 1) 14 i = rgx nx c (i + 1) := by unfold rgx; omega
        have en : ¬ rgx nx c (i + 1) = j := by unfold rgx; omega
        rw [ex, if_neg ei]
        exact oc _ (rgx_lt _ _ _) en (p6 (i + 1) (by omega))
    · rw [if_neg e] at hi
      rw [if_neg e, if_neg e]
      by_cases ei : i = c
      · have ex : rgx (j + 1) (c + 1) i = j := by unfold rgx; omega
        rw [ex, if_pos ei]
        exact nc
      · have ex : rgx (j + 1) (c + 1) i = rgx nx c i := by unfold rgx; omega
        have en : ¬ rgx nx c i = j := by unfold rgx; omega
        rw [ex, if_neg ei]
        exact oc _ (rgx_lt _ _ _) en (p6 i (by omega))
/-- a call of method m on the object with what A says: it answers a, then A' holds; k bounds what it uses -/
def DO (k m : Nat) (args : List Value) (A : A46) (a : Value) (A' : A46) : Prop := ∀ (sc : Nat × (Nat → Int32)) (B : Nat) (I : Nat → Nat → Int32) (nx : Nat) (o : Int64) (t : Nat) (Q : mm_Q), OB B I nx A → B + 1000 * k < 2 ^ 29 →
  (∀ I' nx' t', OB (B + 1000 * k) I' nx' A' → (∀ x, 206 ≤ x → I' x = I x) → t ≤ t' → t' ≤ t + k → Q (.inl (some a)) (hp sc I' o t')) → mm_C (mm_entry m (.ref 0 :: args) (hp sc I o t)) Q
variable {c : Nat} {P S : Nat → Nat → Int32} {u T : Nat → Int32} {L : Nat}
theorem DO_press {k s : Nat} (hk : k < 60) (hs1 : 1 ≤ s) (hs : s ≤ 100) (hu : ¬ 0 < r (30 + 2 * k)) : DO 1 116 [.int (nI k), .int (nI s)] (r, c, P, u, S, L, T) (.long (mo_goJ (mo_press r k (nI s)) k (nI s)).1.toInt64) ((mo_goJ (mo_press r k (nI s)) k (nI s)).2, pc1 c, psh c P r, u, S, L, T) := by
  intro sc B I nx o t Q h hB hK
  obtain ⟨j, hj, hw, hnj⟩ := pa_wrap_j h.2.1.1 h.2.1.2.2.1
  have h3 : SX 0 0 B (pa_rem I j) 3 r := pa_rem_3 h.1.1 hj
  have b5 := SX_b5 h.1.1
  obtain ⟨r1, r2⟩ := R_strike h3 (by omega) hk hs1 hs
  have o1 : ∀ x, ¬ (3 ≤ x ∧ x < 14) → (sy_strike (pa_rem I j) 3 (nI k) (nI s)).2 x = pa_rem I j x := fun x hx => fr_strike _ _ _ (by omega)
  refine (w116_ok (fun Q => by rw [c81 hj hw b5.1 b5.2, if_pos (v_ok60 hk), if_pos ⟨nI_nlt (a := s) (b := 1) hs1 (by omega), nI_nlt (a := 100) (b := s) hs (by omega)⟩, if_pos (show ¬ sy_dn (I 6) (nI k) = true by rw [show I 6 = I (3 + 3) from rfl, R_dn h.1.1 hk]; exact hu)])).mpr ?_
  rw [r1]
  exact hK _ (j + 1) _ (OB_act h hj hnj o1 ⟨SX_B r2 (by omega), KV_B (KV_go hk h.1.2 (SX_inv h.1.1) (by omega)) (by omega)⟩ (by omega)) (fun x hx => by rw [o1 x (by omega), pa_rem_n _ _ (by omega) (by omega)]) (Nat.le_refl _) (by omega)
theorem DO_press_x {k s : Nat} (hk : k < 60) (hs1 : 1 ≤ s) (hs : s ≤ 100) (hu : 0 < r (30 + 2 * k)) : DO 1 116 [.int (nI k), .int (nI s)] (r, c, P, u, S, L, T) (.long (mm_LC 2)) (r, c, P, u, S, L, T) := by
  intro sc B I nx o t Q h hB hK
  obtain ⟨j, hj, hw, hnj⟩ := pa_wrap_j h.2.1.1 h.2.1.2.2.1
  have b5 := SX_b5 h.1.1
  refine (w116_t2 (fun Q => by rw [c81 hj hw b5.1 b5.2, if_pos (v_ok60 hk), if_pos ⟨nI_nlt (a := s) (b := 1) hs1 (by omega), nI_nlt (a := 100) (b := s) hs (by omega)⟩, if_neg (show ¬ ¬ sy_dn (I 6) (nI k) = true by rw [show I 6 = I (3 + 3) from rfl, R_dn h.1.1 hk]; exact fun g => g hu)])).mpr ?_
  exact hK _ nx _ (OB_B h (by omega)) (fun _ _ => rfl) (by omega) (by omega)
theorem DO_lift {k : Nat} (hk : k < 60) (hu : 0 < r (30 + 2 * k)) : DO 1 117 [.int (nI k)] (r, c, P, u, S, L, T) (.long (mo_voice r (nI k)).toInt64) (mo_lift r k, pc1 c, psh c P r, u, S, L, T) := by
  intro sc B I nx o t Q h hB hK
  obtain ⟨j, hj, hw, hnj⟩ := pa_wrap_j h.2.1.1 h.2.1.2.2.1
  have h3 : SX 0 0 B (pa_rem I j) 3 r := pa_rem_3 h.1.1 hj
  have b5 := SX_b5 h.1.1
  obtain ⟨r1, r2⟩ := R_release h3 hk
  have o1 : ∀ x, ¬ (3 ≤ x ∧ x < 14) → (sy_release (pa_rem I j) 3 (nI k)).2 x = pa_rem I j x := fun x hx => fr_release _ _ (by omega)
  refine (w117_ok (fun Q => by rw [c82 hj hw b5.1 b5.2, if_pos (v_ok60 hk), if_pos (show sy_dn (I (3 + 3)) (nI k) = true by rw [R_dn h.1.1 hk]; exact hu)])).mpr ?_
  rw [r1]
  exact hK _ (j + 1) _ (OB_act h hj hnj o1 ⟨SX_B r2 (by omega), KV_B (KV_lift hk h.1.2 (SX_GR h.1.1).2.1) (by omega)⟩ (by omega)) (fun x hx => by rw [o1 x (by omega), pa_rem_n _ _ (by omega) (by omega)]) (Nat.le_refl _) (by omega)
theorem DO_lift_x {k : Nat} (hk : k < 60) (hu : ¬ 0 < r (30 + 2 * k)) : DO 1 117 [.int (nI k)] (r, c, P, u, S, L, T) (.long (mm_LC 2)) (r, c, P, u, S, L, T) := by
  intro sc B I nx o t Q h hB hK
  obtain ⟨j, hj, hw, hnj⟩ := pa_wrap_j h.2.1.1 h.2.1.2.2.1
  have b5 := SX_b5 h.1.1
  refine (w117_t2 (fun Q => by rw [c82 hj hw b5.1 b5.2, if_pos (v_ok60 hk), if_neg (show ¬ sy_dn (I (3 + 3)) (nI k) = true by rw [R_dn h.1.1 hk]; exact hu)])).mpr ?_
  exact hK _ nx _ (OB_B h (by omega)) (fun _ _ => rfl) (by omega) (by omega)
theorem DO_pedal {d : Int32} (hd : d = 0 ∨ d = 1) : DO 1 83 [.int d] (r, c, P, u, S, L, T) (.int (mo_pedal r d).1) ((mo_pedal r d).2, pc1 c, psh c P r, u, S, L, T) := by
  intro sc B I nx o t Q h hB hK
  obtain ⟨j, hj, hw, hnj⟩ := pa_wrap_j h.2.1.1 h.2.1.2.2.1
  have h3 : SX 0 0 B (pa_rem I j) 3 r := pa_rem_3 h.1.1 hj
  have b5 := SX_b5 h.1.1
  obtain ⟨r1, r2⟩ := R_pedal h3 hd
  have o1 : ∀ x, ¬ (3 ≤ x ∧ x < 14) → (sy_pedal (pa_rem I j) 3 d).2 x = pa_rem I j x := fun x hx => fr_pedal _ _ (by omega)
  refine (c83 hj hw b5.1 b5.2 hd).mpr ?_
  rw [r1]
  exact hK _ (j + 1) _ (OB_act h hj hnj o1 ⟨SX_B r2 (by omega), KV_B (KV_pedal h.1.2 (SX_inv h.1.1) d) (by omega)⟩ (by omega)) (fun x hx => by rw [o1 x (by omega), pa_rem_n _ _ (by omega) (by omega)]) (Nat.le_refl _) (by omega)
theorem SX_s {dt dp : Int32} {a : Nat} {f : Nat → Int32} (h : SX dt dp B I a r) (hg : GR dt dp B (I a) f q) (hq : ∀ x, x < 150 → q x = r x) : SX dt dp B (mm_up I (a + 2) f) a q := by
  refine ⟨fun v hv => ?_, fun k hk => ?_, ?_⟩
  · rw [mm_up_n _ _ (show ¬ a + (5 + v) = a + 2 by omega)]
    exact VR_eq (h.1 v hv) (fun _ _ => rfl) (fun i hi => hq _ (by omega))
  · rw [mm_up_n _ _ (show ¬ a + 3 = a + 2 by omega), mm_up_n _ _ (show ¬ a + 4 = a + 2 by omega)]
    exact KR_eq (h.2.1 k hk) rfl rfl (hq _ (by omega)) (hq _ (by omega))
  · rw [mm_up_s, mm_up_n _ _ (show ¬ a = a + 2 by omega)]
    exact hg
theorem DO_rising {x1 x2 : Nat} (ha1 : 1 ≤ x1) (ha2 : x1 ≤ 1000) (hb1 : 1 ≤ x2) (hb2 : x2 ≤ 1000) : DO 1 118 [.int (nI x1), .int (nI x2)] (r, c, P, u, S, L, T) (.long (r 153).toInt64) (mm_up (mm_up r 154 (nI x2)) 153 (nI x1), pc1 c, psh c P r, u, S, L, T) := by
  intro sc B I nx o t Q h hB hK
  obtain ⟨j, hj, hw, hnj⟩ := pa_wrap_j h.2.1.1 h.2.1.2.2.1
  have h3 : SX 0 0 B (pa_rem I j) 3 r := pa_rem_3 h.1.1 hj
  have b5 := SX_b5 h.1.1
  have o1 : ∀ x, ¬ (3 ≤ x ∧ x < 14) → (mm_up (pa_rem I j) (3 + 2) (mm_up (mm_up (pa_rem I j (3 + 2)) 0 (nI x1)) 1 (nI x2))) x = pa_rem I j x := fun x hx => mm_up_n _ _ (by omega)
  have r2 : SX 0 0 B (mm_up (pa_rem I j) (3 + 2) (mm_up (mm_up (pa_rem I j (3 + 2)) 0 (nI x1)) 1 (nI x2))) 3 (mm_up (mm_up r 154 (nI x2)) 153 (nI x1)) := by
    refine SX_s h3 ?_ (fun x hx => by rw [mm_up_n _ _ (by omega), mm_up_n _ _ (by omega)])
    obtain ⟨g4, g5, g6, g7, g8, s0, s1, s2, s3⟩ := h3.2.2
    simp +decide only [GR, mm_up_s, mm_up_n, not_false_eq_true]
    exact ⟨g4, g5, g6, g7, g8, ⟨trivial, x1, ha1, ha2, rfl⟩, ⟨trivial, x2, hb1, hb2, rfl⟩, s2, s3⟩
  have ea9 : pa_rem I j (3 + 2) 0 = r 153 := h3.2.2.2.2.2.2.2.1.1
  refine (w118_ok (fun Q => by rw [c84 hj hw b5.1 b5.2, if_pos ⟨nI_nlt (a := x1) (b := 1) ha1 (by omega), nI_nlt (a := 1000) (b := x1) ha2 (by omega)⟩, if_pos ⟨nI_nlt (a := x2) (b := 1) hb1 (by omega), nI_nlt (a := 1000) (b := x2) hb2 (by omega)⟩])).mpr ?_
  rw [ea9]
  exact hK _ (j + 1) _ (OB_act h hj hnj o1 ⟨SX_B r2 (by omega), KV_B (KV_same h.1.2 fun x x1 x2 => by rw [mm_up_n _ _ (by omega), mm_up_n _ _ (by omega)]) (by omega)⟩ (by omega)) (fun x hx => by rw [o1 x (by omega), pa_rem_n _ _ (by omega) (by omega)]) (Nat.le_refl _) (by omega)
theorem DO_staying {x1 x2 : Nat} (ha2 : x1 ≤ 100) (hb1 : 1 ≤ x2) (hb2 : x2 ≤ 1000) : DO 1 119 [.int (nI x1), .int (nI x2)] (r, c, P, u, S, L, T) (.long (r 155).toInt64) (mm_up (mm_up r 156 (nI x2)) 155 (nI x1), pc1 c, psh c P r, u, S, L, T) := by
  intro sc B I nx o t Q h hB hK
  obtain ⟨j, hj, hw, hnj⟩ := pa_wrap_j h.2.1.1 h.2.1.2.2.1
  have h3 : SX 0 0 B (pa_rem I j) 3 r := pa_rem_3 h.1.1 hj
  have b5 := SX_b5 h.1.1
  have o1 : ∀ x, ¬ (3 ≤ x ∧ x < 14) → (mm_up (pa_rem I j) (3 + 2) (mm_up (mm_up (pa_rem I j (3 + 2)) 2 (nI x1)) 3 (nI x2))) x = pa_rem I j x := fun x hx => mm_up_n _ _ (by omega)
  have r2 : SX 0 0 B (mm_up (pa_rem I j) (3 + 2) (mm_up (mm_up (pa_rem I j (3 + 2)) 2 (nI x1)) 3 (nI x2))) 3 (mm_up (mm_up r 156 (nI x2)) 155 (nI x1)) := by
    refine SX_s h3 ?_ (fun x hx => by rw [mm_up_n _ _ (by omega), mm_up_n _ _ (by omega)])
    obtain ⟨g4, g5, g6, g7, g8, s0, s1, s2, s3⟩ := h3.2.2
    simp +decide only [GR, mm_up_s, mm_up_n, not_false_eq_true]
    exact ⟨g4, g5, g6, g7, g8, s0, s1, ⟨trivial, x1, ha2, rfl⟩, ⟨trivial, x2, hb1, hb2, rfl⟩⟩
  have ea9 : pa_rem I j (3 + 2) 2 = r 155 := h3.2.2.2.2.2.2.2.2.2.1.1
  refine (w119_ok (fun Q => by rw [c85 hj hw b5.1 b5.2, if_pos ⟨nI_pos (by omega), nI_nlt (a := 100) (b := x1) ha2 (by omega)⟩, if_pos ⟨nI_nlt (a := x2) (b := 1) hb1 (by omega), nI_nlt (a := 1000) (b := x2) hb2 (by omega)⟩])).mpr ?_
  rw [ea9]
  exact hK _ (j + 1) _ (OB_act h hj hnj o1 ⟨SX_B r2 (by omega), KV_B (KV_same h.1.2 fun x x1 x2 => by rw [mm_up_n _ _ (by omega), mm_up_n _ _ (by omega)]) (by omega)⟩ (by omega)) (fun x hx => by rw [o1 x (by omega), pa_rem_n _ _ (by omega) (by omega)]) (Nat.le_refl _) (by omega)
theorem DO_rule {x1 : Nat} (ha : x1 ≤ 3) : DO 1 120 [.int (nI x1)] (r, c, P, u, S, L, T) (.long (r 152).toInt64) (mm_up r 152 (nI x1), pc1 c, psh c P r, u, S, L, T) := by
  intro sc B I nx o t Q h hB hK
  obtain ⟨j, hj, hw, hnj⟩ := pa_wrap_j h.2.1.1 h.2.1.2.2.1
  have h3 : SX 0 0 B (pa_rem I j) 3 r := pa_rem_3 h.1.1 hj
  have b5 := SX_b5 h.1.1
  have o1 : ∀ x, ¬ (3 ≤ x ∧ x < 14) → (mm_up (pa_rem I j) 3 (mm_up (pa_rem I j 3) 7 (nI x1))) x = pa_rem I j x := fun x hx => mm_up_n _ _ (by omega)
  have r2 : SX 0 0 B (mm_up (pa_rem I j) 3 (mm_up (pa_rem I j 3) 7 (nI x1))) 3 (mm_up r 152 (nI x1)) := by
    obtain ⟨g4, g5, g6, g7, g8, gs⟩ := h3.2.2
    refine SX_g h3 ?_ (fun x hx => mm_up_n _ _ (by omega))
    simp +decide only [GR, mm_up_s, mm_up_n, not_false_eq_true]
    refine ⟨g4, g5, g6, ⟨trivial, ?_⟩, g8, gs⟩
    have : x1 = 0 ∨ x1 = 1 ∨ x1 = 2 ∨ x1 = 3 := by omega
    rcases this with e | e | e | e <;> rw [e]
    · exact Or.inl rfl
    · exact Or.inr (Or.inl rfl)
    · exact Or.inr (Or.inr (Or.inl rfl))
    · exact Or.inr (Or.inr (Or.inr rfl))
  have ea9 : pa_rem I j 3 7 = r 152 := h3.2.2.2.2.2.1.1
  refine (w120_ok (fun Q => by rw [c86 hj hw b5.1 b5.2, if_pos ⟨nI_pos (by omega), nI_nlt (a := 3) (b := x1) ha (by omega)⟩])).mpr ?_
  rw [ea9]
  exact hK _ (j + 1) _ (OB_act h hj hnj o1 ⟨SX_B r2 (by omega), KV_B (KV_same h.1.2 fun x x1 x2 => mm_up_n _ _ (by omega)) (by omega)⟩ (by omega)) (fun x hx => by rw [o1 x (by omega), pa_rem_n _ _ (by omega) (by omega)]) (Nat.le_refl _) (by omega)
theorem DO_back {d : Int32} (hd : d = 0 ∨ d = 1) : DO 1 87 [.int d] (r, c, P, u, S, L, T) (.int (mo_nwait (mm_up r 151 d))) (mm_up r 151 d, pc1 c, psh c P r, u, S, L, T) := by
  intro sc B I nx o t Q h hB hK
  obtain ⟨j, hj, hw, hnj⟩ := pa_wrap_j h.2.1.1 h.2.1.2.2.1
  have h3 : SX 0 0 B (pa_rem I j) 3 r := pa_rem_3 h.1.1 hj
  have b5 := SX_b5 h.1.1
  have o1 : ∀ x, ¬ (3 ≤ x ∧ x < 14) → (mm_up (pa_rem I j) 3 (mm_up (pa_rem I j 3) 6 d)) x = pa_rem I j x := fun x hx => mm_up_n _ _ (by omega)
  have r2 : SX 0 0 B (mm_up (pa_rem I j) 3 (mm_up (pa_rem I j 3) 6 d)) 3 (mm_up r 151 d) := by
    obtain ⟨g4, g5, g6, g7, g8, gs⟩ := h3.2.2
    refine SX_g h3 ?_ (fun x hx => mm_up_n _ _ (by omega))
    simp +decide only [GR, mm_up_s, mm_up_n, not_false_eq_true]
    exact ⟨g4, g5, ⟨trivial, hd⟩, g7, g8, gs⟩
  refine (c87 hj hw b5.1 b5.2 hd).mpr ?_
  rw [R_wait r2]
  exact hK _ (j + 1) _ (OB_act h hj hnj o1 ⟨SX_B r2 (by omega), KV_B (KV_same h.1.2 fun x x1 x2 => mm_up_n _ _ (by omega)) (by omega)⟩ (by omega)) (fun x hx => by rw [o1 x (by omega), pa_rem_n _ _ (by omega) (by omega)]) (Nat.le_refl _) (by omega)
theorem DO_pass {n : Nat} (h1 : 1 ≤ n) (h2 : n ≤ 99) : DO 1 121 [.int (nI n)] (r, c, P, u, S, L, T) (.long (mo_rn n r 0).1.toInt64) ((mo_rn n r 0).2, pc1 c, psh c P r, u, S, L, T) := by
  intro sc B I nx o t Q h hB hK
  obtain ⟨j, hj, hw, hnj⟩ := pa_wrap_j h.2.1.1 h.2.1.2.2.1
  have h3 : SX 0 0 B (pa_rem I j) 3 r := pa_rem_3 h.1.1 hj
  have b5 := SX_b5 h.1.1
  have o1 : ∀ x, ¬ (3 ≤ x ∧ x < 14) → (sy_run 3 n (pa_rem I j)) x = pa_rem I j x := fun x hx => fr_run _ _ (by omega)
  have r2 := R_run n 0 h3
  have r1 := R_run_ans h3 n
  refine (w121_ok (fun Q => by rw [c88 hj hw b5.1 b5.2, if_pos ⟨nI_nlt (a := n) (b := 1) h1 (by omega), nI_nlt (a := 99) (b := n) h2 (by omega)⟩, nI_clamp (show n < 2 ^ 31 by omega)])).mpr ?_
  rw [r1]
  exact hK _ (j + 1) _ (OB_act h hj hnj o1 ⟨SX_B r2 (by omega), KV_B (KV_rn n r 0 h.1.2) (by omega)⟩ (by omega)) (fun x hx => by rw [o1 x (by omega), pa_rem_n _ _ (by omega) (by omega)]) (Nat.le_refl _) (by omega)
end XA
