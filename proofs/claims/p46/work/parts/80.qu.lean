/-! questions of the one object, out of its row -/
section XQ
variable {sc : Nat × (Nat → Int32)} {I : Nat → Nat → Int32} {o : Int64} {t : Nat} {Q : mm_Q} {B : Nat} {r : Nat → Int32}
theorem v_ok {v n : Nat} (h : v < n) (hn : n < 2 ^ 31) : ¬ nI v < 0 ∧ nI v < nI n := ⟨nI_pos (by omega), nI_lt h hn⟩
theorem v_ok6 {v : Nat} (h : v < 6) : ¬ nI v < 0 ∧ nI v < 6 := v_ok (n := 6) h (by omega)
theorem v_ok60 {v : Nat} (h : v < 60) : ¬ nI v < 0 ∧ nI v < 60 := v_ok (n := 60) h (by omega)
def bJ (p : Prop) [Decidable p] : Int64 := if p then Int64.ofNat 1 else Int64.ofNat 0
theorem e110 (h : SX 0 0 B I 3 r) {v : Nat} (hv : v < 6) : mm_C (mm_entry 110 [.ref 0, .int (nI v)] (hp sc I o t)) Q ↔ Q (.inl (some (.long (r (5 * v)).toInt64))) (hp sc I o t) :=
  w110_ok fun Q => by rw [c61, if_pos (v_ok6 hv), (cV hv).2.1, (h.1 v hv).1]
theorem e111 (h : SX 0 0 B I 3 r) {v : Nat} (hv : v < 6) : mm_C (mm_entry 111 [.ref 0, .int (nI v)] (hp sc I o t)) Q ↔ Q (.inl (some (.long (r (5 * v + 1)).toInt64))) (hp sc I o t) :=
  w111_ok fun Q => by rw [c62, if_pos (v_ok6 hv), (cV hv).2.1, (h.1 v hv).2.1]
theorem e112 (h : SX 0 0 B I 3 r) {v : Nat} (hv : v < 6) : mm_C (mm_entry 112 [.ref 0, .int (nI v)] (hp sc I o t)) Q ↔ Q (.inl (some (.long (r (5 * v + 3)).toInt64))) (hp sc I o t) :=
  w112_ok fun Q => by rw [c63, if_pos (v_ok6 hv), (cV hv).2.1, (h.1 v hv).2.2.1]
theorem e113 (h : SX 0 0 B I 3 r) {v : Nat} (hv : v < 6) : mm_C (mm_entry 113 [.ref 0, .int (nI v)] (hp sc I o t)) Q ↔ Q (.inl (some (.long (bJ (mo_held r v = true))))) (hp sc I o t) := by
  unfold bJ
  by_cases c : mo_held r v = true
  · rw [if_pos c]
    exact w113_ok1 fun Q => by rw [c64, if_pos (v_ok6 hv), (cV hv).2.1, if_pos (by rw [R_kept h hv]; exact c)]
  · rw [if_neg c]
    exact w113_ok0 fun Q => by rw [c64, if_pos (v_ok6 hv), (cV hv).2.1, if_neg (by rw [R_kept h hv]; exact c)]
theorem e114 (h : SX 0 0 B I 3 r) {k : Nat} (hk : k < 60) : mm_C (mm_entry 114 [.ref 0, .int (nI k)] (hp sc I o t)) Q ↔ Q (.inl (some (.long (bJ (0 < r (30 + 2 * k)))))) (hp sc I o t) := by
  unfold bJ
  by_cases c : 0 < r (30 + 2 * k)
  · rw [if_pos c]
    exact w114_ok1 fun Q => by rw [c69, if_pos (v_ok60 hk), if_pos (by rw [R_dn h hk]; exact c)]
  · rw [if_neg c]
    exact w114_ok0 fun Q => by rw [c69, if_pos (v_ok60 hk), if_neg (by rw [R_dn h hk]; exact c)]
theorem e115 (h : SX 0 0 B I 3 r) {k : Nat} (hk : k < 60) : mm_C (mm_entry 115 [.ref 0, .int (nI k)] (hp sc I o t)) Q ↔ Q (.inl (some (.long (mo_voice r (nI k)).toInt64))) (hp sc I o t) :=
  w115_ok fun Q => by rw [c70, if_pos (v_ok60 hk), R_own h (neN (by omega))]
def mo_how (r : Nat → Int32) (k : Nat) : Int32 := if 0 < r (30 + 2 * k) then 4 else if mo_voice r (nI k) = -1 then (if mo_free r = -1 then (if mo_prey r = -1 then 3 else 2) else 1) else 0
theorem e124 (h : SX 0 0 B I 3 r) {k : Nat} (hk : k < 60) : mm_C (mm_entry 124 [.ref 0, .int (nI k)] (hp sc I o t)) Q ↔ Q (.inl (some (.long (mo_how r k).toInt64))) (hp sc I o t) :=
  w124_ok fun Q => by
    have e : (if sy_dn (I (3 + 3)) (nI k) = true then (4 : Int32) else if sy_own I 3 (nI k) = -1 then (if sy_fr I 3 = -1 then (if sy_steal I 3 = -1 then 3 else 2) else 1) else 0) = mo_how r k := by
      unfold mo_how
      simp only [R_dn h hk, R_own h (k := nI k) (neN (by omega)), R_fr h]
      by_cases c : mo_free r = -1
      · rw [R_steal h c]
      · rw [if_neg c, if_neg c]
    rw [c91, if_pos (v_ok60 hk), e]
def mo_for (r : Nat → Int32) (k : Nat) : Int32 := if mo_voice r (nI k) = -1 then mo_next r else mo_voice r (nI k)
theorem e123 (h : SX 0 0 B I 3 r) {k : Nat} (hk : k < 60) (hu : ¬ 0 < r (30 + 2 * k)) : mm_C (mm_entry 123 [.ref 0, .int (nI k)] (hp sc I o t)) Q ↔ Q (.inl (some (.long (mo_for r k).toInt64))) (hp sc I o t) :=
  w123_ok fun Q => by
    have e : (if sy_own I 3 (nI k) = -1 then (if sy_fr I 3 = -1 then sy_steal I 3 else sy_fr I 3) else sy_own I 3 (nI k)) = mo_for r k := by
      unfold mo_for
      rw [R_next h, R_own h (k := nI k) (neN (by omega))]
    rw [c90, if_pos (v_ok60 hk), if_pos (show ¬ sy_dn (I 6) (nI k) = true by rw [show I 6 = I (3 + 3) from rfl, R_dn h hk]; exact hu), e]
theorem e123x (h : SX 0 0 B I 3 r) {k : Nat} (hk : k < 60) (hd : 0 < r (30 + 2 * k)) : mm_C (mm_entry 123 [.ref 0, .int (nI k)] (hp sc I o t)) Q ↔ Q (.inl (some (.long (mm_LC 2)))) (hp sc I o (t + 1)) :=
  w123_t2 fun Q => by rw [c90, if_pos (v_ok60 hk), if_neg (show ¬ ¬ sy_dn (I 6) (nI k) = true by rw [show I 6 = I (3 + 3) from rfl, R_dn h hk]; exact fun g => g hd)]
theorem e126 (h : SX 0 0 B I 3 r) {v : Nat} (hv : v < 6) : mm_C (mm_entry 126 [.ref 0, .int (nI v)] (hp sc I o t)) Q ↔ Q (.inl (some (.long (mo_dies r v).toInt64))) (hp sc I o t) :=
  w126_ok fun Q => by rw [c94, if_pos (v_ok6 hv), (cV hv).2.1, (R_dies h hv).1]
/-- freeByRunning writes on the trial voice -/
theorem sy_fb_o (n : Nat) : ∀ (J : Nat → Nat → Int32) (c : Int32) {x : Nat}, ¬ x = 183 → (sy_fb n J c).2 x = J x := by
  induction n with
  | zero => intro J c x _; rfl
  | succ n ih =>
    intro J c x hx
    unfold sy_fb
    split
    · rfl
    · rw [ih _ _ hx, mm_up_n _ _ hx]
noncomputable def tv (I : Nat → Nat → Int32) (v : Nat) : Nat → Nat → Int32 := if I (3 + (5 + v)) 1 = 0 then I else (sy_fb 1000 (sy_fb0 I v) 0).2
theorem tv_o (I : Nat → Nat → Int32) (v : Nat) {x : Nat} (hx : ¬ x = 183) : tv I v x = I x := by
  unfold tv
  split
  · rfl
  · rw [sy_fb_o _ _ _ hx]
    unfold sy_fb0
    rw [mm_up_n _ _ hx]
theorem SX_tv (h : SX 0 0 B I 3 r) (v : Nat) : SX 0 0 B (tv I v) 3 r := SX_pl h fun x _ _ => tv_o _ _ (by omega)
theorem e125 (h : SX 0 0 B I 3 r) {v : Nat} (hv : v < 6) : mm_C (mm_entry 125 [.ref 0, .int (nI v)] (hp sc I o t)) Q ↔ Q (.inl (some (.long (mo_dies r v).toInt64))) (hp sc (tv I v) o t) :=
  w125_ok fun Q => by
    obtain ⟨-, e9⟩ := R_dies h hv
    rw [c93, if_pos (v_ok6 hv), (cV hv).2.1]
    unfold tv
    by_cases hz : I (3 + (5 + v)) 1 = 0
    · rw [if_pos hz, if_pos hz]
      rcases e9 with e | e
      · rw [e.2]
      · exact absurd hz e.1
    · rw [if_neg hz, if_neg hz]
      rcases e9 with e | ⟨-, l, d, l1, d1, d2, el, ed, em⟩
      · exact absurd e.1 hz
      have ea : (sy_fb 1000 (sy_fb0 I v) 0).1 = nI (die_n l d) := by
        rw [fb_run d1 d2 1000 (sy_fb0 I v) 0 l l1 (by
          have := Nat.mul_le_mul_right 1000 d1
          omega) (by omega) ?_ ?_ ?_, Int32.zero_add]
        · unfold sy_fb0; rw [mm_up_s, mm_up_s]
        · unfold sy_fb0; rw [mm_up_s, mm_up_n _ _ (by decide)]; exact el
        · unfold sy_fb0; rw [mm_up_n _ _ (by decide)]; exact ed
      rw [ea, em]
/-! the class's own methods that cannot throw -/
theorem g65 (h : SX 0 0 B I 3 r) : mm_C (mm_entry 65 [.ref 0] (hp sc I o t)) Q ↔ Q (.inl (some (.int (mo_use r)))) (hp sc I o t) := by
  rw [c65, show sy_fold (fun v c => if I (3 + (5 + v)) 1 = 0 then c else c + 1) 6 0 = sy_cnt I 3 from rfl, R_cnt h]
theorem g66 (h : SX 0 0 B I 3 r) : mm_C (mm_entry 66 [.ref 0] (hp sc I o t)) Q ↔ Q (.inl (some (.int (mo_old r 1 6 (-1))))) (hp sc I o t) := by
  rw [c66, R_o1 h]
theorem g67 (h : SX 0 0 B I 3 r) : mm_C (mm_entry 67 [.ref 0] (hp sc I o t)) Q ↔ Q (.inl (some (.int (mo_loud r)))) (hp sc I o t) := by
  rw [c67, show sy_fold (fun v c => c + I (3 + (5 + v)) 3) 6 0 = sy_loud I 3 from rfl, R_loud h]
theorem g68 (h : SX 0 0 B I 3 r) : mm_C (mm_entry 68 [.ref 0] (hp sc I o t)) Q ↔ Q (.inl (some (.int (mo_loud r)))) (hp sc I o t) := by
  rw [c68, R_phases h]
def mo_ndown (r : Nat → Int32) : Int32 := sy_keys (fun k c => c + (if 0 < r (30 + 2 * k) then 1 else 0)) 60 0
def mo_nwait (r : Nat → Int32) : Int32 := sy_keys (fun k c => c + (if 0 < r (30 + 2 * k) ∧ mo_voice r (nI k) = -1 then 1 else 0)) 60 0
theorem g71 (h : SX 0 0 B I 3 r) : mm_C (mm_entry 71 [.ref 0] (hp sc I o t)) Q ↔ Q (.inl (some (.int (mo_ndown r)))) (hp sc I o t) := by
  rw [c71, R_down h]
  rfl
theorem g72 (h : SX 0 0 B I 3 r) : mm_C (mm_entry 72 [.ref 0] (hp sc I o t)) Q ↔ Q (.inl (some (.int (mo_nwait r)))) (hp sc I o t) := by
  rw [c72, R_wait h]
  rfl
theorem g73 (h : SX 0 0 B I 3 r) : mm_C (mm_entry 73 [.ref 0] (hp sc I o t)) Q ↔ Q (.inl (some (.int (mo_lt r)))) (hp sc I o t) := by
  rw [c73, R_lt h]
theorem SX_GR (h : SX 0 0 B I 3 r) : I 3 5 = r 150 ∧ (r 150 = 0 ∨ r 150 = 1) ∧ I 3 7 = r 152 ∧ (r 152 = 0 ∨ r 152 = 1 ∨ r 152 = 2 ∨ r 152 = 3) ∧ I 3 8 = r 162 ∧ I 3 9 = r 158 ∧ I 3 10 = r 159 ∧ I 3 11 = r 160 ∧ I 3 12 = r 161 := by
  obtain ⟨-, ⟨g5, g5'⟩, -, ⟨g7, g7'⟩, ⟨g8, g9, g10, g11, g12⟩, -⟩ := h.2.2
  rw [Int32.add_zero] at g5 g8
  exact ⟨g5, by rw [← g5]; exact g5', g7, by rw [← g7]; exact g7', g8, g9, g10, g11, g12⟩
theorem SX_b5 (h : SX 0 0 B I 3 r) : mm_b01 (I 3 5) ∧ mm_b01 (I 3 6) := ⟨h.2.2.2.1.2, h.2.2.2.2.1.2⟩
theorem g74 (h : SX 0 0 B I 3 r) : mm_C (mm_entry 74 [.ref 0] (hp sc I o t)) Q ↔ Q (.inl (some (.int (r 150)))) (hp sc I o t) := by
  rw [c74 (SX_b5 h).1, (SX_GR h).1]
theorem g75 (h : SX 0 0 B I 3 r) : mm_C (mm_entry 75 [.ref 0] (hp sc I o t)) Q ↔ Q (.inl (some (.int (r 158)))) (hp sc I o t) := by
  rw [c75, (SX_GR h).2.2.2.2.2.1]
theorem g76 (h : SX 0 0 B I 3 r) : mm_C (mm_entry 76 [.ref 0] (hp sc I o t)) Q ↔ Q (.inl (some (.int (r 159 + r 160 + mo_use r)))) (hp sc I o t) := by
  rw [c76, show sy_fold (fun v c => if I (3 + (5 + v)) 1 = 0 then c else c + 1) 6 0 = sy_cnt I 3 from rfl, R_cnt h, (SX_GR h).2.2.2.2.2.2.1, (SX_GR h).2.2.2.2.2.2.2.1]
theorem g77 (h : SX 0 0 B I 3 r) : mm_C (mm_entry 77 [.ref 0] (hp sc I o t)) Q ↔ Q (.inl (some (.int (r 160)))) (hp sc I o t) := by
  rw [c77, (SX_GR h).2.2.2.2.2.2.2.1]
theorem g78 (h : SX 0 0 B I 3 r) : mm_C (mm_entry 78 [.ref 0] (hp sc I o t)) Q ↔ Q (.inl (some (.int (r 161)))) (hp sc I o t) := by
  rw [c78, (SX_GR h).2.2.2.2.2.2.2.2]
theorem g79 (h : SX 0 0 B I 3 r) : mm_C (mm_entry 79 [.ref 0] (hp sc I o t)) Q ↔ Q (.inl (some (.int (r 162)))) (hp sc I o t) := by
  rw [c79, (SX_GR h).2.2.2.2.1]
theorem g80 (h : SX 0 0 B I 3 r) : mm_C (mm_entry 80 [.ref 0] (hp sc I o t)) Q ↔ Q (.inl (some (.int (r 152)))) (hp sc I o t) := by
  rw [c80, (SX_GR h).2.2.1]
def mo_vict (r : Nat → Int32) : Int32 := if mo_free r = -1 then mo_prey r else -1
theorem g92 (h : SX 0 0 B I 3 r) : mm_C (mm_entry 92 [.ref 0] (hp sc I o t)) Q ↔ Q (.inl (some (.int (mo_vict r)))) (hp sc I o t) := by
  rw [c92, R_fr h]
  unfold mo_vict
  by_cases c : mo_free r = -1
  · rw [if_pos c, if_pos c, R_steal h c]
  · rw [if_neg c, if_neg c]
def mo_quiet (r : Nat → Int32) : Int32 := sy_fold (fun v c => sv_max c (mo_dies r v)) 6 0
theorem g96 (h : SX 0 0 B I 3 r) : mm_C (mm_entry 96 [.ref 0] (hp sc I o t)) Q ↔ Q (.inl (some (.int (mo_quiet r)))) (hp sc I o t) := by
  rw [c96, show sy_fold (fun v c => sv_max c (sy_die I (3 + (5 + v)))) 6 0 = mo_quiet r from sy_fold_congr 6 (by omega) (fun v hv c => by rw [(R_dies h hv).1]) _]
/-! comparisons of longs -/
theorem kL (a b : Int64) : ((if b < a then (1 : Int32) else if a = b then 0 else -1) = 0) = (a = b) ∧ ((if b < a then (1 : Int32) else if a = b then 0 else -1) < 0) = (a < b) ∧ (0 < (if b < a then (1 : Int32) else if a = b then 0 else -1)) = (b < a) := by
  by_cases h1 : b < a
  · have h2 : ¬ a = b := fun e => by subst e; exact absurd h1 Int64.lt_irrefl
    have h3 : ¬ a < b := fun e => absurd (Int64.lt_trans h1 e) Int64.lt_irrefl
    simp +decide [h1, h2, h3]
  · by_cases h2 : a = b
    · subst h2
      simp +decide [h1]
    · have h3 : a < b := by
        rw [Int64.lt_iff_toInt_lt] at h1 ⊢
        have : ¬ a.toInt = b.toInt := fun e => h2 (Int64.toInt_inj.mp e)
        omega
      simp +decide [h1, h2, h3]
theorem kLi (a : Int64) : (a < a) = False := eq_false Int64.lt_irrefl
theorem kM (p : Prop) [Decidable p] : ((if p then (1 : Int32) else -1) = 0) = False ∧ (0 < (if p then (1 : Int32) else -1)) = p ∧ ((if p then (1 : Int32) else -1) < 0) = ¬ p := by
  by_cases h : p <;> simp +decide [h]
theorem kN9 (p : Prop) [Decidable p] : ((if p then (0 : Int32) else -1) = 0) = p ∧ (0 < (if p then (0 : Int32) else -1)) = False ∧ ((if p then (0 : Int32) else -1) < 0) = ¬ p := by
  by_cases h : p <;> simp +decide [h]
theorem kLj (a b : Int32) : (a.toInt64 = b.toInt64) = (a = b) := propext ⟨fun h => Int32.toInt_inj.mp (by rw [← Int32.toInt_toInt64, ← Int32.toInt_toInt64, h]), fun h => by rw [h]⟩
theorem kLl (a b : Int32) : (a.toInt64 < b.toInt64) = (a < b) := propext (by rw [Int64.lt_iff_toInt_lt, Int32.lt_iff_toInt_lt, Int32.toInt_toInt64, Int32.toInt_toInt64])
theorem kLn : Int64.ofNat 0 = (0 : Int32).toInt64 ∧ Int64.ofNat 1 = (1 : Int32).toInt64 ∧ Int64.ofNat 3 = (3 : Int32).toInt64 ∧ Int64.ofNat 4 = (4 : Int32).toInt64 ∧ Int64.ofNat 6 = (6 : Int32).toInt64 ∧ Int64.ofNat 1000 = (1000 : Int32).toInt64 ∧ mm_LC 3 = (-1 : Int32).toInt64 := by decide
theorem bJ_1 (p : Prop) [Decidable p] : (bJ p = (1 : Int32).toInt64) = p := by
  unfold bJ
  by_cases h : p
  · rw [if_pos h]; exact propext ⟨fun _ => h, fun _ => by decide⟩
  · rw [if_neg h]; exact propext ⟨fun c => absurd c (by decide), fun c => absurd c h⟩
theorem bJ_0 (p : Prop) [Decidable p] : (bJ p = (0 : Int32).toInt64) = ¬ p := by
  unfold bJ
  by_cases h : p
  · rw [if_pos h]; exact propext ⟨fun c => absurd c (by decide), fun c => absurd h c⟩
  · rw [if_neg h]; exact propext ⟨fun _ => h, fun _ => by decide⟩
theorem kLC : (∀ x : Int32, ¬ x.toInt64 = mm_LC 0 ∧ ¬ x.toInt64 = mm_LC 1 ∧ ¬ x.toInt64 = mm_LC 2) := by
  intro x
  have h0 : (mm_LC 0).toInt = -9000000000000000001 ∧ (mm_LC 1).toInt = -9000000000000000002 ∧ (mm_LC 2).toInt = -9000000000000000003 := by decide +kernel
  have hx := x.toInt_toInt64
  have h1 := x.le_toInt
  have h2 := x.toInt_lt
  refine ⟨fun e => ?_, fun e => ?_, fun e => ?_⟩
  · rw [e, h0.1] at hx; omega
  · rw [e, h0.2.1] at hx; omega
  · rw [e, h0.2.2] at hx; omega
theorem i64_toInt32 (x : Int32) : x.toInt64.toInt32 = x := Int32.toInt32_toInt64 x
end XQ
