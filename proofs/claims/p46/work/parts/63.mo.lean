/-! the simulation, on both sides -/
section WN
variable {sc : Nat × (Nat → Int32)} {I : Nat → Nat → Int32} {o : Int64} {t : Nat} {Q : mm_Q}
/-- a step many times -/
def itr {α : Type} (F : α → α) : Nat → α → α
  | 0, a => a
  | n + 1, a => itr F n (F a)
theorem itr_0 {α : Type} (F : α → α) (a : α) : itr F 0 a = a := rfl
theorem itr_s {α : Type} (F : α → α) (n : Nat) (a : α) : itr F (n + 1) a = itr F n (F a) := rfl
def sy_nx (c1 c2 : Nat) (x : Int64) : Int64 := x * Int64.ofNat c1 + Int64.ofNat c2
def sy_st (c1 c2 : Nat) (s : (Nat → Nat → Int32) × Int64) : (Nat → Nat → Int32) × Int64 := (sy_turn s.1 (sy_r (sy_nx c1 c2 s.2)), sy_nx c1 c2 s.2)
theorem sy_st_e (c1 c2 : Nat) (I : Nat → Nat → Int32) (x : Int64) : sy_st c1 c2 (I, x) = (sy_turn I (sy_r (sy_nx c1 c2 x)), sy_nx c1 c2 x) := rfl
noncomputable def mo_st (c1 c2 : Nat) (s : (Nat → Int32) × Int64) : (Nat → Int32) × Int64 := (mo_turn s.1 (sy_r (sy_nx c1 c2 s.2)), sy_nx c1 c2 s.2)
theorem mo_st_e (c1 c2 : Nat) (q : Nat → Int32) (x : Int64) : mo_st c1 c2 (q, x) = (mo_turn q (sy_r (sy_nx c1 c2 x)), sy_nx c1 c2 x) := rfl
theorem bg_next (c1 c2 : Nat) (x : Int64) : x * Int64.ofNat c1 + Int64.ofNat c2 = sy_nx c1 c2 x := rfl
theorem bg_r (x : Int64) : (x.toUInt64 >>> ((33 : Int32).toInt64.toUInt64 &&& Int64.toUInt64 63)).toInt64.toInt32 = sy_r x := rfl
theorem c97_n {c1 c2 : Nat} (hb9 : mm_blk 97 1 = [(24, 2, 0, [6, 0]), (26, 2, 0, [3, 1]), (27, 37, 0, [2]), (30, 6, 0, [4, 0]), (32, 71, 0, [c1, 1, 264, 723]), (35, 16, 0, []), (36, 71, 0, [c2, 1, 266, 724]), (39, 15, 0, []), (40, 7, 0, [4, 0]), (42, 4, 0, [0, 1]), (43, 6, 0, [4, 0]), (45, 1, 33, [1]), (47, 19, 0, []), (48, 22, 0, []), (49, 66, 0, [98, 2, 5, 268, 725, 0]), (52, 8, 1, [6]), (55, 0, 0, [1])]) {m : Nat} (hm : m ≤ 60) (hr : ∀ x, sy_okr (sy_r x)) {s : Int64} (n : Nat) : ∀ (hn : n ≤ m) {I : Nat → Nat → Int32} {x : Int64}, mm_C (97, mm_blk 97 1, [some (.ref 0), some (.long s), none, some (.int (nI m)), some (.long x), none, some (.int (nI (m - n)))], [], (hp sc I o t)) Q ↔ Q (.inl (some (.int (10000 * ((itr (sy_st c1 c2) n (I, x)).1 172 9 - (itr (sy_st c1 c2) n (I, x)).1 3 9) + sy_loud (itr (sy_st c1 c2) n (I, x)).1 172)))) (hp sc (itr (sy_st c1 c2) n (I, x)).1 o t) := by
  induction n with
  | zero =>
    intro hn I x
    rw [hb9]
    simp +decide only [mM_97.1, mM_97.2.1, mM_97.2.2.2, cR, cH, mm_fixA, mm_fixB, mm_is3, mm_is172, Nat.sub_zero, cM0, c21' s172, itr_0, ↓reduceIte]
  | succ n ih =>
    intro hn I x
    have hk : m - (n + 1) < m := by omega
    have e2 : m - (n + 1) + 1 = m - n := by omega
    rw [hb9]
    simp +decide only [cR, cH, mm_fixA, mm_fixB, mm_is3, mm_is172, cM2 hk (show m ≤ 1000 by omega), e2, bg_next, bg_r, c98 (hr (sy_nx c1 c2 x)), ih (by omega), itr_s, sy_st_e, ↓reduceIte]
theorem c97 {c1 c2 : Nat} (hb9 : mm_blk 97 1 = [(24, 2, 0, [6, 0]), (26, 2, 0, [3, 1]), (27, 37, 0, [2]), (30, 6, 0, [4, 0]), (32, 71, 0, [c1, 1, 264, 723]), (35, 16, 0, []), (36, 71, 0, [c2, 1, 266, 724]), (39, 15, 0, []), (40, 7, 0, [4, 0]), (42, 4, 0, [0, 1]), (43, 6, 0, [4, 0]), (45, 1, 33, [1]), (47, 19, 0, []), (48, 22, 0, []), (49, 66, 0, [98, 2, 5, 268, 725, 0]), (52, 8, 1, [6]), (55, 0, 0, [1])]) (hr : ∀ x, sy_okr (sy_r x)) (h5 : mm_b01 (I 3 5)) (h6 : mm_b01 (I 3 6)) {s : Int64} {r : Int32} : mm_C (mm_entry 97 [.ref 0, .long s, .int r] (hp sc I o t)) Q ↔ if ¬ r < 1 ∧ ¬ 60 < r then Q (.inl (some (.int (10000 * ((itr (sy_st c1 c2) r.toNatClampNeg ((sy_copy I 172 3), s)).1 172 9 - (itr (sy_st c1 c2) r.toNatClampNeg ((sy_copy I 172 3), s)).1 3 9) + sy_loud (itr (sy_st c1 c2) r.toNatClampNeg ((sy_copy I 172 3), s)).1 172)))) (hp sc (itr (sy_st c1 c2) r.toNatClampNeg ((sy_copy I 172 3), s)).1 o t) else Q (.inr 1) (hp sc I o (t + 1)) := by
  by_cases h : ¬ r < 1 ∧ ¬ 60 < r
  · rw [if_pos h]
    have e1 := Int32.le_iff_toInt_le.mp (Int32.not_lt.mp h.1)
    have e2 := Int32.le_iff_toInt_le.mp (Int32.not_lt.mp h.2)
    have e3 : (1 : Int32).toInt = 1 := by decide
    have e4 : (60 : Int32).toInt = 60 := by decide
    have e5 : r = nI r.toInt.toNat := Int32.toInt_inj.mp (by rw [nI_toInt (by omega)]; omega)
    have e6 : r.toNatClampNeg = r.toInt.toNat := rfl
    have hc := fun (Q : mm_Q) (I : Nat → Nat → Int32) => c97_n (sc := sc) (o := o) (t := t) (Q := Q) hb9 (m := r.toInt.toNat) (by omega) hr (s := s) r.toInt.toNat (Nat.le_refl _) (I := I) (x := s)
    rw [Nat.sub_self, ← e5, ← e6] at hc
    have e7 : nI 0 = 0 := rfl
    rw [e7] at hc
    simp +decide only [mM_97.1, mM_97.2.1, mM_97.2.2.2, cR, cH, mm_fixA, mm_fixB, mm_is172, c104, if_pos h, c19 s172 s3 (by decide) h5 h6, hc]
  · rw [if_neg h]
    simp +decide only [mM_97.1, mM_97.2.1, mM_97.2.2.2, cR, cH, mm_fixA, mm_fixB, c104, if_neg h]
theorem mo_cp_eq (f : Nat → Int32) (n : Nat) (hn : n ≤ 163) : ∀ (g : Nat → Int32) (j : Nat), mo_cp f n g j = if 163 - n ≤ j ∧ j < 163 then f j else g j := by
  induction n with
  | zero =>
    intro g j
    rw [if_neg (show ¬ (163 - 0 ≤ j ∧ j < 163) by omega)]
    rfl
  | succ n ih =>
    intro g j
    unfold mo_cp
    rw [ih (by omega)]
    by_cases h : 163 - n ≤ j ∧ j < 163
    · rw [if_pos h, if_pos (show 163 - (n + 1) ≤ j ∧ j < 163 by omega)]
    · rw [if_neg h]
      by_cases h2 : j = 162 - n
      · subst h2
        rw [mm_up_s, if_pos (show 163 - (n + 1) ≤ 162 - n ∧ 162 - n < 163 by omega)]
      · rw [mm_up_n _ _ h2, if_neg (show ¬ (163 - (n + 1) ≤ j ∧ j < 163) by omega)]
theorem mo_cp_163 (f g : Nat → Int32) {j : Nat} (hj : j < 163) : mo_cp f 163 g j = f j := by
  rw [mo_cp_eq f 163 (Nat.le_refl _), if_pos (show 163 - 163 ≤ j ∧ j < 163 by omega)]
theorem mo_inv_cp {f : Nat → Int32} (h : mo_inv f) (g : Nat → Int32) : mo_inv (mo_cp f 163 g) := fun v hv => mo_iv_eq (h v hv) (mo_cp_163 _ _ (by omega)) (mo_cp_163 _ _ (by omega))
/-- the number of a turn is at least 0 -/
theorem sy_r_nn (x : Int64) : 0 ≤ (sy_r x).toInt := by
  have h : ∀ u : UInt64, 0 ≤ ((u >>> 33).toInt64.toInt32).toInt := by
    intro u
    have h1 : (u >>> 33).toNat < 2 ^ 31 := by
      rw [UInt64.toNat_shiftRight]
      have h3 : u.toNat < 2 ^ 64 := u.toNat_lt
      have h2 : (33 : UInt64).toNat % 64 = 33 := by decide
      rw [h2, Nat.shiftRight_eq_div_pow]
      omega
    have h4 : ((u >>> 33).toInt64.toInt32) = Int32.ofNat (u >>> 33).toNat := by
      apply Int32.toInt_inj.mp
      rw [Int64.toInt_toInt32]
      have h5 : (u >>> 33).toInt64.toInt = ((u >>> 33).toNat : Int) := by
        show ((u >>> 33).toBitVec).toInt = _
        rw [BitVec.toInt_eq_toNat_of_lt (by show 2 * (u >>> 33).toNat < 2 ^ 64; omega)]
        rfl
      rw [h5]
      have h6 : (Int32.ofNat (u >>> 33).toNat).toInt = ((u >>> 33).toNat : Int) := nI_toInt (n := (u >>> 33).toNat) h1
      rw [h6]
      rw [Int.bmod_eq_of_le (by omega) (by omega)]
    rw [h4]
    have h6 : (Int32.ofNat (u >>> 33).toNat).toInt = ((u >>> 33).toNat : Int) := nI_toInt (n := (u >>> 33).toNat) h1
    rw [h6]
    omega
  have e : ((33 : Int32).toInt64.toUInt64 &&& Int64.toUInt64 63) = 33 := by decide
  unfold sy_r
  rw [e]
  exact h x.toUInt64
end WN
