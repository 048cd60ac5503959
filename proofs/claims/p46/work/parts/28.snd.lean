section MMA
variable {l : Launch} {D : mm_D} {base b : Nat} {sc : Nat × (Nat → Int32)}
theorem mm_arrW : Cond.arrayClass .int ∈ mm_TB ∧ Cond.arrayClass .boolean ∈ mm_TB ∧ Cond.arrayClass .char ∈ mm_TB := by decide +kernel
theorem mm_objW : Cond.instanceMethod objectInit ∈ mm_TB ∧ Cond.code objectInit ⟨#[0xb1]⟩ 1 none ∈ mm_TB := by decide +kernel
theorem mm_mathW : Cond.initialized "java/lang/Math" ∈ mm_TB ∧ Cond.static Lib.Math.max.name ∈ mm_TB ∧ Cond.code Lib.Math.max.name Lib.Math.max.code 2 (some .int) ∈ mm_TB ∧ Cond.static Lib.Math.min.name ∈ mm_TB ∧ Cond.code Lib.Math.min.name Lib.Math.min.code 2 (some .int) ∈ mm_TB := by decide +kernel

theorem mm_z56 {m pc : Nat} {x : Int32} {ax : List Nat} {r : List mm_Op} {L : mm_L} {st : List Value} {h : mm_H} {Q : mm_Q} (hF : mm_F (mm_PP l D base b sc) (m, (pc, 56, x, ax) :: r, L, st, h) Q) : mm_W l D base b sc (m, (pc, 56, x, ax) :: r, L, st, h) Q := (hF : False).elim
theorem mm_z57 {m pc : Nat} {x : Int32} {ax : List Nat} {r : List mm_Op} {L : mm_L} {st : List Value} {h : mm_H} {Q : mm_Q} (hF : mm_F (mm_PP l D base b sc) (m, (pc, 57, x, ax) :: r, L, st, h) Q) : mm_W l D base b sc (m, (pc, 57, x, ax) :: r, L, st, h) Q := (hF : False).elim
theorem mm_z58 {m pc : Nat} {x : Int32} {ax : List Nat} {r : List mm_Op} {L : mm_L} {st : List Value} {h : mm_H} {Q : mm_Q} (hF : mm_F (mm_PP l D base b sc) (m, (pc, 58, x, ax) :: r, L, st, h) Q) : mm_W l D base b sc (m, (pc, 58, x, ax) :: r, L, st, h) Q := by
  intro p e R s0 M args below meth c Qc XC n0 w0 H locs cells slots ls C hQ hv hR hS hL hn hc hs
  obtain ⟨⟨hx, hb, hrt, hlk, hml, hown⟩, hxt, hts, hnm, hEF, hm, hfr, hlo⟩ := id C
  obtain ⟨hok, hnx⟩ := mm_vl_c hv
  match st, hF with
  | .int i :: .ref a :: st, hF =>
    have hF2 : mm_F (mm_PP l D base b sc) (m, (pc, 58, x, ax) :: r, L, .int i :: .ref a :: st, h) Q := hF
    simp only [mm_F, mm_step, mm_op] at hF2
    by_cases hc9 : ((h.2.1 a).1 = 13 ∨ (h.2.1 a).1 = 14) ∧ a < h.2.2.2.2.1.1
    case neg =>
      simp only [hc9, if_false] at hF2
    rw [if_pos hc9] at hF2
    by_cases hv9 : mm_in i (h.2.1 a).2.1 = true
    case neg =>
      rw [if_neg hv9] at hF2
      exact hF2.elim
    rw [if_pos hv9] at hF2
    cases hv8 : (h.2.1 a).2.2 i.toNatClampNeg with
    | none =>
      rw [hv8] at hF2
      exact hF2.elim
    | some q =>
      rw [hv8] at hF2
      have k : mm_PP l D base b sc (m, r, L, .ref q :: st, h) Q := hF2
      have k2 := k.2 p e R s0 M args below meth c Qc XC n0 w0 H locs cells slots ls C hQ (hnx rfl).2 hR hS hL hn hc hs
      rw [show mm_hd r = pc + 1 from (hnx rfl).1] at k2
      have hcell := hR.2.2 a hc9.2
      have hq : va_rf (((h.2.1 a).2.2 i.toNatClampNeg).map fun q => base + q) = .ref (base + q) := by rw [hv8]; rfl
      rcases hc9.1 with h1 | h1
      · rw [mm_Aq h1 (by decide)] at hcell
        refine va_aldq (D := D.1) (cl := vwCl) (tys := mm_tys D) hx hb hEF.1 (mm_P1 hcell) 0 3 rfl rfl (mm_in_vp hv9) (mm_dec_ok hok) ?_
        rw [hq]
        exact k2
      · rw [mm_Aq h1 (by decide)] at hcell
        refine va_aldq (D := D.1) (cl := vwCl) (tys := mm_tys D) hx hb hEF.1 (mm_P1 hcell) 0 4 rfl rfl (mm_in_vp hv9) (mm_dec_ok hok) ?_
        rw [hq]
        exact k2

theorem mm_z59 {m pc : Nat} {x : Int32} {ax : List Nat} {r : List mm_Op} {L : mm_L} {st : List Value} {h : mm_H} {Q : mm_Q} (hF : mm_F (mm_PP l D base b sc) (m, (pc, 59, x, ax) :: r, L, st, h) Q) : mm_W l D base b sc (m, (pc, 59, x, ax) :: r, L, st, h) Q := by
  intro p e R s0 M args below meth c Qc XC n0 w0 H locs cells slots ls C hQ hv hR hS hL hn hc hs
  obtain ⟨⟨hx, hb, hrt, hlk, hml, hown⟩, hxt, hts, hnm, hEF, hm, hfr, hlo⟩ := id C
  obtain ⟨hok, hnx⟩ := mm_vl_c hv
  match st, hF with
  | .ref q :: .int i :: .ref a :: st, hF =>
    have hF2 : mm_F (mm_PP l D base b sc) (m, (pc, 59, x, ax) :: r, L, .ref q :: .int i :: .ref a :: st, h) Q := hF
    simp only [mm_F, mm_step, mm_op] at hF2
    by_cases hc9 : ((h.2.1 a).1 = 13 ∧ (h.2.1 q).1 = 4 ∨ (h.2.1 a).1 = 14 ∧ (h.2.1 q).1 = 3) ∧ a < h.2.2.2.2.1.1 ∧ q < h.2.2.2.2.1.1
    case neg =>
      simp only [hc9, if_false] at hF2
    rw [if_pos hc9] at hF2
    by_cases hv9 : mm_in i (h.2.1 a).2.1 = true
    case neg =>
      rw [if_neg hv9] at hF2
      exact hF2.elim
    rw [if_pos hv9] at hF2
    have k : mm_PP l D base b sc (m, r, L, st, (h.1, mm_up h.2.1 a ((h.2.1 a).1, (h.2.1 a).2.1, mm_up (h.2.1 a).2.2 i.toNatClampNeg (some q)), h.2.2)) Q := hF2
    rcases hc9.1 with h1 | h1
    · obtain ⟨h1, h2⟩ := h1
      have hcell := hR.2.2 a hc9.2.1
      have hcv := hR.2.2 q hc9.2.2
      rw [mm_Aq h1 (by decide)] at hcell
      rw [mm_e_o h2 (by decide)] at hcv
      obtain ⟨r', hr', cellV, g1, g2, g3, -⟩ := hcv
      have hcls := (hEF.1.1 4 _ rfl).2
      obtain ⟨kA, comp, k1, k2, k3, -⟩ := (hEF.1.2 3 _ rfl).2
      have hcomp : comp = D.1.1 4 := Option.some.inj (k3.symm.trans hcls.1)
      subst hcomp
      obtain ⟨kC, hkC, -⟩ := hcls.2
      refine W.aast hx hb hcell (fun q h => by cases h) (fun h => by cases h) k1 k2 rfl hkC ⟨fun h9 => (mm_in_vp hv9) (Or.inl h9), by show _ < (arrV _ _ _).slots.size; rw [arrV_size]; exact Nat.not_le.mp fun h9 => (mm_in_vp hv9) (Or.inr h9)⟩ g1 (fun q h => by rw [g3] at h; cases h) (by rw [g2]; exact hkC) (by rw [g2]; exact va_assign hcls) rfl rfl (mm_dec_ok hok) fun H1 e1 z oq => ?_
      have k2 := k.2 p e R s0 M args below meth c Qc XC n0 w0 H1 (locs ++ [⟨base + a, i.toNatClampNeg⟩]) cells slots ls C hQ (hnx rfl).2 (mm_Rep.set (a := a) hR z oq rfl rfl (fun j hj _ => by unfold mm_e; simp [mm_up, hj]) ?_) (hS.put z oq (Nat.le_add_right _ _)) hL hn hc hs
      · rw [show mm_hd r = pc + 1 from (hnx rfl).1] at k2
        exact k2
      · rw [mm_Aq (k := 13) (by simp [mm_up, h1]) (by decide)]
        have eq9 : arrV (D.2 13) (h.2.1 a).2.1 (updV (fun j => va_rf (((h.2.1 a).2.2 j).map fun q => base + q)) i.toNatClampNeg (.ref (base + q))) = arrV (D.2 13) (h.2.1 a).2.1 (fun j => va_rf ((mm_up (h.2.1 a).2.2 i.toNatClampNeg (some q) j).map fun q => base + q)) := by
          refine congrArg (arrV _ _) (funext fun j => ?_)
          by_cases hq : j = i.toNatClampNeg
          · subst hq
            simp [updV, mm_up, va_rf]
          · simp [updV, mm_up, hq]
        have eq8 : mm_up h.2.1 a ((h.2.1 a).1, (h.2.1 a).2.1, mm_up (h.2.1 a).2.2 i.toNatClampNeg (some q)) a = ((h.2.1 a).1, (h.2.1 a).2.1, mm_up (h.2.1 a).2.2 i.toNatClampNeg (some q)) := mm_up_s _ _ _
        show H1[base + a]? = some (vp_cell (D.2 13) ((mm_up h.2.1 a ((h.2.1 a).1, (h.2.1 a).2.1, mm_up (h.2.1 a).2.2 i.toNatClampNeg (some q)) a).2.1, .inr (.inr (.inr (.inr fun j => ((mm_up h.2.1 a ((h.2.1 a).1, (h.2.1 a).2.1, mm_up (h.2.1 a).2.2 i.toNatClampNeg (some q)) a).2.2 j).map fun q => base + q)))))
        rw [eq8]
        exact e1.trans (congrArg some ((arrV_store _ _ _ _ _).trans eq9))
    · obtain ⟨h1, h2⟩ := h1
      have hcell := hR.2.2 a hc9.2.1
      have hcv := hR.2.2 q hc9.2.2
      rw [mm_Aq h1 (by decide)] at hcell
      rw [mm_e_o h2 (by decide)] at hcv
      obtain ⟨r', hr', cellV, g1, g2, g3, -⟩ := hcv
      have hcls := (hEF.1.1 3 _ rfl).2
      obtain ⟨kA, comp, k1, k2, k3, -⟩ := (hEF.1.2 4 _ rfl).2
      have hcomp : comp = D.1.1 3 := Option.some.inj (k3.symm.trans hcls.1)
      subst hcomp
      obtain ⟨kC, hkC, -⟩ := hcls.2
      refine W.aast hx hb hcell (fun q h => by cases h) (fun h => by cases h) k1 k2 rfl hkC ⟨fun h9 => (mm_in_vp hv9) (Or.inl h9), by show _ < (arrV _ _ _).slots.size; rw [arrV_size]; exact Nat.not_le.mp fun h9 => (mm_in_vp hv9) (Or.inr h9)⟩ g1 (fun q h => by rw [g3] at h; cases h) (by rw [g2]; exact hkC) (by rw [g2]; exact va_assign hcls) rfl rfl (mm_dec_ok hok) fun H1 e1 z oq => ?_
      have k2 := k.2 p e R s0 M args below meth c Qc XC n0 w0 H1 (locs ++ [⟨base + a, i.toNatClampNeg⟩]) cells slots ls C hQ (hnx rfl).2 (mm_Rep.set (a := a) hR z oq rfl rfl (fun j hj _ => by unfold mm_e; simp [mm_up, hj]) ?_) (hS.put z oq (Nat.le_add_right _ _)) hL hn hc hs
      · rw [show mm_hd r = pc + 1 from (hnx rfl).1] at k2
        exact k2
      · rw [mm_Aq (k := 14) (by simp [mm_up, h1]) (by decide)]
        have eq9 : arrV (D.2 14) (h.2.1 a).2.1 (updV (fun j => va_rf (((h.2.1 a).2.2 j).map fun q => base + q)) i.toNatClampNeg (.ref (base + q))) = arrV (D.2 14) (h.2.1 a).2.1 (fun j => va_rf ((mm_up (h.2.1 a).2.2 i.toNatClampNeg (some q) j).map fun q => base + q)) := by
          refine congrArg (arrV _ _) (funext fun j => ?_)
          by_cases hq : j = i.toNatClampNeg
          · subst hq
            simp [updV, mm_up, va_rf]
          · simp [updV, mm_up, hq]
        have eq8 : mm_up h.2.1 a ((h.2.1 a).1, (h.2.1 a).2.1, mm_up (h.2.1 a).2.2 i.toNatClampNeg (some q)) a = ((h.2.1 a).1, (h.2.1 a).2.1, mm_up (h.2.1 a).2.2 i.toNatClampNeg (some q)) := mm_up_s _ _ _
        show H1[base + a]? = some (vp_cell (D.2 14) ((mm_up h.2.1 a ((h.2.1 a).1, (h.2.1 a).2.1, mm_up (h.2.1 a).2.2 i.toNatClampNeg (some q)) a).2.1, .inr (.inr (.inr (.inr fun j => ((mm_up h.2.1 a ((h.2.1 a).1, (h.2.1 a).2.1, mm_up (h.2.1 a).2.2 i.toNatClampNeg (some q)) a).2.2 j).map fun q => base + q)))))
        rw [eq8]
        exact e1.trans (congrArg some ((arrV_store _ _ _ _ _).trans eq9))

theorem mm_z60 {m pc : Nat} {x : Int32} {ax : List Nat} {r : List mm_Op} {L : mm_L} {st : List Value} {h : mm_H} {Q : mm_Q} (hF : mm_F (mm_PP l D base b sc) (m, (pc, 60, x, ax) :: r, L, st, h) Q) : mm_W l D base b sc (m, (pc, 60, x, ax) :: r, L, st, h) Q := by
  intro p e R s0 M args below meth c Qc XC n0 w0 H locs cells slots ls C hQ hv hR hS hL hn hc hs
  obtain ⟨⟨hx, hb, hrt, hlk, hml, hown⟩, hxt, hts, hnm, hEF, hm, hfr, hlo⟩ := id C
  obtain ⟨hok, hnx⟩ := mm_vl_c hv
  match st, hF with
  | .float w :: st, hF =>
    have k : mm_PP l D base b sc (m, r, L, .int (nI h.1.1) :: st, h) Q := hF
    have k2 := k.2 p e R s0 M args below meth c Qc XC n0 w0 H locs cells slots ls C hQ (hnx rfl).2 hR hS hL hn hc hs
    rw [show mm_hd r = pc + 1 from (hnx rfl).1] at k2
    obtain ⟨-, -, -, -, -, -, hX, hb1, hb2, -⟩ := hEF
    rw [hR.1] at k2
    exact va_slen hx hb hX (by omega) (by omega) hS (mm_dec_ok hok) k2

theorem mm_z61 {m pc : Nat} {x : Int32} {ax : List Nat} {r : List mm_Op} {L : mm_L} {st : List Value} {h : mm_H} {Q : mm_Q} (hF : mm_F (mm_PP l D base b sc) (m, (pc, 61, x, ax) :: r, L, st, h) Q) : mm_W l D base b sc (m, (pc, 61, x, ax) :: r, L, st, h) Q := by
  intro p e R s0 M args below meth c Qc XC n0 w0 H locs cells slots ls C hQ hv hR hS hL hn hc hs
  obtain ⟨⟨hx, hb, hrt, hlk, hml, hown⟩, hxt, hts, hnm, hEF, hm, hfr, hlo⟩ := id C
  obtain ⟨hok, hnx⟩ := mm_vl_c hv
  match st, hF with
  | .int i :: .float w :: st, hF =>
    have hF2 : mm_F (mm_PP l D base b sc) (m, (pc, 61, x, ax) :: r, L, .int i :: .float w :: st, h) Q := hF
    simp only [mm_F, mm_step, mm_op] at hF2
    by_cases hv9 : mm_in i h.1.1 = true
    case neg =>
      rw [if_neg hv9] at hF2
      exact hF2.elim
    rw [if_pos hv9] at hF2
    have k : mm_PP l D base b sc (m, r, L, .int (h.1.2 i.toNatClampNeg) :: st, h) Q := hF2
    have k2 := k.2 p e R s0 M args below meth c Qc XC n0 w0 H locs cells slots ls C hQ (hnx rfl).2 hR hS hL hn hc hs
    rw [show mm_hd r = pc + 1 from (hnx rfl).1] at k2
    obtain ⟨-, -, -, -, -, -, hX, hb1, hb2, -⟩ := hEF
    rw [hR.1] at k2 hv9
    exact va_sld hx hb hX (by omega) (by omega) hS (mm_in_vp hv9) (mm_dec_ok hok) k2

theorem mm_z68 {m pc : Nat} {x : Int32} {ax : List Nat} {r : List mm_Op} {L : mm_L} {st : List Value} {h : mm_H} {Q : mm_Q} (hF : mm_F (mm_PP l D base b sc) (m, (pc, 68, x, ax) :: r, L, st, h) Q) : mm_W l D base b sc (m, (pc, 68, x, ax) :: r, L, st, h) Q := by
  intro p e R s0 M args below meth c Qc XC n0 w0 H locs cells slots ls C hQ hv hR hS hL hn hc hs
  obtain ⟨⟨hx, hb, hrt, hlk, hml, hown⟩, hxt, hts, hnm, hEF, hm, hfr, hlo⟩ := id C
  obtain ⟨hok, hnx⟩ := mm_vl_c hv
  have hok2 : (mm_dec m pc (.invokespecial (mm_a ax 0)) 3 && mm_wL (mm_a ax 1) (.methodLink (mm_cls m) (mm_a ax 0) objectInit)) = true := hok
  simp only [Bool.and_eq_true] at hok2
  match st, hF with
  | .ref a :: st, hF =>
    have hF2 : mm_F (mm_PP l D base b sc) (m, (pc, 68, x, ax) :: r, L, .ref a :: st, h) Q := hF
    simp only [mm_F, mm_step, mm_op] at hF2
    by_cases hc9 : 1 ≤ mm_rk m ∧ mm_wt st ≤ 8
    case neg =>
      simp only [hc9, if_false] at hF2
    rw [if_pos hc9] at hF2
    have k : mm_PP l D base b sc (m, r, L, st, h) Q := hF2
    have k2 := k.2 p e R s0 M args below meth c Qc XC n0 w0 H locs cells slots ls C hQ (hnx rfl).2 hR hS hL hn hc hs
    rw [show mm_hd r = pc + 3 from (hnx rfl).1] at k2
    have h9 := mm_tr_wt base b st
    have hfr : mm_rk m ≤ R.frames := hfr
    have hlo : 36 * mm_rk m ≤ R.locals := hlo
    refine W.objInit hx hb hown (hts _ (mm_wk_in hok2.2)) (hts _ mm_objW.1) (hts _ mm_objW.2) rfl (by rw [hml]; exact hL.1.trans hn) rfl (mm_dec_ok hok2.1) (by omega) (by show 2 * 0 + _ + 12 ≤ _; rw [h9]; omega) ?_
    exact k2

theorem mm_z73 {m pc : Nat} {x : Int32} {ax : List Nat} {r : List mm_Op} {L : mm_L} {st : List Value} {h : mm_H} {Q : mm_Q} (hF : mm_F (mm_PP l D base b sc) (m, (pc, 73, x, ax) :: r, L, st, h) Q) : mm_W l D base b sc (m, (pc, 73, x, ax) :: r, L, st, h) Q := by
  intro p e R s0 M args below meth c Qc XC n0 w0 H locs cells slots ls C hQ hv hR hS hL hn hc hs
  obtain ⟨⟨hx, hb, hrt, hlk, hml, hown⟩, hxt, hts, hnm, hEF, hm, hfr, hlo⟩ := id C
  obtain ⟨hok, hnx⟩ := mm_vl_c hv
  have hok2 : (mm_dec m pc (.invokestatic (mm_a ax 0)) 3 && mm_wL (mm_a ax 1) (.methodLink (mm_cls m) (mm_a ax 0) Lib.Math.max.name)) = true := hok
  simp only [Bool.and_eq_true] at hok2
  match st, hF with
  | .int q :: .int a :: st, hF =>
    have hF2 : mm_F (mm_PP l D base b sc) (m, (pc, 73, x, ax) :: r, L, .int q :: .int a :: st, h) Q := hF
    simp only [mm_F, mm_step, mm_op] at hF2
    by_cases hc9 : 1 ≤ mm_rk m ∧ mm_wt st ≤ 8
    case neg =>
      simp only [hc9, if_false] at hF2
    rw [if_pos hc9] at hF2
    have k : mm_PP l D base b sc (m, r, L, .int (if a < q then q else a) :: st, h) Q := hF2
    have k2 := k.2 p e R s0 M args below meth c Qc XC n0 w0 H locs cells slots ls C hQ (hnx rfl).2 hR hS hL hn hc hs
    rw [show mm_hd r = pc + 3 from (hnx rfl).1] at k2
    have h9 := mm_tr_wt base b st
    obtain ⟨ra, ga, hqa, hq1, hq2⟩ := k.1
    have hfa := hQ.2.2 _ _ hqa
    have hc : cells + n0 = mm_n h := hc
    have hs : slots + w0 = mm_w h := hs
    have hq1 : mm_n h ≤ mm_n ga := hq1
    have hq2 : mm_w h ≤ mm_w ga := hq2
    have hfr : mm_rk m ≤ R.frames := hfr
    have hlo : 36 * mm_rk m ≤ R.locals := hlo
    exact va_mmax hx hb (by rw [hml]; exact (hL.1.trans hn).symm) hown (hts _ (mm_wk_in hok2.2)) (hts _ mm_mathW.2.1) (hts _ mm_mathW.1) (hts _ mm_mathW.2.2.1) (by omega) (by rw [h9]; omega) (by omega) (by omega) (mm_dec_ok hok2.1) k2

theorem mm_z74 {m pc : Nat} {x : Int32} {ax : List Nat} {r : List mm_Op} {L : mm_L} {st : List Value} {h : mm_H} {Q : mm_Q} (hF : mm_F (mm_PP l D base b sc) (m, (pc, 74, x, ax) :: r, L, st, h) Q) : mm_W l D base b sc (m, (pc, 74, x, ax) :: r, L, st, h) Q := by
  intro p e R s0 M args below meth c Qc XC n0 w0 H locs cells slots ls C hQ hv hR hS hL hn hc hs
  obtain ⟨⟨hx, hb, hrt, hlk, hml, hown⟩, hxt, hts, hnm, hEF, hm, hfr, hlo⟩ := id C
  obtain ⟨hok, hnx⟩ := mm_vl_c hv
  have hok2 : (mm_dec m pc (.invokestatic (mm_a ax 0)) 3 && mm_wL (mm_a ax 1) (.methodLink (mm_cls m) (mm_a ax 0) Lib.Math.min.name)) = true := hok
  simp only [Bool.and_eq_true] at hok2
  match st, hF with
  | .int q :: .int a :: st, hF =>
    have hF2 : mm_F (mm_PP l D base b sc) (m, (pc, 74, x, ax) :: r, L, .int q :: .int a :: st, h) Q := hF
    simp only [mm_F, mm_step, mm_op] at hF2
    by_cases hc9 : 1 ≤ mm_rk m ∧ mm_wt st ≤ 8
    case neg =>
      simp only [hc9, if_false] at hF2
    rw [if_pos hc9] at hF2
    have k : mm_PP l D base b sc (m, r, L, .int (if q < a then q else a) :: st, h) Q := hF2
    have k2 := k.2 p e R s0 M args below meth c Qc XC n0 w0 H locs cells slots ls C hQ (hnx rfl).2 hR hS hL hn hc hs
    rw [show mm_hd r = pc + 3 from (hnx rfl).1] at k2
    have h9 := mm_tr_wt base b st
    obtain ⟨ra, ga, hqa, hq1, hq2⟩ := k.1
    have hfa := hQ.2.2 _ _ hqa
    have hc : cells + n0 = mm_n h := hc
    have hs : slots + w0 = mm_w h := hs
    have hq1 : mm_n h ≤ mm_n ga := hq1
    have hq2 : mm_w h ≤ mm_w ga := hq2
    have hfr : mm_rk m ≤ R.frames := hfr
    have hlo : 36 * mm_rk m ≤ R.locals := hlo
    exact va_mmin hx hb (by rw [hml]; exact (hL.1.trans hn).symm) hown (hts _ (mm_wk_in hok2.2)) (hts _ mm_mathW.2.2.2.1) (hts _ mm_mathW.1) (hts _ mm_mathW.2.2.2.2) (by omega) (by rw [h9]; omega) (by omega) (by omega) (mm_dec_ok hok2.1) k2

end MMA
