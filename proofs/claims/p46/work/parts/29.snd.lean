section MMN
variable {l : Launch} {D : mm_D} {base b : Nat} {sc : Nat × (Nat → Int32)}
theorem mm_cI {c : Nat} (hc : c < 6) : Cond.instantiable (mm_cl c).1 (mm_nf c) ∈ mm_TB ∧ Cond.initialized (mm_cl c).1 ∈ mm_TB := by
  have h := mm_cok_all c hc
  simp only [mm_cok, Bool.and_eq_true, decide_eq_true_eq] at h
  exact ⟨mm_wk_in h.1.1.2, mm_wk_in h.1.2⟩
theorem mm_Rep.new {h h' : mm_H} {H H1 : Heap} (hR : mm_Rep D base sc h H) (hT : h.2.2.2.2.2 = 0) (z : H1.size = H.size + 1) (o : ∀ q : Nat, q < H.size → H1[q]? = H[q]?) (e1 : h'.1 = h.1) (e2 : h'.2.2.2.2.1.1 = h.2.2.2.2.1.1 + 1)
    (e3 : ∀ j, j < h.2.2.2.2.1.1 → mm_e base D.2 h' j = mm_e base D.2 h j) (e4 : va_at D.1 vwCl (base + h.2.2.2.2.1.1, mm_e base D.2 h' h.2.2.2.2.1.1) H1) : mm_Rep D base sc h' H1 := by
  obtain ⟨r1, ⟨r2, r3⟩, r4⟩ := hR
  have r3 := r3 hT
  refine ⟨e1.trans r1, ⟨by omega, fun _ => by omega⟩, fun k hk => ?_⟩
  by_cases hk2 : k < h.2.2.2.2.1.1
  · rw [e3 k hk2]
    exact (r4 k hk2).kept (o _ (by show base + k < H.size; omega))
  · have : k = h.2.2.2.2.1.1 := by omega
    subst this
    exact e4
theorem mm_Snew {A : Nat → Prop} {H0 H H1 : Heap} {locs : List Loc} (hS : va_S A H0 H locs) (z : H1.size = H.size + 1) (o : ∀ q : Nat, q < H.size → H1[q]? = H[q]?) : va_S A H0 H1 locs :=
  ⟨by have := hS.1; omega, fun q h1 h2 => (o q (Nat.lt_of_lt_of_le h1 hS.1)).trans (hS.2.1 q h1 h2), hS.2.2⟩
theorem mm_e_up {dA : Nat → ClassId} {h : mm_H} {N c n : Nat} {y : (Nat × Nat) × Nat} {j : Nat} (hj : j < N) : mm_e base dA (h.1, mm_up h.2.1 N (c, n, fun _ => none), mm_up h.2.2.1 N (fun _ => 0), h.2.2.2.1, y) j = mm_e base dA h j := by
  have hj2 : ¬ j = N := by omega
  unfold mm_e
  simp only [mm_up, if_neg hj2]
theorem mm_z62 {m pc : Nat} {x : Int32} {ax : List Nat} {r : List mm_Op} {L : mm_L} {st : List Value} {h : mm_H} {Q : mm_Q} (hF : mm_F (mm_PP l D base b sc) (m, (pc, 62, x, ax) :: r, L, st, h) Q) : mm_W l D base b sc (m, (pc, 62, x, ax) :: r, L, st, h) Q := by
  intro p e R s0 M args below meth c Qc XC n0 w0 H locs cells slots ls C hQ hv hR hS hL hn hc hs
  obtain ⟨⟨hx, hb, hrt, hlk, hml, hown⟩, hxt, hts, hnm, hEF, hm, hfr, hlo⟩ := id C
  obtain ⟨hok, hnx⟩ := mm_vl_c hv
  have hok2 : (mm_dec m pc (.new (mm_a ax 1)) 3 && decide (mm_a ax 0 < 6) && mm_wL (mm_a ax 2) (.classLink (mm_cls m) (mm_a ax 1) (mm_cl (mm_a ax 0)).1)) = true := hok
  simp only [Bool.and_eq_true, decide_eq_true_eq] at hok2
  obtain ⟨⟨hdg, hc7⟩, hlk2⟩ := hok2
  have hF2 := hF
  simp only [mm_F, mm_step, mm_op] at hF2
  by_cases hc9 : h.2.2.2.2.2 = 0 ∧ mm_a ax 0 < 6
  case neg =>
    rw [if_neg hc9] at hF2
    exact hF2.elim
  rw [if_pos hc9] at hF2
  simp only [mm_go] at hF2
  obtain ⟨kq, kw⟩ := hF2
  obtain ⟨ra, ga, hqa, hq1, hq2⟩ := kq
  have hfa := hQ.2.2 _ _ hqa
  have hc : cells + n0 = mm_n h := hc
  have hs : slots + w0 = mm_w h := hs
  have hT := hc9.1
  have hq1 : h.2.2.2.2.1.1 + 1 + 0 ≤ mm_n ga := hq1
  have hq2 : h.2.2.2.2.1.2 + mm_nf (mm_a ax 0) + 6 * 0 ≤ mm_w ga := hq2
  have hn9 : mm_n h = h.2.2.2.2.1.1 := by unfold mm_n; rw [hT]; rfl
  have hw9 : mm_w h = h.2.2.2.2.1.2 := by unfold mm_w; rw [hT]; rfl
  have hsz := hR.2.1.2 hT
  have hcin := mm_cin hc7
  have hKn := hEF.1.1 _ _ (mm_cl_at _ hc7)
  refine W.newcK hx hb hown (hts _ (mm_wk_in hlk2)) (hts _ (mm_cI hc7).1) (hts _ (mm_cI hc7).2) rfl (mm_dec_ok hdg) (by omega) (by omega) hKn.2.1 hsz fun H' kC hk1 hk2 hk3 hk4 => ?_
  rw [← hsz] at hk3 hk4
  have k2 := kw p e R s0 M args below meth c Qc XC n0 w0 H' locs (cells + 1) (slots + mm_nf (mm_a ax 0)) ls C hQ (hnx rfl).2 ?_ (mm_Snew hS hk3 hk4) hL hn (by show cells + 1 + n0 = h.2.2.2.2.1.1 + 1 + 0; omega) (by show slots + mm_nf (mm_a ax 0) + w0 = h.2.2.2.2.1.2 + mm_nf (mm_a ax 0) + 6 * 0; omega)
  · rw [show mm_hd r = pc + 3 from (hnx rfl).1] at k2
    exact k2
  · refine mm_Rep.new hR hT hk3 hk4 rfl rfl (fun j hj => mm_e_up hj) ?_
    have hB := u_born (ty := mm_fty (mm_a ax 0)) hts hcin hKn hk1 hk2 (fun k hk => (mm_cF hc7 (by rw [← mm_cN hc7]; exact hk)).1)
    have he : (((h.1, mm_up h.2.1 h.2.2.2.2.1.1 (mm_a ax 0, mm_nf (mm_a ax 0), fun _ => none), mm_up h.2.2.1 h.2.2.2.2.1.1 (fun _ => 0), h.2.2.2.1, (h.2.2.2.2.1.1 + 1, h.2.2.2.2.1.2 + mm_nf (mm_a ax 0)), 0) : mm_H).2.1 h.2.2.2.2.1.1).1 = mm_a ax 0 := by simp [mm_up]
    rw [mm_e_o he hc7]
    refine ⟨_, mm_cl_at _ hc7, ?_⟩
    obtain ⟨cell, g1, g2, g3, g4⟩ := hB
    refine ⟨cell, g1, g2, g3, fun k hk => ?_⟩
    rw [g4 k hk]
    have hk' : k < mm_nf (mm_a ax 0) := by rw [← mm_cN hc7]; exact hk
    congr 1
    unfold vp_V
    rw [List.getD_eq_getElem?_getD, mm_fs_get hk', Option.getD_some]
    show defaultValue (mm_fty (mm_a ax 0) k) = _
    by_cases hr : mm_isR (mm_a ax 0) k = true
    · rw [if_pos hr]
      rcases ((mm_cF hc7 hk').2.2.1 hr).2 with ⟨n, hh⟩ | ⟨n, hh⟩ <;> rw [hh] <;> simp [mm_up, va_rf, defaultValue]
    · rw [if_neg hr]
      rcases ((mm_cF hc7 hk').2.2.2 (by simpa using hr)).2 with hh | hh <;> rw [hh] <;> simp [mm_up, defaultValue]
def mm_ty (k : Nat) : FieldType := match k with
  | 10 => .int
  | 11 => .boolean
  | 12 => .char
  | _ => .long
theorem mm_z63 {m pc : Nat} {x : Int32} {ax : List Nat} {r : List mm_Op} {L : mm_L} {st : List Value} {h : mm_H} {Q : mm_Q} (hF : mm_F (mm_PP l D base b sc) (m, (pc, 63, x, ax) :: r, L, st, h) Q) : mm_W l D base b sc (m, (pc, 63, x, ax) :: r, L, st, h) Q := by
  intro p e R s0 M args below meth c Qc XC n0 w0 H locs cells slots ls C hQ hv hR hS hL hn hc hs
  obtain ⟨⟨hx, hb, hrt, hlk, hml, hown⟩, hxt, hts, hnm, hEF, hm, hfr, hlo⟩ := id C
  obtain ⟨hok, hnx⟩ := mm_vl_c hv
  have hdg : mm_dec m pc (.newarray (mm_at (mm_a ax 0))) 2 = true := hok
  match st, hF with
  | .int n :: st, hF =>
    have hF2 : mm_F (mm_PP l D base b sc) (m, (pc, 63, x, ax) :: r, L, .int n :: st, h) Q := hF
    simp only [mm_F, mm_step, mm_op] at hF2
    by_cases hc9 : h.2.2.2.2.2 = 0 ∧ 0 ≤ n ∧ n.toNatClampNeg < 4096 ∧ (mm_a ax 0 = 10 ∨ mm_a ax 0 = 11 ∨ mm_a ax 0 = 12)
    case neg =>
      rw [if_neg hc9] at hF2
      exact hF2.elim
    rw [if_pos hc9] at hF2
    simp only [mm_go] at hF2
    obtain ⟨kq, kw⟩ := hF2
    obtain ⟨ra, ga, hqa, hq1, hq2⟩ := kq
    have hfa := hQ.2.2 _ _ hqa
    have hc : cells + n0 = mm_n h := hc
    have hs : slots + w0 = mm_w h := hs
    obtain ⟨hT, h0n, hn4, hkind⟩ := hc9
    have hq1 : h.2.2.2.2.1.1 + 1 + 0 ≤ mm_n ga := hq1
    have hq2 : h.2.2.2.2.1.2 + n.toNatClampNeg + 6 * 0 ≤ mm_w ga := hq2
    have hn9 : mm_n h = h.2.2.2.2.1.1 := by unfold mm_n; rw [hT]; rfl
    have hw9 : mm_w h = h.2.2.2.2.1.2 := by unfold mm_w; rw [hT]; rfl
    have hsz := hR.2.1.2 hT
    have hty : newarray.typeOf (mm_at (mm_a ax 0)) = mm_ty (mm_a ax 0) := by rcases hkind with h9 | h9 | h9 <;> simp [h9, mm_at, mm_ty, newarray.typeOf]
    have harr : Cond.arrayClass (newarray.typeOf (mm_at (mm_a ax 0))) ∈ mm_TB := by
      rcases hkind with h9 | h9 | h9
      · rw [h9]; exact mm_arrW.1
      · rw [h9]; exact mm_arrW.2.1
      · rw [h9]; exact mm_arrW.2.2
    have hbt : n.toNatClampNeg * componentBytes (newarray.typeOf (mm_at (mm_a ax 0))) ≤ 536870912 := by
      rcases hkind with h9 | h9 | h9 <;> simp [h9, mm_at, newarray.typeOf, componentBytes] <;> omega
    have hcl : s0.vm.findClass ("[" ++ (newarray.typeOf (mm_at (mm_a ax 0))).toString) = some (D.2 (mm_a ax 0)) := by
      rcases hkind with h9 | h9 | h9
      · rw [h9]; exact (hEF.1.2 0 _ rfl).2
      · rw [h9]; exact (hEF.1.2 1 _ rfl).2
      · rw [h9]; exact (hEF.1.2 2 _ rfl).2
    refine va_newaK hx hb (hts _ harr) rfl (mm_dec_ok hdg) rfl (Int32.not_lt.mpr h0n) rfl hbt (by omega) (by omega) hsz fun H' cA hk2 hk3 hk4 hk5 hk6 => ?_
    cases hcl.symm.trans hk6
    rw [← hsz] at hk3 hk4
    have k2 := kw p e R s0 M args below meth c Qc XC n0 w0 H' locs (cells + 1) (slots + n.toNatClampNeg) ls C hQ (hnx rfl).2 ?_ (mm_Snew hS hk3 hk4) hL hn (by show cells + 1 + n0 = h.2.2.2.2.1.1 + 1 + 0; omega) (by show slots + n.toNatClampNeg + w0 = h.2.2.2.2.1.2 + n.toNatClampNeg + 6 * 0; omega)
    · rw [show mm_hd r = pc + 2 from (hnx rfl).1] at k2
      exact k2
    · refine mm_Rep.new hR hT hk3 hk4 rfl rfl (fun j hj => mm_e_up hj) ?_
      have he : (((h.1, mm_up h.2.1 h.2.2.2.2.1.1 (mm_a ax 0, n.toNatClampNeg, fun _ => none), mm_up h.2.2.1 h.2.2.2.2.1.1 (fun _ => 0), h.2.2.2.1, (h.2.2.2.2.1.1 + 1, h.2.2.2.2.1.2 + n.toNatClampNeg), 0) : mm_H).2.1 h.2.2.2.2.1.1).1 = mm_a ax 0 := by simp [mm_up]
      rcases hkind with h9 | h9 | h9
      · rw [mm_Ar (k := 10) (he.trans h9) (Or.inl rfl)]
        rw [h9] at hk2
        show H'[_]? = some (vp_cell _ _)
        rw [hk2]
        simp [mm_up, vp_cell, mm_at, newarray.typeOf, defaultValue]
      · rw [mm_Ar (k := 11) (he.trans h9) (Or.inr (Or.inl rfl))]
        rw [h9] at hk2
        show H'[_]? = some (vp_cell _ _)
        rw [hk2]
        simp [mm_up, vp_cell, mm_at, newarray.typeOf, defaultValue]
      · rw [mm_Ar (k := 12) (he.trans h9) (Or.inr (Or.inr rfl))]
        rw [h9] at hk2
        show H'[_]? = some (vp_cell _ _)
        rw [hk2]
        simp [mm_up, vp_cell, mm_at, newarray.typeOf, defaultValue]
theorem mm_z64 {m pc : Nat} {x : Int32} {ax : List Nat} {r : List mm_Op} {L : mm_L} {st : List Value} {h : mm_H} {Q : mm_Q} (hF : mm_F (mm_PP l D base b sc) (m, (pc, 64, x, ax) :: r, L, st, h) Q) : mm_W l D base b sc (m, (pc, 64, x, ax) :: r, L, st, h) Q := by
  intro p e R s0 M args below meth c Qc XC n0 w0 H locs cells slots ls C hQ hv hR hS hL hn hc hs
  obtain ⟨⟨hx, hb, hrt, hlk, hml, hown⟩, hxt, hts, hnm, hEF, hm, hfr, hlo⟩ := id C
  obtain ⟨hok, hnx⟩ := mm_vl_c hv
  have hok2 : (mm_dec m pc (.anewarray (mm_a ax 1)) 3 && mm_wL (mm_a ax 2) (.classLink (mm_cls m) (mm_a ax 1) (if mm_a ax 0 = 13 then RX4 else RX3))) = true := hok
  simp only [Bool.and_eq_true] at hok2
  match st, hF with
  | .int n :: st, hF =>
    have hF2 : mm_F (mm_PP l D base b sc) (m, (pc, 64, x, ax) :: r, L, .int n :: st, h) Q := hF
    simp only [mm_F, mm_step, mm_op] at hF2
    by_cases hc9 : h.2.2.2.2.2 = 0 ∧ 0 ≤ n ∧ n.toNatClampNeg < 4096 ∧ (mm_a ax 0 = 13 ∨ mm_a ax 0 = 14)
    case neg =>
      rw [if_neg hc9] at hF2
      exact hF2.elim
    rw [if_pos hc9] at hF2
    simp only [mm_go] at hF2
    obtain ⟨kq, kw⟩ := hF2
    obtain ⟨ra, ga, hqa, hq1, hq2⟩ := kq
    have hfa := hQ.2.2 _ _ hqa
    have hc : cells + n0 = mm_n h := hc
    have hs : slots + w0 = mm_w h := hs
    obtain ⟨hT, h0n, hn4, hkind⟩ := hc9
    have hq1 : h.2.2.2.2.1.1 + 1 + 0 ≤ mm_n ga := hq1
    have hq2 : h.2.2.2.2.1.2 + n.toNatClampNeg + 6 * 0 ≤ mm_w ga := hq2
    have hn9 : mm_n h = h.2.2.2.2.1.1 := by unfold mm_n; rw [hT]; rfl
    have hw9 : mm_w h = h.2.2.2.2.1.2 := by unfold mm_w; rw [hT]; rfl
    have hsz := hR.2.1.2 hT
    have hov : ∃ cn : String, (if mm_a ax 0 = 13 then RX4 else RX3) = cn ∧ (Cond.arrayOver (.object cn)).before args s0 = true ∧ s0.vm.findClass ("[" ++ (FieldType.object cn).toString) = some (D.2 (mm_a ax 0)) := by
      rcases hkind with h9 | h9
      · refine ⟨RX4, by rw [if_pos h9], hEF.2.2.2.2.1.1, ?_⟩
        obtain ⟨kA, comp, -, -, -, h4⟩ := (hEF.1.2 3 _ rfl).2
        rw [h9]; exact h4
      · refine ⟨RX3, by rw [if_neg (by omega)], hEF.2.2.2.2.1.2, ?_⟩
        obtain ⟨kA, comp, -, -, -, h4⟩ := (hEF.1.2 4 _ rfl).2
        rw [h9]; exact h4
    obtain ⟨cn, hcn, hov1, hov2⟩ := hov
    rw [hcn] at hok2
    refine W.anew hx hb hown (hts _ (mm_wk_in hok2.2)) hov1 rfl (mm_dec_ok hok2.1) rfl (Int32.not_lt.mpr h0n) (by omega) (by omega) (by omega) fun cA kA comp hk2 hk3 hk4 hk5 => ?_
    cases hov2.symm.trans hk2
    have z : (H.push { cls := D.2 (mm_a ax 0), slots := Array.replicate n.toNatClampNeg .null, vm := .none }).size = H.size + 1 := by simp
    have o : ∀ q : Nat, q < H.size → (H.push { cls := D.2 (mm_a ax 0), slots := Array.replicate n.toNatClampNeg .null, vm := .none })[q]? = H[q]? := fun q hq => by rw [Array.getElem?_push, if_neg (Nat.ne_of_lt hq)]
    have k2 := kw p e R s0 M args below meth c Qc XC n0 w0 _ locs (cells + 1) (slots + n.toNatClampNeg) ls C hQ (hnx rfl).2 ?_ (mm_Snew hS z o) hL hn (by show cells + 1 + n0 = h.2.2.2.2.1.1 + 1 + 0; omega) (by show slots + n.toNatClampNeg + w0 = h.2.2.2.2.1.2 + n.toNatClampNeg + 6 * 0; omega)
    · rw [show mm_hd r = pc + 3 from (hnx rfl).1] at k2
      rw [hsz]
      exact k2
    · refine mm_Rep.new hR hT z o rfl rfl (fun j hj => mm_e_up hj) ?_
      have he : (((h.1, mm_up h.2.1 h.2.2.2.2.1.1 (mm_a ax 0, n.toNatClampNeg, fun _ => none), mm_up h.2.2.1 h.2.2.2.2.1.1 (fun _ => 0), h.2.2.2.1, (h.2.2.2.2.1.1 + 1, h.2.2.2.2.1.2 + n.toNatClampNeg), 0) : mm_H).2.1 h.2.2.2.2.1.1).1 = mm_a ax 0 := by simp [mm_up]
      have hce : ({ cls := D.2 (mm_a ax 0), slots := Array.replicate n.toNatClampNeg .null, vm := .none } : Cell) = arrV (D.2 (mm_a ax 0)) n.toNatClampNeg (fun _ => .null) := by
        unfold arrV
        congr 1
        apply Array.ext
        · simp
        · intro i h1 h2; simp
      rw [mm_Aq he (by rcases hkind with h9 | h9 <;> simp [h9])]
      show (H.push _)[_]? = some (vp_cell _ _)
      rw [← hsz, hce]
      simp [mm_up, vp_cell, va_rf]
def mm_nms : List String := ["java/lang/RuntimeException", "java/lang/Exception"]
theorem mm_thW : ∀ q ∈ mm_ths, ∀ w ∈ vx_atS RX5 q.1 (mm_exc q.2) mm_nms, vx_ot w = true ∧ (w ∈ mm_TB ∨ w ∈ mm_nw ∧ w.onTables = true) := by decide +kernel
theorem mm_thI : ∀ E, E < 3 → Bundle.fit (mm_exc E) = true ∧ (Cond.initialized (mm_exc E)) ∈ mm_TB ∧ ∀ n ∈ mm_nms, Bundle.fit n = true := by decide +kernel
theorem mm_z70 (hl9 : l.stackTraces = false) {m pc : Nat} {x : Int32} {ax : List Nat} {r : List mm_Op} {L : mm_L} {st : List Value} {h : mm_H} {Q : mm_Q} (hF : mm_F (mm_PP l D base b sc) (m, (pc, 70, x, ax) :: r, L, st, h) Q) : mm_W l D base b sc (m, (pc, 70, x, ax) :: r, L, st, h) Q := by
  intro p e R s0 M args below meth c Qc XC n0 w0 H locs cells slots ls C hQ hv hR hS hL hn hc hs
  obtain ⟨⟨hx, hb, hrt, hlk, hml, hown⟩, hxt, hts, hnm, hEF, hm, hfr, hlo⟩ := id C
  obtain ⟨hok, hnx⟩ := mm_vl_c hv
  have hok2 : ((if mm_a ax 4 = 0 then mm_dec m (pc + 4) (.ldc (mm_a ax 2)) 2 && mm_dec m (pc + 6) (.invokespecial (mm_a ax 3)) 3 && mm_dec m (pc + 9) .athrow 1 else mm_dec m (pc + 4) (.ldc_w (mm_a ax 2)) 3 && mm_dec m (pc + 7) (.invokespecial (mm_a ax 3)) 3 && mm_dec m (pc + 10) .athrow 1) && mm_dec m pc (.new (mm_a ax 1)) 3 && mm_dec m (pc + 3) .dup 1 && mm_wL (mm_a ax 5) (.classLink (mm_cls m) (mm_a ax 1) (mm_exc (mm_a ax 0))) && decide (mm_cls m = RX5) && decide ((mm_a ax 3, mm_a ax 0) ∈ mm_ths) && (mm_msg.any fun q => q.1 == mm_a ax 2) && (mm_hh m).isEmpty && decide (mm_a ax 0 < 3)) = true := hok
  simp only [Bool.and_eq_true, decide_eq_true_eq, List.any_eq_true, beq_iff_eq, List.isEmpty_iff] at hok2
  obtain ⟨⟨⟨⟨⟨⟨⟨⟨o1, o2⟩, o3⟩, o4⟩, o5⟩, o6⟩, q9, o7, o7b⟩, o8⟩, o9⟩ := hok2
  have hF2 := hF
  simp only [mm_F, mm_step, mm_op] at hF2
  by_cases hc9 : 6 ≤ mm_rk m ∧ mm_wt st ≤ 8
  case neg =>
    rw [if_neg hc9] at hF2
    exact hF2.elim
  rw [if_pos hc9] at hF2
  have k : Q (.inr (mm_a ax 0)) (h.1, h.2.1, h.2.2.1, h.2.2.2.1, h.2.2.2.2.1, h.2.2.2.2.2 + 1) := hF2
  have hfa := hQ.2.2 _ _ k
  have hc : cells + n0 = mm_n h := hc
  have hs : slots + w0 = mm_w h := hs
  have hfr : mm_rk m ≤ R.frames := hfr
  have hlo : 36 * mm_rk m ≤ R.locals := hlo
  have e1 : mm_n ((h.1, h.2.1, h.2.2.1, h.2.2.2.1, h.2.2.2.2.1, h.2.2.2.2.2 + 1) : mm_H) = mm_n h + 1 := by unfold mm_n; simp only; omega
  have e2 : mm_w ((h.1, h.2.1, h.2.2.1, h.2.2.2.1, h.2.2.2.2.1, h.2.2.2.2.2 + 1) : mm_H) = mm_w h + 6 := by unfold mm_w; simp only; omega
  rw [e1, e2] at hfa
  have h9 := mm_tr_wt base b st
  obtain ⟨sa, hsa⟩ := hEF.2.2.1 q9 o7
  rw [o7b] at hsa
  have hTh := mm_thW _ o6
  have hI := mm_thI _ o9
  have hat : ∀ w ∈ vx_atS RX5 (mm_a ax 3) (mm_exc (mm_a ax 0)) mm_nms, w.before args s0 = true := fun w hw => by
    rcases (hTh w hw).2 with h1 | ⟨h1, h2⟩
    · exact hts w h1
    · exact va_tabs h2 rfl (hEF.2.2.2.1 w h1)
  have hcl := mm_wk_in o4
  rw [o5] at hcl hown
  have hgood : ∀ w ∈ Cond.classLink RX5 (mm_a ax 1) (mm_exc (mm_a ax 0)) :: Cond.initialized (mm_exc (mm_a ax 0)) :: vx_atS RX5 (mm_a ax 3) (mm_exc (mm_a ax 0)) mm_nms, vx_ot w = true := by
    intro w hw
    rcases List.mem_cons.mp hw with rfl | hw
    · unfold vx_ot; rw [mm_TB_good hcl, Bool.or_true]
    rcases List.mem_cons.mp hw with rfl | hw
    · unfold vx_ot; rw [mm_TB_good hI.2.1, Bool.or_true]
    exact (hTh w hw).1
  have hout : ∀ (y : Nat), ∀ z ∈ c.exceptionTable.toList, covers z y = false := by
    intro y z hz
    rw [hxt, o8] at hz
    exact absurd hz (by simp [tableOf])
  have hsz9 : ls.size = c.maxLocals := by rw [hml]; exact hL.1.trans hn
  have hfin : ∀ t : State, s0.vm.Alike t.vm → H.size ≤ t.heap.size → (∀ q : Nat, q < H.size → t.heap[q]? = H[q]?) → XC (mm_exc (mm_a ax 0)) s0 t := by
    intro t ht1 ht2 ht3
    refine hQ.2.1 _ _ k t ⟨hR.1, ⟨Nat.le_trans hR.2.1.1 ht2, fun h0 => by simp at h0⟩, fun a ha => ?_⟩ ⟨Nat.le_trans hS.1 ht2, fun q q1 q2 => (ht3 q (Nat.lt_of_lt_of_le q1 hS.1)).trans (hS.2.1 q q1 q2)⟩ ht1
    have hl := hR.2.1.1
    have ha : a < h.2.2.2.2.1.1 := ha
    exact (hR.2.2 a ha).kept (ht3 _ (by show base + a < H.size; have hl : base + h.2.2.2.2.1.1 ≤ H.size := hl; omega))
  by_cases h4 : mm_a ax 4 = 0
  · rw [if_pos h4] at o1
    simp only [Bool.and_eq_true] at o1
    exact vx_throwS (A := fun q => base ≤ q) (names := mm_nms) hx hb hl9 hown hI.1 hI.2.2 (hts _ hcl) (hts _ hI.2.1) hsa hat hgood hEF.2.1.1 hEF.2.1.2 hS hsz9 (mm_dec_ok o2) (mm_dec_ok o3) (mm_dec_ok o1.1.1) (mm_dec_ok o1.1.2) (mm_dec_ok o1.2) (hout _)
      (by show 2 + 3 < R.frames; omega) (by rw [h9]; show mm_wt st + (13 * (2 + 1) + 43) ≤ R.locals; omega) (by omega) (by omega) hlk hfin hS.2.2 (by omega) (by omega)
  · rw [if_neg h4] at o1
    simp only [Bool.and_eq_true] at o1
    exact vx_throwSW (A := fun q => base ≤ q) (names := mm_nms) hx hb hl9 hown hI.1 hI.2.2 (hts _ hcl) (hts _ hI.2.1) hsa hat hgood hEF.2.1.1 hEF.2.1.2 hS hsz9 (mm_dec_ok o2) (mm_dec_ok o3) (mm_dec_ok o1.1.1) (mm_dec_ok o1.1.2) (mm_dec_ok o1.2) (hout _)
      (by show 2 + 3 < R.frames; omega) (by rw [h9]; show mm_wt st + (13 * (2 + 1) + 43) ≤ R.locals; omega) (by omega) (by omega) hlk hfin hS.2.2 (by omega) (by omega)
end MMN
