section MME
variable {l : Launch} {D : mm_D} {base b : Nat} {sc : Nat × (Nat → Int32)}
theorem mm_nm_all : ∀ c, c < 6 → ∀ a, a < mm_nf c → ∀ q, q < mm_nf c → a ≠ q → ((mm_cl c).2.1 a).2.1 ≠ ((mm_cl c).2.1 q).2.1 := by decide +kernel
theorem mm_cin {c : Nat} (hc : c < 6) : ∀ w ∈ u_ws (mm_cl c).1 (mm_cl c).2.1 (mm_cl c).2.2, w ∈ mm_TB := by
  intro w hw
  have h := mm_cok_all c hc
  simp only [mm_cok, Bool.and_eq_true, decide_eq_true_eq, List.all_eq_true, List.mem_range] at h
  obtain ⟨⟨⟨h1, -⟩, -⟩, h2⟩ := h
  obtain ⟨k, hk, rfl⟩ := List.mem_map.mp hw
  rw [List.mem_range, h1] at hk
  exact mm_wk_in (h2 k hk).1.1.1
theorem mm_cN {c : Nat} (hc : c < 6) : (mm_cl c).2.2 = mm_nf c := by
  have h := mm_cok_all c hc
  simp only [mm_cok, Bool.and_eq_true, decide_eq_true_eq] at h
  exact h.1.1.1
theorem mm_cF {c k : Nat} (hc : c < 6) (hk : k < mm_nf c) : parseFieldDescriptor ((mm_cl c).2.1 k).2.2.1 = some (mm_fty c k) ∧ ((mm_cl c).2.1 k).1 = (mm_cl c).1 ∧ (mm_isR c k = true → ((mm_cl c).2.1 k).2.2.2 = true ∧ ((∃ n, mm_fty c k = .object n) ∨ ∃ t, mm_fty c k = .array t)) ∧ (mm_isR c k = false → ((mm_cl c).2.1 k).2.2.2 = false ∧ (mm_fty c k = .int ∨ mm_fty c k = .boolean)) := by
  have h := mm_cok_all c hc
  simp only [mm_cok, Bool.and_eq_true, decide_eq_true_eq, List.all_eq_true, List.mem_range] at h
  obtain ⟨⟨⟨-, h3⟩, h4⟩, h5⟩ := h.2 k hk
  refine ⟨h3, h4, fun hr => ?_, fun hr => ?_⟩
  · rw [if_pos hr] at h5
    simp only [Bool.and_eq_true, decide_eq_true_eq] at h5
    refine ⟨h5.1, ?_⟩
    have h6 := h5.2
    split at h6
    · next n hn => exact Or.inl ⟨n, hn⟩
    · next n hn => exact Or.inr ⟨n, hn⟩
    · cases h6
  · rw [if_neg (by rw [hr]; decide)] at h5
    simp only [Bool.and_eq_true, decide_eq_true_eq] at h5
    refine ⟨h5.1, ?_⟩
    have h6 := h5.2
    split at h6
    · next hn => exact Or.inl hn
    · next hn => exact Or.inr hn
    · cases h6
def mm_fs (base : Nat) (h : mm_H) (a c : Nat) : List Value := (List.range (mm_nf c)).map fun k => if mm_isR c k = true then va_rf (((h.2.1 a).2.2 k).map fun q => base + q) else .int (h.2.2.1 a k)
theorem mm_fs_get {h : mm_H} {a c k : Nat} (hk : k < mm_nf c) : (mm_fs base h a c)[k]? = some (if mm_isR c k = true then va_rf (((h.2.1 a).2.2 k).map fun q => base + q) else .int (h.2.2.1 a k)) := by
  simp [mm_fs, hk]
theorem mm_fs_len {h : mm_H} {a c : Nat} : (mm_fs base h a c).length = mm_nf c := by simp [mm_fs]
theorem mm_e_o {dA : Nat → ClassId} {h : mm_H} {a c : Nat} (hk : (h.2.1 a).1 = c) (hc : c < 6) : mm_e base dA h a = .inr (c, mm_fs base h a c) := by
  unfold mm_e
  rw [hk, if_pos hc]
  rfl
theorem mm_P1 {D : va_G} {cl : List vw_C} {q : Nat × va_E} {H : Heap} (h : va_at D cl q H) : va_P D cl [q] H := by
  intro k x hk
  match k, hk with
  | 0, hk => cases hk; exact h
  | k + 1, hk => simp at hk
theorem mm_in_vp {i : Int32} {n : Nat} (h : mm_in i n = true) : vp_in i n := by
  simp only [mm_in, Bool.and_eq_true, decide_eq_true_eq] at h
  rintro (h1 | h1)
  · exact Int32.not_le.mpr h1 h.1
  · omega
theorem mm_Ar {dA : Nat → ClassId} {h : mm_H} {a : Nat} {k : Nat} (hk : (h.2.1 a).1 = k) (h1 : k = 10 ∨ k = 11 ∨ k = 12) : mm_e base dA h a = .inl (dA k, (h.2.1 a).2.1, .inl (h.2.2.1 a)) := by
  unfold mm_e
  rcases h1 with rfl | rfl | rfl <;> simp [hk]
theorem mm_Aq {dA : Nat → ClassId} {h : mm_H} {a : Nat} {k : Nat} (hk : (h.2.1 a).1 = k) (h1 : k = 13 ∨ k = 14) : mm_e base dA h a = .inl (dA k, (h.2.1 a).2.1, .inr (.inr (.inr (.inr fun j => ((h.2.1 a).2.2 j).map fun q => base + q)))) := by
  unfold mm_e
  rcases h1 with rfl | rfl <;> simp [hk]
theorem mm_AJ {dA : Nat → ClassId} {h : mm_H} {a : Nat} (hk : (h.2.1 a).1 = 15) : mm_e base dA h a = .inl (dA 15, (h.2.1 a).2.1, .inr (.inl fun _ => h.2.2.2.1)) := by
  unfold mm_e
  simp [hk]

theorem mm_z45 {m pc : Nat} {x : Int32} {ax : List Nat} {r : List mm_Op} {L : mm_L} {st : List Value} {h : mm_H} {Q : mm_Q} (hF : mm_F (mm_PP l D base b sc) (m, (pc, 45, x, ax) :: r, L, st, h) Q) : mm_W l D base b sc (m, (pc, 45, x, ax) :: r, L, st, h) Q := by
  intro p e R s0 M args below meth c Qc XC n0 w0 H locs cells slots ls C hQ hv hR hS hL hn hc hs
  obtain ⟨⟨hx, hb, hrt, hlk, hml, hown⟩, hxt, hts, hnm, hEF, hm, hfr, hlo⟩ := id C
  obtain ⟨hok, hnx⟩ := mm_vl_c hv
  have hok2 : (mm_dec m pc (.getfield (mm_a ax 2)) 3 && mm_fld m (mm_a ax 2) (mm_a ax 0) (mm_a ax 1) (mm_a ax 3) && !mm_isR (mm_a ax 0) (mm_a ax 1)) = true := hok
  simp only [mm_fld, Bool.and_eq_true, decide_eq_true_eq, Bool.not_eq_true'] at hok2
  obtain ⟨⟨hdg, ⟨hc7, hk7⟩, hlk2⟩, hnr⟩ := hok2
  match st, hF with
  | .ref a :: st, hF =>
    have hF2 : mm_F (mm_PP l D base b sc) (m, (pc, 45, x, ax) :: r, L, .ref a :: st, h) Q := hF
    simp only [mm_F, mm_step, mm_op] at hF2
    by_cases hc9 : (h.2.1 a).1 = mm_a ax 0 ∧ a < h.2.2.2.2.1.1
    case neg =>
      simp only [hc9, if_false] at hF2
    simp only [hc9, and_self, if_true, mm_go] at hF2
    have k : mm_PP l D base b sc (m, r, L, .int (h.2.2.1 a (mm_a ax 1)) :: st, h) Q := hF2
    have k2 := k.2 p e R s0 M args below meth c Qc XC n0 w0 H locs cells slots ls C hQ (hnx rfl).2 hR hS hL hn hc hs
    rw [show mm_hd r = pc + 3 from (hnx rfl).1] at k2
    have hcell := hR.2.2 a hc9.2
    rw [mm_e_o hc9.1 hc7] at hcell
    exact va_get (D := D.1) (cl := vwCl) (tys := mm_tys D) hx hb hts (mm_cin hc7) hown hEF.1 (mm_P1 hcell) 0 rfl (mm_cl_at _ hc7) (mm_a ax 1) (by rw [mm_cN hc7]; exact hk7) (hts _ (mm_wk_in hlk2)) (fun _ h9 => h9) (by rw [mm_fs_get hk7, hnr]; rfl) (mm_dec_ok hdg) k2

theorem mm_z46 {m pc : Nat} {x : Int32} {ax : List Nat} {r : List mm_Op} {L : mm_L} {st : List Value} {h : mm_H} {Q : mm_Q} (hF : mm_F (mm_PP l D base b sc) (m, (pc, 46, x, ax) :: r, L, st, h) Q) : mm_W l D base b sc (m, (pc, 46, x, ax) :: r, L, st, h) Q := by
  intro p e R s0 M args below meth c Qc XC n0 w0 H locs cells slots ls C hQ hv hR hS hL hn hc hs
  obtain ⟨⟨hx, hb, hrt, hlk, hml, hown⟩, hxt, hts, hnm, hEF, hm, hfr, hlo⟩ := id C
  obtain ⟨hok, hnx⟩ := mm_vl_c hv
  have hok2 : (mm_dec m pc (.getfield (mm_a ax 2)) 3 && mm_fld m (mm_a ax 2) (mm_a ax 0) (mm_a ax 1) (mm_a ax 3) && mm_isR (mm_a ax 0) (mm_a ax 1)) = true := hok
  simp only [mm_fld, Bool.and_eq_true, decide_eq_true_eq] at hok2
  obtain ⟨⟨hdg, ⟨hc7, hk7⟩, hlk2⟩, hnr⟩ := hok2
  match st, hF with
  | .ref a :: st, hF =>
    have hF2 : mm_F (mm_PP l D base b sc) (m, (pc, 46, x, ax) :: r, L, .ref a :: st, h) Q := hF
    simp only [mm_F, mm_step, mm_op] at hF2
    by_cases hc9 : (h.2.1 a).1 = mm_a ax 0 ∧ a < h.2.2.2.2.1.1
    case neg =>
      simp only [hc9, if_false] at hF2
    simp only [hc9, and_self, if_true, mm_go] at hF2
    cases hv9 : (h.2.1 a).2.2 (mm_a ax 1) with
    | none =>
      simp only [hv9] at hF2
    | some q =>
      simp only [hv9] at hF2
      have k : mm_PP l D base b sc (m, r, L, .ref q :: st, h) Q := hF2
      have k2 := k.2 p e R s0 M args below meth c Qc XC n0 w0 H locs cells slots ls C hQ (hnx rfl).2 hR hS hL hn hc hs
      rw [show mm_hd r = pc + 3 from (hnx rfl).1] at k2
      have hcell := hR.2.2 a hc9.2
      rw [mm_e_o hc9.1 hc7] at hcell
      exact va_get (D := D.1) (cl := vwCl) (tys := mm_tys D) hx hb hts (mm_cin hc7) hown hEF.1 (mm_P1 hcell) 0 rfl (mm_cl_at _ hc7) (mm_a ax 1) (by rw [mm_cN hc7]; exact hk7) (hts _ (mm_wk_in hlk2)) (fun _ h9 => h9) (by rw [mm_fs_get hk7, hnr, hv9]; rfl) (mm_dec_ok hdg) k2

theorem mm_putO {m pc pi c k a : Nat} {v : Value} {h h' : mm_H} {p : Program} {e : Env} {R : Room} {s0 : State} {M : MethodId} {args : Array Value} {below : List Frame} {meth : Method} {cd : Code} {H : Heap} {locs : List Loc} {cells slots : Nat} {Qf : State → Prop} {ls : Array Slot} {rest : List Value}
    (C : mm_Cx D base b sc m p R s0 M args meth cd) (hR : mm_Rep D base sc h H) (hS : va_S (fun q => base ≤ q) s0.heap H locs) (hka : (h.2.1 a).1 = c) (ha : a < h.2.2.2.2.1.1) (hc7 : c < 6) (hk7 : k < mm_nf c)
    (hlink : (Cond.fieldLink (mm_cls m) pi ((mm_cl c).2.1 k).1 ((mm_cl c).2.1 k).2.1 ((mm_cl c).2.1 k).2.2.1).before args s0 = true) (hn : narrow (mm_fty c k) v = v) (hfit : fits (mm_fty c k) v = true)
    (hfin : ((mm_cl c).2.1 k).2.2.2 = false ∨ (((mm_cl c).2.1 k).2.2.2 = true ∧ (mm_y m).name = "<init>" ∧ (mm_cl c).1 = mm_cls m)) (hdg : decode (mm_cc m) pc = .ok (.putfield pi, 3))
    (e1 : h'.1 = h.1) (e2 : h'.2.2.2.2 = h.2.2.2.2) (e3 : ∀ j, j ≠ a → mm_e base D.2 h' j = mm_e base D.2 h j) (e4 : (h'.2.1 a).1 = c) (e5 : ∀ j, j < mm_nf c → (mm_fs base h' a c)[j]? = some (if j = k then v else vp_V (mm_fs base h a c) j))
    (kk : ∀ (H' : Heap) (locs' : List Loc), mm_Rep D base sc h' H' → va_S (fun q => base ≤ q) s0.heap H' locs' → W p l e R s0 M args below meth cd H' locs' cells slots Qf (F0 M (pc + 3) ls rest)) : W p l e R s0 M args below meth cd H locs cells slots Qf (F0 M pc ls (v :: .ref (base + a) :: rest)) := by
  obtain ⟨⟨hx, hb, hrt, hlk, hml, hown⟩, hxt, hts, hnm, hEF, hm, hfr, hlo⟩ := id C
  have hcell := hR.2.2 a ha
  rw [mm_e_o hka hc7] at hcell
  have hcl := mm_cl_at c hc7
  have hN := mm_cN hc7
  have hkN : k < (mm_cl c).2.2 := by rw [hN]; exact hk7
  have hty : ∀ j, j < (mm_cl c).2.2 → parseFieldDescriptor ((mm_cl c).2.1 j).2.2.1 = some (mm_fty c j) := fun j hj => (mm_cF hc7 (by rw [← hN]; exact hj)).1
  have hap := va_apart (own := mm_cls m) (C := (mm_cl c).1) (T := (mm_cl c).2.1) (N := (mm_cl c).2.2) hts (mm_cin hc7) (mm_fty c) hty (fun x hx y hy => mm_nm_all c hc7 x (by rw [← hN]; exact hx) y (by rw [← hN]; exact hy)) hEF.1 hcl
  obtain ⟨r, h1, cell, q1, q2, q3, q4⟩ := hcell
  have hr : r = mm_cl c := Option.some.inj (h1.symm.trans hcl)
  subst hr
  obtain ⟨hSl, hfc, kC, hkC, hkind⟩ := hEF.1.1 c _ hcl
  obtain ⟨cf, kf, fi, f, hi, hsl⟩ := hSl k hkN
  have hst := (u_facts hfc hkC (u_lays hts (mm_cin hc7) hkN) hi).1
  have done : ∀ (H' : Heap), H'[base + a]? = some (cell.setSlot f.slot v) → H'.size = H.size → (∀ q : Nat, q ≠ base + a → H'[q]? = H[q]?) → W p l e R s0 M args below meth cd H' (locs ++ [⟨base + a, f.slot⟩]) cells slots Qf (F0 M (pc + 3) ls rest) := by
    intro H' g1 g2 g3
    rw [hsl] at g1 ⊢
    refine kk H' _ (mm_Rep.set hR g2 g3 e1 e2 (fun j hj _ => e3 j hj) ?_) (hS.put g2 g3 (Nat.le_add_right _ _))
    rw [mm_e_o e4 hc7]
    refine ⟨_, hcl, t_OB.to (V := updV (vp_V (mm_fs base h a c)) k v) ⟨_, g1, q2, q3, t_set q4 hap hkN v⟩ (fun j hj => ?_)⟩
    have h5 := e5 j (by rw [← hN]; exact hj)
    unfold vp_V updV
    rw [List.getD_eq_getElem?_getD (l := mm_fs base h' a c), h5]
    rfl
  rcases hfin with hf | ⟨hf, hin, hcls⟩
  · have hlay := hts _ (mm_cin hc7 _ (u_in_lay hkN))
    unfold u_lay at hlay
    rw [if_neg (by rw [hf]; decide)] at hlay
    have h6 := u_store hfc hkC hkind hlay hi (hty k hkN) hn hfit
    exact W.putK hx hb (f := f) ⟨hown, hlink, ⟨_, _, _, hi⟩, hst⟩ (by rw [q2]; exact h6) q1 q3 (by rw [hsl]; exact k2_hasslot (q4 k hkN)) rfl rfl hdg done
  · have hlay := hts _ (mm_cin hc7 _ (u_in_lay hkN))
    unfold u_lay at hlay
    rw [if_pos hf] at hlay
    have h6 := u_fits hfc hkC hkind (Or.inr hlay) hi (hty k hkN) hn hfit
    have hcf : M.cls = cf := by
      obtain ⟨-, hd, -, -⟩ := mm_cF hc7 hk7
      have h8 : s0.vm.findClass ((mm_cl c).2.1 k).1 = some M.cls := by rw [hd, hcls]; exact hown
      obtain ⟨_, _, c', _, _, _, -, -, hf', -, -, -, hown2, -⟩ := Cond.laysFinal_spec hlay
      have e1 : c' = cf := by have := hi.symm.trans hf'; simp at this; exact this.1.symm
      rw [← e1]; exact Option.some.inj (h8.symm.trans hown2)
    exact W.putFinK hx hb hown hlink hi hst hcf (hnm.trans hin) (by rw [q2]; exact h6) q1 q3 (by rw [hsl]; exact k2_hasslot (q4 k hkN)) rfl rfl hdg done

theorem mm_z47 {m pc : Nat} {x : Int32} {ax : List Nat} {r : List mm_Op} {L : mm_L} {st : List Value} {h : mm_H} {Q : mm_Q} (hF : mm_F (mm_PP l D base b sc) (m, (pc, 47, x, ax) :: r, L, st, h) Q) : mm_W l D base b sc (m, (pc, 47, x, ax) :: r, L, st, h) Q := by
  intro p e R s0 M args below meth c Qc XC n0 w0 H locs cells slots ls C hQ hv hR hS hL hn hc hs
  obtain ⟨⟨hx, hb, hrt, hlk, hml, hown⟩, hxt, hts, hnm, hEF, hm, hfr, hlo⟩ := id C
  obtain ⟨hok, hnx⟩ := mm_vl_c hv
  have hok2 : (mm_dec m pc (.putfield (mm_a ax 2)) 3 && mm_fld m (mm_a ax 2) (mm_a ax 0) (mm_a ax 1) (mm_a ax 3) && !mm_isR (mm_a ax 0) (mm_a ax 1) && decide (mm_fty (mm_a ax 0) (mm_a ax 1) = .int)) = true := hok
  simp only [mm_fld, Bool.and_eq_true, decide_eq_true_eq, Bool.not_eq_true'] at hok2
  obtain ⟨⟨⟨hdg, ⟨hc7, hk7⟩, hlk2⟩, hnr⟩, hty⟩ := hok2
  match st, hF with
  | .int v :: .ref a :: st, hF =>
    have hF2 : mm_F (mm_PP l D base b sc) (m, (pc, 47, x, ax) :: r, L, .int v :: .ref a :: st, h) Q := hF
    simp only [mm_F, mm_step, mm_op] at hF2
    by_cases hc9 : (h.2.1 a).1 = mm_a ax 0 ∧ a < h.2.2.2.2.1.1
    case neg =>
      simp only [hc9, if_false] at hF2
    simp only [hc9, and_self, if_true, mm_go] at hF2
    have k : mm_PP l D base b sc (m, r, L, st, (mm_setI h (mm_up2 h.2.2.1 a (mm_a ax 1) v))) Q := hF2
    refine mm_putO (h' := (mm_setI h (mm_up2 h.2.2.1 a (mm_a ax 1) v))) C hR hS hc9.1 hc9.2 hc7 hk7 (hts _ (mm_wk_in hlk2)) (by rw [hty]; rfl) (by rw [hty]; rfl) (Or.inl ((mm_cF hc7 hk7).2.2.2 hnr).1) (mm_dec_ok hdg) rfl rfl ?_ ?_ ?_ (fun H' locs' hR' hS' => ?_)
    · intro j hj
      unfold mm_e mm_up2
      simp [hj]
    · exact hc9.1
    · intro j hj
      rw [mm_fs_get hj, vp_V, List.getD_eq_getElem?_getD, mm_fs_get hj]
      by_cases hjk : j = mm_a ax 1
      · subst hjk
        simp [hnr, mm_up2, mm_tr]
      · simp [hjk, mm_up2]
    · have k2 := k.2 p e R s0 M args below meth c Qc XC n0 w0 H' locs' cells slots ls C hQ (hnx rfl).2 hR' hS' hL hn hc hs
      rw [show mm_hd r = pc + 3 from (hnx rfl).1] at k2
      exact k2

theorem mm_z48 {m pc : Nat} {x : Int32} {ax : List Nat} {r : List mm_Op} {L : mm_L} {st : List Value} {h : mm_H} {Q : mm_Q} (hF : mm_F (mm_PP l D base b sc) (m, (pc, 48, x, ax) :: r, L, st, h) Q) : mm_W l D base b sc (m, (pc, 48, x, ax) :: r, L, st, h) Q := by
  intro p e R s0 M args below meth c Qc XC n0 w0 H locs cells slots ls C hQ hv hR hS hL hn hc hs
  obtain ⟨⟨hx, hb, hrt, hlk, hml, hown⟩, hxt, hts, hnm, hEF, hm, hfr, hlo⟩ := id C
  obtain ⟨hok, hnx⟩ := mm_vl_c hv
  have hok2 : (mm_dec m pc (.putfield (mm_a ax 2)) 3 && mm_fld m (mm_a ax 2) (mm_a ax 0) (mm_a ax 1) (mm_a ax 3) && !mm_isR (mm_a ax 0) (mm_a ax 1) && decide (mm_fty (mm_a ax 0) (mm_a ax 1) = .boolean)) = true := hok
  simp only [mm_fld, Bool.and_eq_true, decide_eq_true_eq, Bool.not_eq_true'] at hok2
  obtain ⟨⟨⟨hdg, ⟨hc7, hk7⟩, hlk2⟩, hnr⟩, hty⟩ := hok2
  match st, hF with
  | .int v :: .ref a :: st, hF =>
    have hF2 : mm_F (mm_PP l D base b sc) (m, (pc, 48, x, ax) :: r, L, .int v :: .ref a :: st, h) Q := hF
    simp only [mm_F, mm_step, mm_op] at hF2
    by_cases hc9 : (h.2.1 a).1 = mm_a ax 0 ∧ a < h.2.2.2.2.1.1
    case neg =>
      simp only [hc9, if_false] at hF2
    simp only [hc9, and_self, if_true] at hF2
    by_cases hv9 : v = 0 ∨ v = 1
    case neg =>
      simp only [hv9, if_false] at hF2
    simp only [hv9, if_true, mm_go] at hF2
    have k : mm_PP l D base b sc (m, r, L, st, (mm_setI h (mm_up2 h.2.2.1 a (mm_a ax 1) v))) Q := hF2
    refine mm_putO (h' := (mm_setI h (mm_up2 h.2.2.1 a (mm_a ax 1) v))) C hR hS hc9.1 hc9.2 hc7 hk7 (hts _ (mm_wk_in hlk2)) (by rw [hty]; rcases hv9 with rfl | rfl <;> rfl) (by rw [hty]; rcases hv9 with rfl | rfl <;> rfl) (Or.inl ((mm_cF hc7 hk7).2.2.2 hnr).1) (mm_dec_ok hdg) rfl rfl ?_ ?_ ?_ (fun H' locs' hR' hS' => ?_)
    · intro j hj
      unfold mm_e mm_up2
      simp [hj]
    · exact hc9.1
    · intro j hj
      rw [mm_fs_get hj, vp_V, List.getD_eq_getElem?_getD, mm_fs_get hj]
      by_cases hjk : j = mm_a ax 1
      · subst hjk
        simp [hnr, mm_up2, mm_tr]
      · simp [hjk, mm_up2]
    · have k2 := k.2 p e R s0 M args below meth c Qc XC n0 w0 H' locs' cells slots ls C hQ (hnx rfl).2 hR' hS' hL hn hc hs
      rw [show mm_hd r = pc + 3 from (hnx rfl).1] at k2
      exact k2

theorem mm_z49 {m pc : Nat} {x : Int32} {ax : List Nat} {r : List mm_Op} {L : mm_L} {st : List Value} {h : mm_H} {Q : mm_Q} (hF : mm_F (mm_PP l D base b sc) (m, (pc, 49, x, ax) :: r, L, st, h) Q) : mm_W l D base b sc (m, (pc, 49, x, ax) :: r, L, st, h) Q := by
  intro p e R s0 M args below meth c Qc XC n0 w0 H locs cells slots ls C hQ hv hR hS hL hn hc hs
  obtain ⟨⟨hx, hb, hrt, hlk, hml, hown⟩, hxt, hts, hnm, hEF, hm, hfr, hlo⟩ := id C
  obtain ⟨hok, hnx⟩ := mm_vl_c hv
  have hok2 : (mm_dec m pc (.putfield (mm_a ax 2)) 3 && mm_fld m (mm_a ax 2) (mm_a ax 0) (mm_a ax 1) (mm_a ax 3) && mm_isR (mm_a ax 0) (mm_a ax 1) && decide ((mm_y m).name = "<init>") && decide ((mm_cl (mm_a ax 0)).1 = mm_cls m)) = true := hok
  simp only [mm_fld, Bool.and_eq_true, decide_eq_true_eq] at hok2
  obtain ⟨⟨⟨⟨hdg, ⟨hc7, hk7⟩, hlk2⟩, hnr⟩, hini⟩, hty⟩ := hok2
  match st, hF with
  | .ref q :: .ref a :: st, hF =>
    have hF2 : mm_F (mm_PP l D base b sc) (m, (pc, 49, x, ax) :: r, L, .ref q :: .ref a :: st, h) Q := hF
    simp only [mm_F, mm_step, mm_op] at hF2
    by_cases hc9 : (h.2.1 a).1 = mm_a ax 0 ∧ a < h.2.2.2.2.1.1
    case neg =>
      simp only [hc9, if_false] at hF2
    simp only [hc9, and_self, if_true, mm_go] at hF2
    have hka : (h.2.1 a).1 = mm_a ax 0 := hc9.1
    have k : mm_PP l D base b sc (m, r, L, st, (h.1, mm_up h.2.1 a ((h.2.1 a).1, (h.2.1 a).2.1, mm_up (h.2.1 a).2.2 (mm_a ax 1) (some q)), h.2.2)) Q := by rw [hka] at *; exact hF2
    refine mm_putO (h' := (h.1, mm_up h.2.1 a ((h.2.1 a).1, (h.2.1 a).2.1, mm_up (h.2.1 a).2.2 (mm_a ax 1) (some q)), h.2.2)) C hR hS hc9.1 hc9.2 hc7 hk7 (hts _ (mm_wk_in hlk2)) (by rcases ((mm_cF hc7 hk7).2.2.1 hnr).2 with ⟨n, hh⟩ | ⟨n, hh⟩ <;> rw [hh] <;> rfl) (by rcases ((mm_cF hc7 hk7).2.2.1 hnr).2 with ⟨n, hh⟩ | ⟨n, hh⟩ <;> rw [hh] <;> rfl) (Or.inr ⟨((mm_cF hc7 hk7).2.2.1 hnr).1, hini, hty⟩) (mm_dec_ok hdg) rfl rfl ?_ ?_ ?_ (fun H' locs' hR' hS' => ?_)
    · intro j hj
      unfold mm_e
      simp [mm_up, hj]
    · simp [mm_up, hc9.1]
    · intro j hj
      rw [mm_fs_get hj, vp_V, List.getD_eq_getElem?_getD, mm_fs_get hj]
      by_cases hjk : j = mm_a ax 1
      · subst hjk
        simp [hnr, mm_up, va_rf, mm_tr]
      · simp [hjk, mm_up]
    · have k2 := k.2 p e R s0 M args below meth c Qc XC n0 w0 H' locs' cells slots ls C hQ (hnx rfl).2 hR' hS' hL hn hc hs
      rw [show mm_hd r = pc + 3 from (hnx rfl).1] at k2
      exact k2

theorem mm_z50 {m pc : Nat} {x : Int32} {ax : List Nat} {r : List mm_Op} {L : mm_L} {st : List Value} {h : mm_H} {Q : mm_Q} (hF : mm_F (mm_PP l D base b sc) (m, (pc, 50, x, ax) :: r, L, st, h) Q) : mm_W l D base b sc (m, (pc, 50, x, ax) :: r, L, st, h) Q := by
  intro p e R s0 M args below meth c Qc XC n0 w0 H locs cells slots ls C hQ hv hR hS hL hn hc hs
  obtain ⟨⟨hx, hb, hrt, hlk, hml, hown⟩, hxt, hts, hnm, hEF, hm, hfr, hlo⟩ := id C
  obtain ⟨hok, hnx⟩ := mm_vl_c hv
  match st, hF with
  | .int i :: .ref a :: st, hF =>
    have hF2 : mm_F (mm_PP l D base b sc) (m, (pc, 50, x, ax) :: r, L, .int i :: .ref a :: st, h) Q := hF
    simp only [mm_F, mm_step, mm_op] at hF2
    by_cases hc9 : (h.2.1 a).1 = 10 ∧ a < h.2.2.2.2.1.1
    case neg =>
      simp only [hc9, if_false] at hF2
    simp only [hc9, and_self, if_true] at hF2
    by_cases hv9 : mm_in i (h.2.1 a).2.1 = true
    case neg =>
      rw [if_neg hv9] at hF2
      exact hF2.elim
    simp only [hv9, if_true, mm_go] at hF2
    have k : mm_PP l D base b sc (m, r, L, .int (h.2.2.1 a i.toNatClampNeg) :: st, h) Q := hF2
    have k2 := k.2 p e R s0 M args below meth c Qc XC n0 w0 H locs cells slots ls C hQ (hnx rfl).2 hR hS hL hn hc hs
    rw [show mm_hd r = pc + 1 from (hnx rfl).1] at k2
    have hcell := hR.2.2 a hc9.2
    rw [mm_Ar hc9.1 (by decide)] at hcell
    exact va_iald (D := D.1) (cl := vwCl) (tys := mm_tys D) hx hb hEF.1 (mm_P1 hcell) 0 0 rfl rfl (mm_in_vp hv9) (mm_dec_ok hok) k2

theorem mm_z52 {m pc : Nat} {x : Int32} {ax : List Nat} {r : List mm_Op} {L : mm_L} {st : List Value} {h : mm_H} {Q : mm_Q} (hF : mm_F (mm_PP l D base b sc) (m, (pc, 52, x, ax) :: r, L, st, h) Q) : mm_W l D base b sc (m, (pc, 52, x, ax) :: r, L, st, h) Q := by
  intro p e R s0 M args below meth c Qc XC n0 w0 H locs cells slots ls C hQ hv hR hS hL hn hc hs
  obtain ⟨⟨hx, hb, hrt, hlk, hml, hown⟩, hxt, hts, hnm, hEF, hm, hfr, hlo⟩ := id C
  obtain ⟨hok, hnx⟩ := mm_vl_c hv
  match st, hF with
  | .int i :: .ref a :: st, hF =>
    have hF2 : mm_F (mm_PP l D base b sc) (m, (pc, 52, x, ax) :: r, L, .int i :: .ref a :: st, h) Q := hF
    simp only [mm_F, mm_step, mm_op] at hF2
    by_cases hc9 : (h.2.1 a).1 = 11 ∧ a < h.2.2.2.2.1.1
    case neg =>
      simp only [hc9, if_false] at hF2
    simp only [hc9, and_self, if_true] at hF2
    by_cases hv9 : mm_in i (h.2.1 a).2.1 = true
    case neg =>
      rw [if_neg hv9] at hF2
      exact hF2.elim
    simp only [hv9, if_true, mm_go] at hF2
    have k : mm_PP l D base b sc (m, r, L, .int (h.2.2.1 a i.toNatClampNeg) :: st, h) Q := hF2
    have k2 := k.2 p e R s0 M args below meth c Qc XC n0 w0 H locs cells slots ls C hQ (hnx rfl).2 hR hS hL hn hc hs
    rw [show mm_hd r = pc + 1 from (hnx rfl).1] at k2
    have hcell := hR.2.2 a hc9.2
    rw [mm_Ar hc9.1 (by decide)] at hcell
    exact va_zald (D := D.1) (cl := vwCl) (tys := mm_tys D) hx hb hEF.1 (mm_P1 hcell) 0 1 rfl rfl (mm_in_vp hv9) (mm_dec_ok hok) k2

theorem mm_z54 {m pc : Nat} {x : Int32} {ax : List Nat} {r : List mm_Op} {L : mm_L} {st : List Value} {h : mm_H} {Q : mm_Q} (hF : mm_F (mm_PP l D base b sc) (m, (pc, 54, x, ax) :: r, L, st, h) Q) : mm_W l D base b sc (m, (pc, 54, x, ax) :: r, L, st, h) Q := by
  intro p e R s0 M args below meth c Qc XC n0 w0 H locs cells slots ls C hQ hv hR hS hL hn hc hs
  obtain ⟨⟨hx, hb, hrt, hlk, hml, hown⟩, hxt, hts, hnm, hEF, hm, hfr, hlo⟩ := id C
  obtain ⟨hok, hnx⟩ := mm_vl_c hv
  match st, hF with
  | .int i :: .ref a :: st, hF =>
    have hF2 : mm_F (mm_PP l D base b sc) (m, (pc, 54, x, ax) :: r, L, .int i :: .ref a :: st, h) Q := hF
    simp only [mm_F, mm_step, mm_op] at hF2
    by_cases hc9 : (h.2.1 a).1 = 12 ∧ a < h.2.2.2.2.1.1
    case neg =>
      simp only [hc9, if_false] at hF2
    simp only [hc9, and_self, if_true] at hF2
    by_cases hv9 : mm_in i (h.2.1 a).2.1 = true
    case neg =>
      rw [if_neg hv9] at hF2
      exact hF2.elim
    simp only [hv9, if_true, mm_go] at hF2
    have k : mm_PP l D base b sc (m, r, L, .int (h.2.2.1 a i.toNatClampNeg) :: st, h) Q := hF2
    have k2 := k.2 p e R s0 M args below meth c Qc XC n0 w0 H locs cells slots ls C hQ (hnx rfl).2 hR hS hL hn hc hs
    rw [show mm_hd r = pc + 1 from (hnx rfl).1] at k2
    have hcell := hR.2.2 a hc9.2
    rw [mm_Ar hc9.1 (by decide)] at hcell
    exact va_cald (D := D.1) (cl := vwCl) (tys := mm_tys D) hx hb hEF.1 (mm_P1 hcell) 0 2 rfl rfl (mm_in_vp hv9) (mm_dec_ok hok) k2

theorem mm_z51 {m pc : Nat} {x : Int32} {ax : List Nat} {r : List mm_Op} {L : mm_L} {st : List Value} {h : mm_H} {Q : mm_Q} (hF : mm_F (mm_PP l D base b sc) (m, (pc, 51, x, ax) :: r, L, st, h) Q) : mm_W l D base b sc (m, (pc, 51, x, ax) :: r, L, st, h) Q := by
  intro p e R s0 M args below meth c Qc XC n0 w0 H locs cells slots ls C hQ hv hR hS hL hn hc hs
  obtain ⟨⟨hx, hb, hrt, hlk, hml, hown⟩, hxt, hts, hnm, hEF, hm, hfr, hlo⟩ := id C
  obtain ⟨hok, hnx⟩ := mm_vl_c hv
  match st, hF with
  | .int v :: .int i :: .ref a :: st, hF =>
    have hF2 : mm_F (mm_PP l D base b sc) (m, (pc, 51, x, ax) :: r, L, .int v :: .int i :: .ref a :: st, h) Q := hF
    simp only [mm_F, mm_step, mm_op] at hF2
    by_cases hc9 : (h.2.1 a).1 = 10 ∧ a < h.2.2.2.2.1.1
    case neg =>
      simp only [hc9, if_false] at hF2
    simp only [hc9, and_self, if_true] at hF2
    by_cases hv9 : mm_in i (h.2.1 a).2.1 = true
    case neg =>
      rw [if_neg hv9] at hF2
      exact hF2.elim
    simp only [hv9, if_true, and_self, mm_go] at hF2
    have k : mm_PP l D base b sc (m, r, L, st, mm_setI h (mm_up2 h.2.2.1 a i.toNatClampNeg v)) Q := hF2
    have hcell := hR.2.2 a hc9.2
    rw [mm_Ar hc9.1 (by decide)] at hcell
    refine W.iast hx hb hcell ((hEF.1.2 0 _ rfl).1 _ (fun j => .int (h.2.2.1 a j))) (fun q => by cases q) (by show ¬ (i < 0 ∨ (arrV _ _ _).slots.size ≤ _); rw [arrV_size]; exact mm_in_vp hv9) rfl rfl (mm_dec_ok hok) fun H1 e1 z oq => ?_
    have k2 := k.2 p e R s0 M args below meth c Qc XC n0 w0 H1 (locs ++ [⟨base + a, i.toNatClampNeg⟩]) cells slots ls C hQ (hnx rfl).2 (mm_Rep.set (a := a) hR z oq rfl rfl (fun j hj _ => by unfold mm_e mm_up2; simp [hj]) ?_) (hS.put z oq (Nat.le_add_right _ _)) hL hn hc hs
    · rw [show mm_hd r = pc + 1 from (hnx rfl).1] at k2
      exact k2
    · rw [mm_Ar (h := mm_setI h (mm_up2 h.2.2.1 a i.toNatClampNeg v)) (a := a) hc9.1 (by decide)]
      have eq9 : arrV (D.2 10) (h.2.1 a).2.1 (updV (fun j => .int (h.2.2.1 a j)) i.toNatClampNeg (.int v)) = arrV (D.2 10) (h.2.1 a).2.1 (fun j => .int (mm_up2 h.2.2.1 a i.toNatClampNeg v a j)) := by
        refine congrArg (arrV _ _) (funext fun q => ?_)
        by_cases hq : q = i.toNatClampNeg
        · subst hq
          simp [updV, mm_up2]
        · simp [updV, mm_up2, hq]
      exact e1.trans (congrArg some ((arrV_store _ _ _ _ _).trans eq9))

theorem mm_z53 {m pc : Nat} {x : Int32} {ax : List Nat} {r : List mm_Op} {L : mm_L} {st : List Value} {h : mm_H} {Q : mm_Q} (hF : mm_F (mm_PP l D base b sc) (m, (pc, 53, x, ax) :: r, L, st, h) Q) : mm_W l D base b sc (m, (pc, 53, x, ax) :: r, L, st, h) Q := by
  intro p e R s0 M args below meth c Qc XC n0 w0 H locs cells slots ls C hQ hv hR hS hL hn hc hs
  obtain ⟨⟨hx, hb, hrt, hlk, hml, hown⟩, hxt, hts, hnm, hEF, hm, hfr, hlo⟩ := id C
  obtain ⟨hok, hnx⟩ := mm_vl_c hv
  match st, hF with
  | .int v :: .int i :: .ref a :: st, hF =>
    have hF2 : mm_F (mm_PP l D base b sc) (m, (pc, 53, x, ax) :: r, L, .int v :: .int i :: .ref a :: st, h) Q := hF
    simp only [mm_F, mm_step, mm_op] at hF2
    by_cases hc9 : (h.2.1 a).1 = 11 ∧ a < h.2.2.2.2.1.1
    case neg =>
      simp only [hc9, if_false] at hF2
    simp only [hc9, and_self, if_true] at hF2
    by_cases hv9 : mm_in i (h.2.1 a).2.1 = true ∧ (v = 0 ∨ v = 1)
    case neg =>
      rw [if_neg hv9] at hF2
      exact hF2.elim
    simp only [hv9, if_true, and_self, mm_go] at hF2
    have k : mm_PP l D base b sc (m, r, L, st, mm_setI h (mm_up2 h.2.2.1 a i.toNatClampNeg v)) Q := hF2
    have hcell := hR.2.2 a hc9.2
    rw [mm_Ar hc9.1 (by decide)] at hcell
    refine W.zast hx hb hcell ((hEF.1.2 1 _ rfl).1 _ (fun j => .int (h.2.2.1 a j))) (fun q => by cases q) (by show ¬ (i < 0 ∨ (arrV _ _ _).slots.size ≤ _); rw [arrV_size]; exact mm_in_vp hv9.1) rfl rfl (mm_dec_ok hok) fun H1 e1 z oq => ?_
    have k2 := k.2 p e R s0 M args below meth c Qc XC n0 w0 H1 (locs ++ [⟨base + a, i.toNatClampNeg⟩]) cells slots ls C hQ (hnx rfl).2 (mm_Rep.set (a := a) hR z oq rfl rfl (fun j hj _ => by unfold mm_e mm_up2; simp [hj]) ?_) (hS.put z oq (Nat.le_add_right _ _)) hL hn hc hs
    · rw [show mm_hd r = pc + 1 from (hnx rfl).1] at k2
      exact k2
    · rw [mm_Ar (h := mm_setI h (mm_up2 h.2.2.1 a i.toNatClampNeg v)) (a := a) hc9.1 (by decide)]
      have eq9 : arrV (D.2 11) (h.2.1 a).2.1 (updV (fun j => .int (h.2.2.1 a j)) i.toNatClampNeg (narrow .boolean (.int v))) = arrV (D.2 11) (h.2.1 a).2.1 (fun j => .int (mm_up2 h.2.2.1 a i.toNatClampNeg v a j)) := by
        refine congrArg (arrV _ _) (funext fun q => ?_)
        by_cases hq : q = i.toNatClampNeg
        · subst hq
          simp [updV, mm_up2]
          rcases hv9.2 with rfl | rfl <;> rfl
        · simp [updV, mm_up2, hq]
      exact e1.trans (congrArg some ((arrV_store _ _ _ _ _).trans eq9))

theorem mm_z55 {m pc : Nat} {x : Int32} {ax : List Nat} {r : List mm_Op} {L : mm_L} {st : List Value} {h : mm_H} {Q : mm_Q} (hF : mm_F (mm_PP l D base b sc) (m, (pc, 55, x, ax) :: r, L, st, h) Q) : mm_W l D base b sc (m, (pc, 55, x, ax) :: r, L, st, h) Q := by
  intro p e R s0 M args below meth c Qc XC n0 w0 H locs cells slots ls C hQ hv hR hS hL hn hc hs
  obtain ⟨⟨hx, hb, hrt, hlk, hml, hown⟩, hxt, hts, hnm, hEF, hm, hfr, hlo⟩ := id C
  obtain ⟨hok, hnx⟩ := mm_vl_c hv
  match st, hF with
  | .int v :: .int i :: .ref a :: st, hF =>
    have hF2 : mm_F (mm_PP l D base b sc) (m, (pc, 55, x, ax) :: r, L, .int v :: .int i :: .ref a :: st, h) Q := hF
    simp only [mm_F, mm_step, mm_op] at hF2
    by_cases hc9 : (h.2.1 a).1 = 12 ∧ a < h.2.2.2.2.1.1
    case neg =>
      simp only [hc9, if_false] at hF2
    simp only [hc9, and_self, if_true] at hF2
    by_cases hv9 : mm_in i (h.2.1 a).2.1 = true ∧ (v.toUInt32 % 65536).toInt32 = v
    case neg =>
      rw [if_neg hv9] at hF2
      exact hF2.elim
    simp only [hv9, if_true, and_self, mm_go] at hF2
    have k : mm_PP l D base b sc (m, r, L, st, mm_setI h (mm_up2 h.2.2.1 a i.toNatClampNeg v)) Q := hF2
    have hcell := hR.2.2 a hc9.2
    rw [mm_Ar hc9.1 (by decide)] at hcell
    refine W.cast hx hb hcell ((hEF.1.2 2 _ rfl).1 _ (fun j => .int (h.2.2.1 a j))) (fun q => by cases q) (by show ¬ (i < 0 ∨ (arrV _ _ _).slots.size ≤ _); rw [arrV_size]; exact mm_in_vp hv9.1) rfl rfl (mm_dec_ok hok) fun H1 e1 z oq => ?_
    have k2 := k.2 p e R s0 M args below meth c Qc XC n0 w0 H1 (locs ++ [⟨base + a, i.toNatClampNeg⟩]) cells slots ls C hQ (hnx rfl).2 (mm_Rep.set (a := a) hR z oq rfl rfl (fun j hj _ => by unfold mm_e mm_up2; simp [hj]) ?_) (hS.put z oq (Nat.le_add_right _ _)) hL hn hc hs
    · rw [show mm_hd r = pc + 1 from (hnx rfl).1] at k2
      exact k2
    · rw [mm_Ar (h := mm_setI h (mm_up2 h.2.2.1 a i.toNatClampNeg v)) (a := a) hc9.1 (by decide)]
      have eq9 : arrV (D.2 12) (h.2.1 a).2.1 (updV (fun j => .int (h.2.2.1 a j)) i.toNatClampNeg (narrow .char (.int v))) = arrV (D.2 12) (h.2.1 a).2.1 (fun j => .int (mm_up2 h.2.2.1 a i.toNatClampNeg v a j)) := by
        refine congrArg (arrV _ _) (funext fun q => ?_)
        by_cases hq : q = i.toNatClampNeg
        · subst hq
          simp [updV, mm_up2]
          exact congrArg Value.int hv9.2
        · simp [updV, mm_up2, hq]
      exact e1.trans (congrArg some ((arrV_store _ _ _ _ _).trans eq9))

end MME
