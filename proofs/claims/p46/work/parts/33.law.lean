/-! the law's start: what its premises say of the world -/
def mm_h00 (L : Nat) (xs : Nat → Int32) : mm_H := ((L, xs), fun _ => (100, 0, fun _ => none), fun _ _ => 0, 0, (0, 0), 0)
def mm_Ql : mm_Q := fun r g => r = .inl (some (.int 1)) ∧ mm_n g ≤ 600130 ∧ mm_w g ≤ 7301080
theorem mm_str {A : Array Value} {s : State} {own tx : String} {k : Nat} (h : (Cond.stringRef own k tx).before A s = true) : ∃ sa, vk_R own k tx sa s := by
  have h0 := h
  simp only [Cond.before, Cond.holds, Cond.value] at h
  cases hc : s.vm.findClass own with
  | none => simp [hc] at h
  | some c =>
    cases hr : s.resolvedAt? own k with
    | none => simp [hc, hr] at h
    | some x =>
      cases x with
      | string a =>
        refine ⟨a, vk_R.of h0 ?_⟩
        simp only [State.resolvedAt?, hc] at hr
        simp only [Term.eval, hc]
        cases hk : s.vm.classes[c]? with
        | none => simp [hk] at hr
        | some kk => simp [hk] at hr ⊢; simp [hr]
      | _ => simp [hc, hr] at h
def mm_lst : List Cond := lw_tbl ++ flatC (Jvm.Cond.and given_1 narrow_1)
theorem mm_l1 : ∀ q ∈ mm_msg, Cond.stringRef RX5 q.1 q.2 ∈ lw_tbl := by decide +kernel
theorem mm_l2 : ∀ w ∈ mm_nw, w ∈ lw_tbl ∧ w.onTables = true := by decide +kernel
theorem mm_l3 : Cond.arrayOver (.object RX4) ∈ mm_lst ∧ Cond.arrayOver (.object RX3) ∈ mm_lst := by decide +kernel
theorem mm_l4 : ∀ E, E < 3 → ∀ F, F < 3 → E ≠ F → Cond.not (.castable (mm_exc E) (mm_exc F)) ∈ mm_lst := by decide +kernel
theorem mm_l5 : Cond.laysStatic Bundle.tN "UNASSIGNED_STACK" Bundle.steD ∈ mm_lst ∧ Cond.laysStatic Bundle.tN "SUPPRESSED_SENTINEL" Bundle.listD ∈ mm_lst ∧ Cond.initialized Bundle.tN ∈ mm_lst ∧ Cond.isRef (.static Bundle.tN "UNASSIGNED_STACK" Bundle.steD) ∈ mm_lst ∧ Cond.isRef (.static Bundle.tN "SUPPRESSED_SENTINEL" Bundle.listD) ∈ mm_lst := by decide +kernel
theorem mm_EF0 {s : State} {b L : Nat} {xs : Nat → Int32} (hts : ∀ w ∈ lw_tbl, w.before #[Value.ref b] s = true) (hX : va_X b L xs s s.heap) (hbl : b < s.heap.size) (hL : L ≤ 260) (hgv : (Jvm.Cond.and given_1 narrow_1).before #[Value.ref b] s = true) : ∃ D : mm_D, mm_EF D s.heap.size b (L, xs) s := by
  have hall : ∀ w ∈ mm_lst, w.before #[Value.ref b] s = true := fun w hw => by
    rcases List.mem_append.mp hw with h | h
    · exact hts w h
    · exact flat_of_before _ hgv w h
  have htb : ∀ w ∈ mm_TB, w.before #[Value.ref b] s = true := fun w hw => hts w (mm_TB_tbl hw)
  have hK : ∀ c, ∃ q : ClassId × (Nat → Nat), c < 6 → u_Kn s (mm_cl c).1 (mm_cl c).2.1 (mm_cl c).2.2 q.1 q.2 := by
    intro c
    by_cases hc : c < 6
    · obtain ⟨cC, iS, h⟩ := u_known htb (mm_cin hc) (htb _ (mm_cI hc).1)
      exact ⟨(cC, iS), fun _ => h⟩
    · exact ⟨(0, fun _ => 0), fun h => absurd h hc⟩
  obtain ⟨cI, kI, pI, a1, a2, a3⟩ := Cond.arrayClass_spec (show (Cond.arrayClass .int).holds #[Value.ref b] s none s [] = true from htb _ mm_arrW.1)
  obtain ⟨cB, kB, pB, b1, b2, b3⟩ := Cond.arrayClass_spec (show (Cond.arrayClass .boolean).holds #[Value.ref b] s none s [] = true from htb _ mm_arrW.2.1)
  obtain ⟨cC, kC, pC, c1, c2, c3⟩ := Cond.arrayClass_spec (show (Cond.arrayClass .char).holds #[Value.ref b] s none s [] = true from htb _ mm_arrW.2.2)
  obtain ⟨p4, c4, k4, d1, d2, d3, d4, d5⟩ := Cond.arrayOver_spec (show (Cond.arrayOver (.object RX4)).holds #[Value.ref b] s none s [] = true from hall _ mm_l3.1)
  obtain ⟨p3, c3', k3, e1, e2, e3, e4, e5⟩ := Cond.arrayOver_spec (show (Cond.arrayOver (.object RX3)).holds #[Value.ref b] s none s [] = true from hall _ mm_l3.2)
  have hA : ∀ a : Nat, a < s.heap.size → ¬ s.heap.size ≤ a := fun a h => by omega
  refine ⟨((fun c => (Classical.choose (hK c)).1, fun c => (Classical.choose (hK c)).2), fun k => match k with
    | 10 => cI
    | 11 => cB
    | 12 => cC
    | 13 => c4
    | 14 => c3'
    | _ => cI), ⟨fun c q hq => ?_, fun k q hk => ?_⟩, ⟨vx_Zqof (hall _ mm_l5.1) (hall _ mm_l5.2.2.1) (hall _ mm_l5.2.2.2.1) hA, vx_Zqof (hall _ mm_l5.2.1) (hall _ mm_l5.2.2.1) (hall _ mm_l5.2.2.2.2) hA⟩, fun q hq => mm_str (hts _ (mm_l1 q hq)), fun w hw => va_Nw.of (mm_l2 w hw).2 (hts _ (mm_l2 w hw).1), ⟨va_AO.of (hall _ mm_l3.1), va_AO.of (hall _ mm_l3.2)⟩, fun E hE F hF hne => va_Nc.of (hall _ (mm_l4 E hE F hF hne)), hX, hbl, Nat.le_refl _, by show L < 2 ^ 31; omega⟩
  · by_cases hc : c < 6
    · cases (mm_cl_at c hc).symm.trans hq
      exact Classical.choose_spec (hK c) hc
    · have h9 : vwCl.length = 6 := by decide +kernel
      rw [List.getElem?_eq_none (by omega)] at hq
      cases hq
  · match k, hk with
    | 0, hk => cases hk; exact ⟨fun n z => ⟨fun k h => (by cases h), kI, a2, pI, a3⟩, a1⟩
    | 1, hk => cases hk; exact ⟨fun n z => ⟨fun k h => (by cases h), kB, b2, pB, b3⟩, b1⟩
    | 2, hk => cases hk; exact ⟨fun n z => ⟨fun k h => (by cases h), kC, c2, pC, c3⟩, c1⟩
    | 3, hk => cases hk; exact ⟨fun n z => ⟨fun k h => (by cases h), k4, d3, p4, d4⟩, k4, p4, d3, d4, d1, d5⟩
    | 4, hk => cases hk; exact ⟨fun n z => ⟨fun k h => (by cases h), k3, e3, p3, e4⟩, k3, p3, e3, e4, e1, e5⟩
    | k + 5, hk => simp [mm_tys] at hk
/-! THE CLAIM OUT OF ONE WALK OF THE LAW'S BODY (the skeleton's rows; lw_At has two facts more) -/
def R_law : String := "StolenVoicesLaw"
def lw_P (b : Addr) (xs : List Int32) (args : Array Value) (s : State) : Prop := args = #[.ref b] ∧ s.IntsAt b xs ∧ xs.length ≤ 260 ∧ (Jvm.Cond.and given_1 narrow_1).before args s = true
def lw_Q (_ : Array Value) (s : State) (o : Outcome) (t : State) : Prop := o = .returned (some (.int 1)) ∧ Framed s o t [] 600130 7301080
def lw_Z (below : List Frame) (a : Array Value) (s : State) : State → Prop := fun t => ∃ o, t.status = .running ∧ Ended t below o ∧ lw_Q a s o t
def lw_At (p : Program) (s : State) (m : MethodId) (meth : Method) (c : Code) (b L : Nat) (xs : Nat → Int32) : Prop :=
  p.tables.exec = Jvm.exec ∧ c.code = code ∧ meth.sig.returnType = ret ∧ c.maxLocals = 7 ∧ s.vm.findClass R_law = some m.cls ∧ (∀ w ∈ lw_tbl, w.before #[Value.ref b] s = true) ∧ va_X b L xs s s.heap ∧ b < s.heap.size ∧ meth.locks = false ∧ (Jvm.Cond.and given_1 narrow_1).before #[Value.ref b] s = true ∧ c.exceptionTable.toList = [] ∧ meth.name = "law"
theorem mm_key {l : Launch} {D : mm_D} {base b : Nat} {sc : Nat × (Nat → Int32)} {m : Nat} (hm : m < 141) {vs : List Value} {h : mm_H} {Q : mm_Q} (hw : mm_W l D base b sc (mm_entry m vs h) Q) (hl : mm_wt vs ≤ mm_mxL m) {p : Program} {e : Env} {R : Room} {s0 : State} {M : MethodId} {args : Array Value} {below : List Frame} {meth : Method} {c : Code}
    {Qc : Array Value → State → Outcome → State → Prop} {XC : String → State → State → Prop} (C : mm_Cx D base b sc m p R s0 M args meth c) (hQ : mm_Fin D base b sc s0 args R Q Qc XC (mm_n h) (mm_w h)) (hR : mm_Rep D base sc h s0.heap) :
    W p l e R s0 M args below meth c s0.heap [] 0 0 (vx_MQ below Qc XC args s0 R.cells R.slots (fun q => base ≤ q)) (F0 M 0 ((lg_sl (vs.map (mm_tr base b)) ++ List.replicate (mm_mxL m - (lg_sl (vs.map (mm_tr base b))).length) Slot.unset).toArray) []) := by
  have k := hw p e R s0 M args below meth c Qc XC (mm_n h) (mm_w h) s0.heap [] 0 0 _ C hQ (mm_vb (by show m < 141; omega) (mm_h0 m (by omega)).2) hR ⟨Nat.le_refl _, fun _ _ _ => rfl, fun _ h9 => nomatch h9⟩ (mm_Lr_entry hl) (mm_pad_len hl) (Nat.zero_add _) (Nat.zero_add _)
  have e0 : mm_hd (mm_entry m vs h).2.1 = 0 := (mm_h0 m (by omega)).1
  rw [e0] at k
  exact k
theorem mm_law_facts : mm_cc 140 = code ∧ mm_rt 140 = ret ∧ mm_mxL 140 = 7 ∧ mm_cls 140 = R_law ∧ mm_hh 140 = [] ∧ (mm_y 140).name = "law" ∧ mm_rk 140 = 11 := ⟨rfl, rfl, rfl, rfl, rfl, rfl, rfl⟩
theorem whole_start' {p : Program} {e : Env} {s : State} {m : MethodId} {below : List Frame} {meth : Method} {c : Code} (l : Launch) (hflags : l.flags = flags0) {b L : Nat} {xs : Nat → Int32} (hL : L ≤ 260) (hrun : mm_C (mm_entry 140 [.float 0] (mm_h00 L xs)) mm_Ql) (C0 : lw_At p s m meth c b L xs) : W p l e room_1 s m #[Value.ref b] below meth c s.heap [] 0 0 (lw_Z below #[Value.ref b] s) (entryFrame m ([Value.ref b] : List Value).toArray 7) := by
  obtain ⟨hx, hb, hr, hml, hown, hts, hX, hbl, hlocks, hgv, hxt, hnm⟩ := C0
  have hl9 : l.stackTraces = false := by
    unfold Launch.stackTraces
    rw [hflags]
    decide +kernel
  obtain ⟨D, hEF⟩ := mm_EF0 hts hX hbl hL hgv
  obtain ⟨f1, f2, f3, f4, f5, f6, f7⟩ := mm_law_facts
  have hW := (mm_sound (D := D) (base := s.heap.size) (b := b) (sc := (L, xs)) hl9 hrun).2
  have C1 : mm_Cx D s.heap.size b (L, xs) 140 p room_1 s m #[Value.ref b] meth c := ⟨⟨hx, hb.trans f1.symm, hr.trans f2.symm, hlocks, hml.trans f3.symm, (by rw [f4]; exact hown)⟩, (by rw [f5]; exact hxt), fun w hw => hts w (mm_TB_tbl hw), hnm.trans f6.symm, hEF, (by omega), (by show mm_rk 140 ≤ 13; rw [f7]; omega), (by show 36 * mm_rk 140 ≤ 492; rw [f7]; omega)⟩
  have hn0 : mm_n (mm_h00 L xs) = 0 := rfl
  have hw0 : mm_w (mm_h00 L xs) = 0 := rfl
  have F1 : mm_Fin D s.heap.size b (L, xs) s #[Value.ref b] room_1 mm_Ql (fun _ _ o _ => o = .returned (some (.int 1))) (fun _ _ _ => False) (mm_n (mm_h00 L xs)) (mm_w (mm_h00 L xs)) := by
    refine ⟨fun v g q t h1 h2 _ => ?_, fun E g q => ?_, fun r g q => ?_⟩
    · rw [Sum.inl.inj q.1]; rfl
    · cases q.1
    · rw [hn0, hw0]
      refine ⟨?_, ?_⟩
      · show mm_n g ≤ 0 + 600130
        have := q.2.1; omega
      · show mm_w g ≤ 0 + 7301080
        have := q.2.2; omega
  have k := mm_key (e := e) (below := below) (vs := [.float 0]) (by omega) hW (by rw [f3]; exact Nat.le_of_ble_eq_true rfl) C1 F1 ⟨rfl, ⟨Nat.le_refl _, fun _ => rfl⟩, fun a ha => absurd ha (Nat.not_lt_zero a)⟩
  rw [f3] at k
  rw [lg_entry_eq]
  intro T hT X
  obtain ⟨t, a1, o, b1, b2, b3⟩ := k T hT X
  refine ⟨t, a1, o, b1, b2, ?_⟩
  rcases b3 with ⟨rfl, Ls, ⟨q1, q2, h1, h2, h3, h4, h5, h6⟩, hLs⟩ | ⟨q, -, E, ce, Ls, hF, -⟩
  · refine ⟨rfl, q1, q2, h1, h2, h3, h4, h5, fun a cell hc => ?_⟩
    obtain ⟨c9, e1, e2, e3, e4⟩ := h6 a cell hc
    refine ⟨c9, e1, e2, e3, fun i _ => e4 i fun hm => ?_⟩
    have h7 : s.heap.size ≤ a := hLs _ hm
    have h8 := (Array.getElem?_eq_some_iff.mp hc).1
    omega
  · exact hF.elim
