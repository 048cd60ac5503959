/-! THE SMALL MACHINE IS SOUND: what it runs, the machine runs -/
section MMS
variable {l : Launch} {D : mm_D} {base b : Nat} {sc : Nat × (Nat → Int32)}
def mm_Cx (D : mm_D) (base b : Nat) (sc : Nat × (Nat → Int32)) (m : Nat) (p : Program) (R : Room) (s : State) (M : MethodId) (args : Array Value) (meth : Method) (c : Code) : Prop :=
  (p.tables.exec = Jvm.exec ∧ c.code = mm_cc m ∧ meth.sig.returnType = mm_rt m ∧ meth.locks = false ∧ c.maxLocals = mm_mxL m ∧ s.vm.findClass (mm_cls m) = some M.cls) ∧ c.exceptionTable.toList = tableOf (mm_hh m) ∧ (∀ w ∈ mm_TB, w.before args s = true) ∧ meth.name = (mm_y m).name ∧ mm_EF D base b sc s ∧ m < 141 ∧ mm_rk m ≤ R.frames ∧ 36 * mm_rk m ≤ R.locals
def mm_Fin (D : mm_D) (base b : Nat) (sc : Nat × (Nat → Int32)) (s0 : State) (args : Array Value) (R : Room) (Q : mm_Q) (Qc : Array Value → State → Outcome → State → Prop) (XC : String → State → State → Prop) (n0 w0 : Nat) : Prop :=
  (∀ v g, Q (.inl v) g → ∀ t : State, mm_Rep D base sc g t.heap → va_F (fun q => base ≤ q) s0 t → s0.vm.Alike t.vm → Qc args s0 (.returned (v.map (mm_tr base b))) t) ∧
  (∀ E g, Q (.inr E) g → ∀ t : State, mm_Rep D base sc g t.heap → va_F (fun q => base ≤ q) s0 t → s0.vm.Alike t.vm → XC (mm_exc E) s0 t) ∧
  (∀ r g, Q r g → mm_n g ≤ n0 + R.cells ∧ mm_w g ≤ w0 + R.slots)
def mm_W (l : Launch) (D : mm_D) (base b : Nat) (sc : Nat × (Nat → Int32)) : mm_P := fun z Q =>
  ∀ (p : Program) (e : Env) (R : Room) (s0 : State) (M : MethodId) (args : Array Value) (below : List Frame) (meth : Method) (c : Code) (Qc : Array Value → State → Outcome → State → Prop) (XC : String → State → State → Prop) (n0 w0 : Nat) (H : Heap) (locs : List Loc) (cells slots : Nat) (ls : Array Slot),
    mm_Cx D base b sc z.1 p R s0 M args meth c → mm_Fin D base b sc s0 args R Q Qc XC n0 w0 → mm_vl z.1 z.2.1 = true → mm_Rep D base sc z.2.2.2.2 H → va_S (fun q => base ≤ q) s0.heap H locs → mm_Lr base b ls z.2.2.1 → z.2.2.1.length = mm_mxL z.1 → cells + n0 = mm_n z.2.2.2.2 → slots + w0 = mm_w z.2.2.2.2 →
    W p l e R s0 M args below meth c H locs cells slots (vx_MQ below Qc XC args s0 R.cells R.slots (fun q => base ≤ q)) (F0 M (mm_hd z.2.1) ls (z.2.2.2.1.map (mm_tr base b)))
def mm_PP (l : Launch) (D : mm_D) (base b : Nat) (sc : Nat × (Nat → Int32)) : mm_P := fun z Q => (∃ r g, Q r g ∧ mm_n z.2.2.2.2 ≤ mm_n g ∧ mm_w z.2.2.2.2 ≤ mm_w g) ∧ mm_W l D base b sc z Q
theorem mm_vl_c {m pc cd : Nat} {x : Int32} {ax : List Nat} {r : List mm_Op} (h : mm_vl m ((pc, cd, x, ax) :: r) = true) : mm_okop m pc cd x ax = true ∧ (mm_end cd = false → mm_hd r = pc + mm_ln cd ax ∧ mm_vl m r = true) := by
  simp only [mm_vl, Bool.and_eq_true, Bool.or_eq_true, beq_iff_eq] at h
  refine ⟨h.1, fun he => ?_⟩
  rcases h.2 with h2 | h2
  · rw [he] at h2; cases h2
  · exact h2
theorem mm_getD_mem {ax : List Nat} {k : Nat} (h : k < ax.length) : ax.getD k 0 ∈ ax := by
  rw [List.getD_eq_getElem?_getD, List.getElem?_eq_getElem h, Option.getD_some]
  exact List.getElem_mem _
theorem mm_dec_ok {m pc n : Nat} {i : Instr} (h : mm_dec m pc i n = true) : decode (mm_cc m) pc = .ok (i, n) := of_decide_eq_true h
theorem mm_jmp_ok {m pc b2 : Nat} {f : Int → Instr} (hm : m < 141) (h : mm_jmp m pc b2 f = true) : ∃ off : Int, decode (mm_cc m) pc = .ok (f off, 3) ∧ (pc : Int) + off = (mm_hd (mm_blk m b2) : Int) ∧ mm_vl m (mm_blk m b2) = true := by
  simp only [mm_jmp, Bool.and_eq_true, decide_eq_true_eq] at h
  exact ⟨_, mm_dec_ok h.1, by omega, mm_vb hm h.2⟩

theorem mm_z9 {m pc : Nat} {x : Int32} {ax : List Nat} {r : List mm_Op} {L : mm_L} {st : List Value} {h : mm_H} {Q : mm_Q} (hF : mm_F (mm_PP l D base b sc) (m, (pc, 9, x, ax) :: r, L, st, h) Q) : mm_W l D base b sc (m, (pc, 9, x, ax) :: r, L, st, h) Q := by
  intro p e R s0 M args below meth c Qc XC n0 w0 H locs cells slots ls C hQ hv hR hS hL hn hc hs
  obtain ⟨⟨hx, hb, hrt, hlk, hml, hown⟩, hxt, hts, hnm, hEF, hm, hfr, hlo⟩ := id C
  obtain ⟨hok, hnx⟩ := mm_vl_c hv
  match st, hF with
  | .int y :: .int z :: st, hF =>
    have k : mm_PP l D base b sc (m, r, L, .int (z + y) :: st, h) Q := hF
    have k2 := k.2 p e R s0 M args below meth c Qc XC n0 w0 H locs cells slots ls C hQ (hnx rfl).2 hR hS hL hn hc hs
    rw [show mm_hd r = pc + 1 from (hnx rfl).1] at k2
    exact lv_iadd hx hb (mm_dec_ok hok) k2

theorem mm_z10 {m pc : Nat} {x : Int32} {ax : List Nat} {r : List mm_Op} {L : mm_L} {st : List Value} {h : mm_H} {Q : mm_Q} (hF : mm_F (mm_PP l D base b sc) (m, (pc, 10, x, ax) :: r, L, st, h) Q) : mm_W l D base b sc (m, (pc, 10, x, ax) :: r, L, st, h) Q := by
  intro p e R s0 M args below meth c Qc XC n0 w0 H locs cells slots ls C hQ hv hR hS hL hn hc hs
  obtain ⟨⟨hx, hb, hrt, hlk, hml, hown⟩, hxt, hts, hnm, hEF, hm, hfr, hlo⟩ := id C
  obtain ⟨hok, hnx⟩ := mm_vl_c hv
  match st, hF with
  | .int y :: .int z :: st, hF =>
    have k : mm_PP l D base b sc (m, r, L, .int (z - y) :: st, h) Q := hF
    have k2 := k.2 p e R s0 M args below meth c Qc XC n0 w0 H locs cells slots ls C hQ (hnx rfl).2 hR hS hL hn hc hs
    rw [show mm_hd r = pc + 1 from (hnx rfl).1] at k2
    exact lv_isub hx hb (mm_dec_ok hok) k2

theorem mm_z11 {m pc : Nat} {x : Int32} {ax : List Nat} {r : List mm_Op} {L : mm_L} {st : List Value} {h : mm_H} {Q : mm_Q} (hF : mm_F (mm_PP l D base b sc) (m, (pc, 11, x, ax) :: r, L, st, h) Q) : mm_W l D base b sc (m, (pc, 11, x, ax) :: r, L, st, h) Q := by
  intro p e R s0 M args below meth c Qc XC n0 w0 H locs cells slots ls C hQ hv hR hS hL hn hc hs
  obtain ⟨⟨hx, hb, hrt, hlk, hml, hown⟩, hxt, hts, hnm, hEF, hm, hfr, hlo⟩ := id C
  obtain ⟨hok, hnx⟩ := mm_vl_c hv
  match st, hF with
  | .int y :: .int z :: st, hF =>
    have k : mm_PP l D base b sc (m, r, L, .int (z * y) :: st, h) Q := hF
    have k2 := k.2 p e R s0 M args below meth c Qc XC n0 w0 H locs cells slots ls C hQ (hnx rfl).2 hR hS hL hn hc hs
    rw [show mm_hd r = pc + 1 from (hnx rfl).1] at k2
    exact lv_imul hx hb (mm_dec_ok hok) k2

theorem mm_z14 {m pc : Nat} {x : Int32} {ax : List Nat} {r : List mm_Op} {L : mm_L} {st : List Value} {h : mm_H} {Q : mm_Q} (hF : mm_F (mm_PP l D base b sc) (m, (pc, 14, x, ax) :: r, L, st, h) Q) : mm_W l D base b sc (m, (pc, 14, x, ax) :: r, L, st, h) Q := by
  intro p e R s0 M args below meth c Qc XC n0 w0 H locs cells slots ls C hQ hv hR hS hL hn hc hs
  obtain ⟨⟨hx, hb, hrt, hlk, hml, hown⟩, hxt, hts, hnm, hEF, hm, hfr, hlo⟩ := id C
  obtain ⟨hok, hnx⟩ := mm_vl_c hv
  match st, hF with
  | .int y :: .int z :: st, hF =>
    have k : mm_PP l D base b sc (m, r, L, .int (z &&& y) :: st, h) Q := hF
    have k2 := k.2 p e R s0 M args below meth c Qc XC n0 w0 H locs cells slots ls C hQ (hnx rfl).2 hR hS hL hn hc hs
    rw [show mm_hd r = pc + 1 from (hnx rfl).1] at k2
    exact lv_iand hx hb (mm_dec_ok hok) k2

theorem mm_z12 {m pc : Nat} {x : Int32} {ax : List Nat} {r : List mm_Op} {L : mm_L} {st : List Value} {h : mm_H} {Q : mm_Q} (hF : mm_F (mm_PP l D base b sc) (m, (pc, 12, x, ax) :: r, L, st, h) Q) : mm_W l D base b sc (m, (pc, 12, x, ax) :: r, L, st, h) Q := by
  intro p e R s0 M args below meth c Qc XC n0 w0 H locs cells slots ls C hQ hv hR hS hL hn hc hs
  obtain ⟨⟨hx, hb, hrt, hlk, hml, hown⟩, hxt, hts, hnm, hEF, hm, hfr, hlo⟩ := id C
  obtain ⟨hok, hnx⟩ := mm_vl_c hv
  match st, hF with
  | .int y :: .int z :: st, hF =>
    have hF2 : mm_F (mm_PP l D base b sc) (m, (pc, 12, x, ax) :: r, L, .int y :: .int z :: st, h) Q := hF
    simp only [mm_F, mm_step, mm_op] at hF2
    by_cases hc9 : y = 0
    · simp only [hc9, if_true, ite_true] at hF2
    simp only [hc9, if_false, ite_false, mm_go] at hF2
    have hF := hF2
    have k : mm_PP l D base b sc (m, r, L, .int (z / y) :: st, h) Q := hF
    have k2 := k.2 p e R s0 M args below meth c Qc XC n0 w0 H locs cells slots ls C hQ (hnx rfl).2 hR hS hL hn hc hs
    rw [show mm_hd r = pc + 1 from (hnx rfl).1] at k2
    exact lv_idiv hx hb (mm_dec_ok hok) hc9 k2

theorem mm_z13 {m pc : Nat} {x : Int32} {ax : List Nat} {r : List mm_Op} {L : mm_L} {st : List Value} {h : mm_H} {Q : mm_Q} (hF : mm_F (mm_PP l D base b sc) (m, (pc, 13, x, ax) :: r, L, st, h) Q) : mm_W l D base b sc (m, (pc, 13, x, ax) :: r, L, st, h) Q := by
  intro p e R s0 M args below meth c Qc XC n0 w0 H locs cells slots ls C hQ hv hR hS hL hn hc hs
  obtain ⟨⟨hx, hb, hrt, hlk, hml, hown⟩, hxt, hts, hnm, hEF, hm, hfr, hlo⟩ := id C
  obtain ⟨hok, hnx⟩ := mm_vl_c hv
  match st, hF with
  | .int y :: .int z :: st, hF =>
    have hF2 : mm_F (mm_PP l D base b sc) (m, (pc, 13, x, ax) :: r, L, .int y :: .int z :: st, h) Q := hF
    simp only [mm_F, mm_step, mm_op] at hF2
    by_cases hc9 : y = 0
    · simp only [hc9, if_true, ite_true] at hF2
    simp only [hc9, if_false, ite_false, mm_go] at hF2
    have hF := hF2
    have k : mm_PP l D base b sc (m, r, L, .int (z - z / y * y) :: st, h) Q := hF
    have k2 := k.2 p e R s0 M args below meth c Qc XC n0 w0 H locs cells slots ls C hQ (hnx rfl).2 hR hS hL hn hc hs
    rw [show mm_hd r = pc + 1 from (hnx rfl).1] at k2
    exact lv_irem hx hb (mm_dec_ok hok) hc9 k2

theorem mm_z15 {m pc : Nat} {x : Int32} {ax : List Nat} {r : List mm_Op} {L : mm_L} {st : List Value} {h : mm_H} {Q : mm_Q} (hF : mm_F (mm_PP l D base b sc) (m, (pc, 15, x, ax) :: r, L, st, h) Q) : mm_W l D base b sc (m, (pc, 15, x, ax) :: r, L, st, h) Q := by
  intro p e R s0 M args below meth c Qc XC n0 w0 H locs cells slots ls C hQ hv hR hS hL hn hc hs
  obtain ⟨⟨hx, hb, hrt, hlk, hml, hown⟩, hxt, hts, hnm, hEF, hm, hfr, hlo⟩ := id C
  obtain ⟨hok, hnx⟩ := mm_vl_c hv
  match st, hF with
  | .long y :: .long z :: st, hF =>
    have k : mm_PP l D base b sc (m, r, L, .long (z + y) :: st, h) Q := hF
    have k2 := k.2 p e R s0 M args below meth c Qc XC n0 w0 H locs cells slots ls C hQ (hnx rfl).2 hR hS hL hn hc hs
    rw [show mm_hd r = pc + 1 from (hnx rfl).1] at k2
    exact lv_ladd hx hb (mm_dec_ok hok) k2

theorem mm_z16 {m pc : Nat} {x : Int32} {ax : List Nat} {r : List mm_Op} {L : mm_L} {st : List Value} {h : mm_H} {Q : mm_Q} (hF : mm_F (mm_PP l D base b sc) (m, (pc, 16, x, ax) :: r, L, st, h) Q) : mm_W l D base b sc (m, (pc, 16, x, ax) :: r, L, st, h) Q := by
  intro p e R s0 M args below meth c Qc XC n0 w0 H locs cells slots ls C hQ hv hR hS hL hn hc hs
  obtain ⟨⟨hx, hb, hrt, hlk, hml, hown⟩, hxt, hts, hnm, hEF, hm, hfr, hlo⟩ := id C
  obtain ⟨hok, hnx⟩ := mm_vl_c hv
  match st, hF with
  | .long y :: .long z :: st, hF =>
    have k : mm_PP l D base b sc (m, r, L, .long (z * y) :: st, h) Q := hF
    have k2 := k.2 p e R s0 M args below meth c Qc XC n0 w0 H locs cells slots ls C hQ (hnx rfl).2 hR hS hL hn hc hs
    rw [show mm_hd r = pc + 1 from (hnx rfl).1] at k2
    exact lv_lmul hx hb (mm_dec_ok hok) k2

theorem mm_z17 {m pc : Nat} {x : Int32} {ax : List Nat} {r : List mm_Op} {L : mm_L} {st : List Value} {h : mm_H} {Q : mm_Q} (hF : mm_F (mm_PP l D base b sc) (m, (pc, 17, x, ax) :: r, L, st, h) Q) : mm_W l D base b sc (m, (pc, 17, x, ax) :: r, L, st, h) Q := by
  intro p e R s0 M args below meth c Qc XC n0 w0 H locs cells slots ls C hQ hv hR hS hL hn hc hs
  obtain ⟨⟨hx, hb, hrt, hlk, hml, hown⟩, hxt, hts, hnm, hEF, hm, hfr, hlo⟩ := id C
  obtain ⟨hok, hnx⟩ := mm_vl_c hv
  match st, hF with
  | .long y :: .long z :: st, hF =>
    have k : mm_PP l D base b sc (m, r, L, .long (z &&& y) :: st, h) Q := hF
    have k2 := k.2 p e R s0 M args below meth c Qc XC n0 w0 H locs cells slots ls C hQ (hnx rfl).2 hR hS hL hn hc hs
    rw [show mm_hd r = pc + 1 from (hnx rfl).1] at k2
    exact lv_land hx hb (mm_dec_ok hok) k2

theorem mm_z18 {m pc : Nat} {x : Int32} {ax : List Nat} {r : List mm_Op} {L : mm_L} {st : List Value} {h : mm_H} {Q : mm_Q} (hF : mm_F (mm_PP l D base b sc) (m, (pc, 18, x, ax) :: r, L, st, h) Q) : mm_W l D base b sc (m, (pc, 18, x, ax) :: r, L, st, h) Q := by
  intro p e R s0 M args below meth c Qc XC n0 w0 H locs cells slots ls C hQ hv hR hS hL hn hc hs
  obtain ⟨⟨hx, hb, hrt, hlk, hml, hown⟩, hxt, hts, hnm, hEF, hm, hfr, hlo⟩ := id C
  obtain ⟨hok, hnx⟩ := mm_vl_c hv
  match st, hF with
  | .long y :: .long z :: st, hF =>
    have k : mm_PP l D base b sc (m, r, L, .long (z ||| y) :: st, h) Q := hF
    have k2 := k.2 p e R s0 M args below meth c Qc XC n0 w0 H locs cells slots ls C hQ (hnx rfl).2 hR hS hL hn hc hs
    rw [show mm_hd r = pc + 1 from (hnx rfl).1] at k2
    exact lv_lor hx hb (mm_dec_ok hok) k2

theorem mm_z19 {m pc : Nat} {x : Int32} {ax : List Nat} {r : List mm_Op} {L : mm_L} {st : List Value} {h : mm_H} {Q : mm_Q} (hF : mm_F (mm_PP l D base b sc) (m, (pc, 19, x, ax) :: r, L, st, h) Q) : mm_W l D base b sc (m, (pc, 19, x, ax) :: r, L, st, h) Q := by
  intro p e R s0 M args below meth c Qc XC n0 w0 H locs cells slots ls C hQ hv hR hS hL hn hc hs
  obtain ⟨⟨hx, hb, hrt, hlk, hml, hown⟩, hxt, hts, hnm, hEF, hm, hfr, hlo⟩ := id C
  obtain ⟨hok, hnx⟩ := mm_vl_c hv
  match st, hF with
  | .int y :: .long z :: st, hF =>
    have k : mm_PP l D base b sc (m, r, L, .long (z.toUInt64 >>> (y.toInt64.toUInt64 &&& Int64.toUInt64 63)).toInt64 :: st, h) Q := hF
    have k2 := k.2 p e R s0 M args below meth c Qc XC n0 w0 H locs cells slots ls C hQ (hnx rfl).2 hR hS hL hn hc hs
    rw [show mm_hd r = pc + 1 from (hnx rfl).1] at k2
    exact lv_lushr hx hb (mm_dec_ok hok) rfl k2

theorem mm_z20 {m pc : Nat} {x : Int32} {ax : List Nat} {r : List mm_Op} {L : mm_L} {st : List Value} {h : mm_H} {Q : mm_Q} (hF : mm_F (mm_PP l D base b sc) (m, (pc, 20, x, ax) :: r, L, st, h) Q) : mm_W l D base b sc (m, (pc, 20, x, ax) :: r, L, st, h) Q := by
  intro p e R s0 M args below meth c Qc XC n0 w0 H locs cells slots ls C hQ hv hR hS hL hn hc hs
  obtain ⟨⟨hx, hb, hrt, hlk, hml, hown⟩, hxt, hts, hnm, hEF, hm, hfr, hlo⟩ := id C
  obtain ⟨hok, hnx⟩ := mm_vl_c hv
  match st, hF with
  | .int y :: .long z :: st, hF =>
    have k : mm_PP l D base b sc (m, r, L, .long (z <<< (y.toInt64 &&& 63)) :: st, h) Q := hF
    have k2 := k.2 p e R s0 M args below meth c Qc XC n0 w0 H locs cells slots ls C hQ (hnx rfl).2 hR hS hL hn hc hs
    rw [show mm_hd r = pc + 1 from (hnx rfl).1] at k2
    exact lv_lshl hx hb (mm_dec_ok hok) rfl k2

theorem mm_z21 {m pc : Nat} {x : Int32} {ax : List Nat} {r : List mm_Op} {L : mm_L} {st : List Value} {h : mm_H} {Q : mm_Q} (hF : mm_F (mm_PP l D base b sc) (m, (pc, 21, x, ax) :: r, L, st, h) Q) : mm_W l D base b sc (m, (pc, 21, x, ax) :: r, L, st, h) Q := by
  intro p e R s0 M args below meth c Qc XC n0 w0 H locs cells slots ls C hQ hv hR hS hL hn hc hs
  obtain ⟨⟨hx, hb, hrt, hlk, hml, hown⟩, hxt, hts, hnm, hEF, hm, hfr, hlo⟩ := id C
  obtain ⟨hok, hnx⟩ := mm_vl_c hv
  match st, hF with
  | .int z :: st, hF =>
    have k : mm_PP l D base b sc (m, r, L, .long z.toInt64 :: st, h) Q := hF
    have k2 := k.2 p e R s0 M args below meth c Qc XC n0 w0 H locs cells slots ls C hQ (hnx rfl).2 hR hS hL hn hc hs
    rw [show mm_hd r = pc + 1 from (hnx rfl).1] at k2
    exact lv_i2l hx hb (mm_dec_ok hok) rfl k2

theorem mm_z22 {m pc : Nat} {x : Int32} {ax : List Nat} {r : List mm_Op} {L : mm_L} {st : List Value} {h : mm_H} {Q : mm_Q} (hF : mm_F (mm_PP l D base b sc) (m, (pc, 22, x, ax) :: r, L, st, h) Q) : mm_W l D base b sc (m, (pc, 22, x, ax) :: r, L, st, h) Q := by
  intro p e R s0 M args below meth c Qc XC n0 w0 H locs cells slots ls C hQ hv hR hS hL hn hc hs
  obtain ⟨⟨hx, hb, hrt, hlk, hml, hown⟩, hxt, hts, hnm, hEF, hm, hfr, hlo⟩ := id C
  obtain ⟨hok, hnx⟩ := mm_vl_c hv
  match st, hF with
  | .long z :: st, hF =>
    have k : mm_PP l D base b sc (m, r, L, .int z.toInt32 :: st, h) Q := hF
    have k2 := k.2 p e R s0 M args below meth c Qc XC n0 w0 H locs cells slots ls C hQ (hnx rfl).2 hR hS hL hn hc hs
    rw [show mm_hd r = pc + 1 from (hnx rfl).1] at k2
    exact lv_l2i hx hb (mm_dec_ok hok) rfl k2

theorem mm_z23 {m pc : Nat} {x : Int32} {ax : List Nat} {r : List mm_Op} {L : mm_L} {st : List Value} {h : mm_H} {Q : mm_Q} (hF : mm_F (mm_PP l D base b sc) (m, (pc, 23, x, ax) :: r, L, st, h) Q) : mm_W l D base b sc (m, (pc, 23, x, ax) :: r, L, st, h) Q := by
  intro p e R s0 M args below meth c Qc XC n0 w0 H locs cells slots ls C hQ hv hR hS hL hn hc hs
  obtain ⟨⟨hx, hb, hrt, hlk, hml, hown⟩, hxt, hts, hnm, hEF, hm, hfr, hlo⟩ := id C
  obtain ⟨hok, hnx⟩ := mm_vl_c hv
  match st, hF with
  | .int z :: st, hF =>
    have k : mm_PP l D base b sc (m, r, L, .int (z.toUInt32 % 65536).toInt32 :: st, h) Q := hF
    have k2 := k.2 p e R s0 M args below meth c Qc XC n0 w0 H locs cells slots ls C hQ (hnx rfl).2 hR hS hL hn hc hs
    rw [show mm_hd r = pc + 1 from (hnx rfl).1] at k2
    exact lv_i2c hx hb (mm_dec_ok hok) rfl k2

theorem mm_z24 {m pc : Nat} {x : Int32} {ax : List Nat} {r : List mm_Op} {L : mm_L} {st : List Value} {h : mm_H} {Q : mm_Q} (hF : mm_F (mm_PP l D base b sc) (m, (pc, 24, x, ax) :: r, L, st, h) Q) : mm_W l D base b sc (m, (pc, 24, x, ax) :: r, L, st, h) Q := by
  intro p e R s0 M args below meth c Qc XC n0 w0 H locs cells slots ls C hQ hv hR hS hL hn hc hs
  obtain ⟨⟨hx, hb, hrt, hlk, hml, hown⟩, hxt, hts, hnm, hEF, hm, hfr, hlo⟩ := id C
  obtain ⟨hok, hnx⟩ := mm_vl_c hv
  match st, hF with
  | .long y :: .long z :: st, hF =>
    have k : mm_PP l D base b sc (m, r, L, .int (if y < z then 1 else if z = y then 0 else -1) :: st, h) Q := hF
    have k2 := k.2 p e R s0 M args below meth c Qc XC n0 w0 H locs cells slots ls C hQ (hnx rfl).2 hR hS hL hn hc hs
    rw [show mm_hd r = pc + 1 from (hnx rfl).1] at k2
    exact W.lcmp hx hb (mm_dec_ok hok) k2

theorem mm_z25 {m pc : Nat} {x : Int32} {ax : List Nat} {r : List mm_Op} {L : mm_L} {st : List Value} {h : mm_H} {Q : mm_Q} (hF : mm_F (mm_PP l D base b sc) (m, (pc, 25, x, ax) :: r, L, st, h) Q) : mm_W l D base b sc (m, (pc, 25, x, ax) :: r, L, st, h) Q := by
  intro p e R s0 M args below meth c Qc XC n0 w0 H locs cells slots ls C hQ hv hR hS hL hn hc hs
  obtain ⟨⟨hx, hb, hrt, hlk, hml, hown⟩, hxt, hts, hnm, hEF, hm, hfr, hlo⟩ := id C
  obtain ⟨hok, hnx⟩ := mm_vl_c hv
  match st, hF with
  | v :: st, hF =>
    by_cases hc9 : v.category = 1
    · have k : mm_PP l D base b sc (m, r, L, v :: v :: st, h) Q := by
        have hF2 := hF
        simp only [mm_F, mm_step, mm_op, hc9, if_true, and_self, mm_go] at hF2
        exact hF2
      have k2 := k.2 p e R s0 M args below meth c Qc XC n0 w0 H locs cells slots ls C hQ (hnx rfl).2 hR hS hL hn hc hs
      rw [show mm_hd r = pc + 1 from (hnx rfl).1] at k2
      exact lv_dup hx hb (mm_dec_ok hok) (by rw [mm_tr_cat]; exact hc9) k2
    · simp only [mm_F, mm_step, mm_op, hc9, if_false] at hF

theorem mm_z26 {m pc : Nat} {x : Int32} {ax : List Nat} {r : List mm_Op} {L : mm_L} {st : List Value} {h : mm_H} {Q : mm_Q} (hF : mm_F (mm_PP l D base b sc) (m, (pc, 26, x, ax) :: r, L, st, h) Q) : mm_W l D base b sc (m, (pc, 26, x, ax) :: r, L, st, h) Q := by
  intro p e R s0 M args below meth c Qc XC n0 w0 H locs cells slots ls C hQ hv hR hS hL hn hc hs
  obtain ⟨⟨hx, hb, hrt, hlk, hml, hown⟩, hxt, hts, hnm, hEF, hm, hfr, hlo⟩ := id C
  obtain ⟨hok, hnx⟩ := mm_vl_c hv
  match st, hF with
  | v :: w :: st, hF =>
    by_cases hc9 : v.category = 1 ∧ w.category = 1
    · have k : mm_PP l D base b sc (m, r, L, v :: w :: v :: w :: st, h) Q := by
        have hF2 := hF
        simp only [mm_F, mm_step, mm_op, hc9, if_true, and_self, mm_go] at hF2
        exact hF2
      have k2 := k.2 p e R s0 M args below meth c Qc XC n0 w0 H locs cells slots ls C hQ (hnx rfl).2 hR hS hL hn hc hs
      rw [show mm_hd r = pc + 1 from (hnx rfl).1] at k2
      exact lv_dup2_11 hx hb (mm_dec_ok hok) (by rw [mm_tr_cat]; exact hc9.1) (by rw [mm_tr_cat]; exact hc9.2) k2
    · simp only [mm_F, mm_step, mm_op, hc9, if_false] at hF

theorem mm_z27 {m pc : Nat} {x : Int32} {ax : List Nat} {r : List mm_Op} {L : mm_L} {st : List Value} {h : mm_H} {Q : mm_Q} (hF : mm_F (mm_PP l D base b sc) (m, (pc, 27, x, ax) :: r, L, st, h) Q) : mm_W l D base b sc (m, (pc, 27, x, ax) :: r, L, st, h) Q := by
  intro p e R s0 M args below meth c Qc XC n0 w0 H locs cells slots ls C hQ hv hR hS hL hn hc hs
  obtain ⟨⟨hx, hb, hrt, hlk, hml, hown⟩, hxt, hts, hnm, hEF, hm, hfr, hlo⟩ := id C
  obtain ⟨hok, hnx⟩ := mm_vl_c hv
  match st, hF with
  | v :: st, hF =>
    by_cases hc9 : v.category = 1
    · have k : mm_PP l D base b sc (m, r, L, st, h) Q := by
        have hF2 := hF
        simp only [mm_F, mm_step, mm_op, hc9, if_true, and_self, mm_go] at hF2
        exact hF2
      have k2 := k.2 p e R s0 M args below meth c Qc XC n0 w0 H locs cells slots ls C hQ (hnx rfl).2 hR hS hL hn hc hs
      rw [show mm_hd r = pc + 1 from (hnx rfl).1] at k2
      exact lv_pop hx hb (mm_dec_ok hok) (by rw [mm_tr_cat]; exact hc9) k2
    · simp only [mm_F, mm_step, mm_op, hc9, if_false] at hF

theorem mm_z1 {m pc : Nat} {x : Int32} {ax : List Nat} {r : List mm_Op} {L : mm_L} {st : List Value} {h : mm_H} {Q : mm_Q} (hF : mm_F (mm_PP l D base b sc) (m, (pc, 1, x, ax) :: r, L, st, h) Q) : mm_W l D base b sc (m, (pc, 1, x, ax) :: r, L, st, h) Q := by
  intro p e R s0 M args below meth c Qc XC n0 w0 H locs cells slots ls C hQ hv hR hS hL hn hc hs
  obtain ⟨⟨hx, hb, hrt, hlk, hml, hown⟩, hxt, hts, hnm, hEF, hm, hfr, hlo⟩ := id C
  obtain ⟨hok, hnx⟩ := mm_vl_c hv
  have k : mm_PP l D base b sc (m, r, L, .int x :: st, h) Q := hF
  have k2 := k.2 p e R s0 M args below meth c Qc XC n0 w0 H locs cells slots ls C hQ (hnx rfl).2 hR hS hL hn hc hs
  have hl1 : mm_hd r = pc + (mm_a ax 0 + 1) := (hnx rfl).1
  have hok : (decide (mm_a ax 0 < 3) && (match mm_a ax 0 with
    | 0 => mm_dec m pc (.iconst x.toInt) 1
    | 1 => mm_dec m pc (.bipush x.toInt) 2 && decide ((Int8.ofInt x.toInt).toInt32 = x)
    | _ => mm_dec m pc (.sipush x.toInt) 3 && decide ((Int16.ofInt x.toInt).toInt32 = x))) = true := hok
  simp only [Bool.and_eq_true, decide_eq_true_eq] at hok
  obtain ⟨h3, hok⟩ := hok
  rw [hl1] at k2
  rcases (show mm_a ax 0 = 0 ∨ mm_a ax 0 = 1 ∨ mm_a ax 0 = 2 by omega) with h0 | h0 | h0
  · rw [h0] at hok k2
    exact lv_iconst hx hb (mm_dec_ok hok) (Int32.ofInt_toInt x) k2
  · rw [h0] at hok k2
    simp only [Bool.and_eq_true, decide_eq_true_eq] at hok
    exact lv_bipush hx hb (mm_dec_ok hok.1) hok.2 k2
  · rw [h0] at hok k2
    simp only [Bool.and_eq_true, decide_eq_true_eq] at hok
    exact lv_sipush hx hb (mm_dec_ok hok.1) hok.2 k2

theorem mm_z71 {m pc : Nat} {x : Int32} {ax : List Nat} {r : List mm_Op} {L : mm_L} {st : List Value} {h : mm_H} {Q : mm_Q} (hF : mm_F (mm_PP l D base b sc) (m, (pc, 71, x, ax) :: r, L, st, h) Q) : mm_W l D base b sc (m, (pc, 71, x, ax) :: r, L, st, h) Q := by
  intro p e R s0 M args below meth c Qc XC n0 w0 H locs cells slots ls C hQ hv hR hS hL hn hc hs
  obtain ⟨⟨hx, hb, hrt, hlk, hml, hown⟩, hxt, hts, hnm, hEF, hm, hfr, hlo⟩ := id C
  obtain ⟨hok, hnx⟩ := mm_vl_c hv
  have k : mm_PP l D base b sc (m, r, L, .long (Int64.ofNat (mm_a ax 0)) :: st, h) Q := hF
  have k2 := k.2 p e R s0 M args below meth c Qc XC n0 w0 H locs cells slots ls C hQ (hnx rfl).2 hR hS hL hn hc hs
  have hl1 : mm_hd r = pc + (if mm_a ax 1 = 0 then 1 else 3) := (hnx rfl).1
  have hok : (if mm_a ax 1 = 0 then (if h : mm_a ax 0 < 2 then mm_dec m pc (.lconst ⟨mm_a ax 0, h⟩) 1 else false) else mm_dec m pc (.ldc2_w (mm_a ax 2)) 3 && mm_wL (mm_a ax 3) (.constantLong (mm_cls m) (mm_a ax 2) (Int64.ofNat (mm_a ax 0)))) = true := hok
  rw [hl1] at k2
  by_cases h0 : mm_a ax 1 = 0
  · rw [if_pos h0] at hok k2
    by_cases h2 : mm_a ax 0 < 2
    · rw [dif_pos h2] at hok
      exact lv_lconst hx hb (mm_dec_ok hok) rfl k2
    · rw [dif_neg h2] at hok; cases hok
  · rw [if_neg h0] at hok k2
    simp only [Bool.and_eq_true] at hok
    exact lv_ldc2 hx hb hown (hts _ (mm_wk_in hok.2)) (mm_dec_ok hok.1) k2

theorem mm_z2 {m pc : Nat} {x : Int32} {ax : List Nat} {r : List mm_Op} {L : mm_L} {st : List Value} {h : mm_H} {Q : mm_Q} (hF : mm_F (mm_PP l D base b sc) (m, (pc, 2, x, ax) :: r, L, st, h) Q) : mm_W l D base b sc (m, (pc, 2, x, ax) :: r, L, st, h) Q := by
  intro p e R s0 M args below meth c Qc XC n0 w0 H locs cells slots ls C hQ hv hR hS hL hn hc hs
  obtain ⟨⟨hx, hb, hrt, hlk, hml, hown⟩, hxt, hts, hnm, hEF, hm, hfr, hlo⟩ := id C
  obtain ⟨hok, hnx⟩ := mm_vl_c hv
  have hok : (if mm_a ax 1 = 1 then (if h : mm_a ax 0 < 4 then mm_dec m pc (.iload_n ⟨mm_a ax 0, h⟩) 1 else false) else mm_dec m pc (.iload (mm_a ax 0)) 2) = true := hok
  have hl1 : mm_hd r = pc + (if mm_a ax 1 = 1 then 1 else 2) := (hnx rfl).1
  have hF2 : mm_F (mm_PP l D base b sc) (m, (pc, 2, x, ax) :: r, L, st, h) Q := hF
  simp only [mm_F, mm_step, mm_op] at hF2
  cases hv9 : mm_lI L (mm_a ax 0) with
  | none =>
    rw [hv9] at hF2
    exact hF2.elim
  | some v =>
    rw [hv9] at hF2
    have k : mm_PP l D base b sc (m, r, L, .int v :: st, h) Q := hF2
    have hLv : L[mm_a ax 0]? = some (some (.int v)) := by
      unfold mm_lI at hv9
      split at hv9
      · next w hw => cases hv9; exact hw
      · cases hv9
    have hlv := hL.2.2 _ _ hLv
    have k2 := k.2 p e R s0 M args below meth c Qc XC n0 w0 H locs cells slots ls C hQ (hnx rfl).2 hR hS hL hn hc hs
    rw [hl1] at k2
    by_cases h0 : mm_a ax 1 = 1
    · rw [if_pos h0] at hok k2
      by_cases h2 : mm_a ax 0 < 4
      · rw [dif_pos h2] at hok
        exact lv_iload_n hx hb (mm_dec_ok hok) rfl hlv k2
      · rw [dif_neg h2] at hok; cases hok
    · rw [if_neg h0] at hok k2
      exact lv_iload hx hb (mm_dec_ok hok) hlv k2

theorem mm_z6 {m pc : Nat} {x : Int32} {ax : List Nat} {r : List mm_Op} {L : mm_L} {st : List Value} {h : mm_H} {Q : mm_Q} (hF : mm_F (mm_PP l D base b sc) (m, (pc, 6, x, ax) :: r, L, st, h) Q) : mm_W l D base b sc (m, (pc, 6, x, ax) :: r, L, st, h) Q := by
  intro p e R s0 M args below meth c Qc XC n0 w0 H locs cells slots ls C hQ hv hR hS hL hn hc hs
  obtain ⟨⟨hx, hb, hrt, hlk, hml, hown⟩, hxt, hts, hnm, hEF, hm, hfr, hlo⟩ := id C
  obtain ⟨hok, hnx⟩ := mm_vl_c hv
  have hok : (if mm_a ax 1 = 1 then (if h : mm_a ax 0 < 4 then mm_dec m pc (.lload_n ⟨mm_a ax 0, h⟩) 1 else false) else mm_dec m pc (.lload (mm_a ax 0)) 2) = true := hok
  have hl1 : mm_hd r = pc + (if mm_a ax 1 = 1 then 1 else 2) := (hnx rfl).1
  have hF2 : mm_F (mm_PP l D base b sc) (m, (pc, 6, x, ax) :: r, L, st, h) Q := hF
  simp only [mm_F, mm_step, mm_op] at hF2
  cases hv9 : mm_lJ L (mm_a ax 0) with
  | none =>
    rw [hv9] at hF2
    exact hF2.elim
  | some v =>
    rw [hv9] at hF2
    have k : mm_PP l D base b sc (m, r, L, .long v :: st, h) Q := hF2
    have hLv : L[mm_a ax 0]? = some (some (.long v)) := by
      unfold mm_lJ at hv9
      split at hv9
      · next w hw => cases hv9; exact hw
      · cases hv9
    have hlv := hL.2.2 _ _ hLv
    have k2 := k.2 p e R s0 M args below meth c Qc XC n0 w0 H locs cells slots ls C hQ (hnx rfl).2 hR hS hL hn hc hs
    rw [hl1] at k2
    by_cases h0 : mm_a ax 1 = 1
    · rw [if_pos h0] at hok k2
      by_cases h2 : mm_a ax 0 < 4
      · rw [dif_pos h2] at hok
        exact lv_lload_n hx hb (mm_dec_ok hok) rfl hlv k2
      · rw [dif_neg h2] at hok; cases hok
    · rw [if_neg h0] at hok k2
      exact lv_lload hx hb (mm_dec_ok hok) hlv k2

theorem mm_z4 {m pc : Nat} {x : Int32} {ax : List Nat} {r : List mm_Op} {L : mm_L} {st : List Value} {h : mm_H} {Q : mm_Q} (hF : mm_F (mm_PP l D base b sc) (m, (pc, 4, x, ax) :: r, L, st, h) Q) : mm_W l D base b sc (m, (pc, 4, x, ax) :: r, L, st, h) Q := by
  intro p e R s0 M args below meth c Qc XC n0 w0 H locs cells slots ls C hQ hv hR hS hL hn hc hs
  obtain ⟨⟨hx, hb, hrt, hlk, hml, hown⟩, hxt, hts, hnm, hEF, hm, hfr, hlo⟩ := id C
  obtain ⟨hok, hnx⟩ := mm_vl_c hv
  have hok : (if mm_a ax 1 = 1 then (if h : mm_a ax 0 < 4 then mm_dec m pc (.aload_n ⟨mm_a ax 0, h⟩) 1 else false) else mm_dec m pc (.aload (mm_a ax 0)) 2) = true := hok
  have hl1 : mm_hd r = pc + (if mm_a ax 1 = 1 then 1 else 2) := (hnx rfl).1
  have hF2 : mm_F (mm_PP l D base b sc) (m, (pc, 4, x, ax) :: r, L, st, h) Q := hF
  simp only [mm_F, mm_step, mm_op] at hF2
  cases hv9 : mm_lA L (mm_a ax 0) with
  | none =>
    rw [hv9] at hF2
    exact hF2.elim
  | some v =>
    rw [hv9] at hF2
    have k : mm_PP l D base b sc (m, r, L, v :: st, h) Q := hF2
    have hLv : L[mm_a ax 0]? = some (some v) ∧ ∃ q : Nat, mm_tr base b v = .ref q := by
      unfold mm_lA at hv9
      split at hv9
      · next w hw => cases hv9; exact ⟨hw, _, rfl⟩
      · next w hw => cases hv9; exact ⟨hw, _, rfl⟩
      · cases hv9
    obtain ⟨hLv, q, hq⟩ := hLv
    have hlv := hL.2.2 _ _ hLv
    have k2 := k.2 p e R s0 M args below meth c Qc XC n0 w0 H locs cells slots ls C hQ (hnx rfl).2 hR hS hL hn hc hs
    rw [hl1] at k2
    rw [hq] at hlv
    rw [List.map_cons, hq] at k2
    by_cases h0 : mm_a ax 1 = 1
    · rw [if_pos h0] at hok k2
      by_cases h2 : mm_a ax 0 < 4
      · rw [dif_pos h2] at hok
        exact lv_aload_n hx hb (mm_dec_ok hok) rfl hlv k2
      · rw [dif_neg h2] at hok; cases hok
    · rw [if_neg h0] at hok k2
      exact lv_aload hx hb (mm_dec_ok hok) hlv k2

theorem mm_z3 {m pc : Nat} {x : Int32} {ax : List Nat} {r : List mm_Op} {L : mm_L} {st : List Value} {h : mm_H} {Q : mm_Q} (hF : mm_F (mm_PP l D base b sc) (m, (pc, 3, x, ax) :: r, L, st, h) Q) : mm_W l D base b sc (m, (pc, 3, x, ax) :: r, L, st, h) Q := by
  intro p e R s0 M args below meth c Qc XC n0 w0 H locs cells slots ls C hQ hv hR hS hL hn hc hs
  obtain ⟨⟨hx, hb, hrt, hlk, hml, hown⟩, hxt, hts, hnm, hEF, hm, hfr, hlo⟩ := id C
  obtain ⟨hok, hnx⟩ := mm_vl_c hv
  have hok2 : (if mm_a ax 1 = 1 then (if h : mm_a ax 0 < 4 then mm_dec m pc (.istore_n ⟨mm_a ax 0, h⟩) 1 else false) else mm_dec m pc (.istore (mm_a ax 0)) 2) = true := hok
  have hl1 : mm_hd r = pc + (if mm_a ax 1 = 1 then 1 else 2) := (hnx rfl).1
  match st, hF with
  | .int v :: st, hF =>
    have hF2 : mm_F (mm_PP l D base b sc) (m, (pc, 3, x, ax) :: r, L, .int v :: st, h) Q := hF
    simp only [mm_F, mm_step, mm_op] at hF2
    cases hv9 : mm_st1 L (mm_a ax 0) (.int v) with
    | none =>
      rw [hv9] at hF2
      exact hF2.elim
    | some L' =>
      rw [hv9] at hF2
      have k : mm_PP l D base b sc (m, r, L', st, h) Q := hF2
      have hi : mm_a ax 0 < L.length ∧ L'.length = L.length := by
        unfold mm_st1 at hv9
        split at hv9
        · next hc9 => cases hv9; exact ⟨hc9.1, by simp⟩
        · cases hv9
      have k2 := fun ls' hls => k.2 p e R s0 M args below meth c Qc XC n0 w0 H locs cells slots ls' C hQ (hnx rfl).2 hR hS hls (hi.2.trans hn) hc hs
      rw [hl1] at k2
      by_cases h0 : mm_a ax 1 = 1
      · rw [if_pos h0] at hok2 k2
        by_cases h2 : mm_a ax 0 < 4
        · rw [dif_pos h2] at hok2
          exact lv_istore_n hx hb (mm_dec_ok hok2) rfl hL.has hi.1 rfl (fun ls' hls => k2 ls' (mm_Lr.st1 hv9 hls))
        · rw [dif_neg h2] at hok2; cases hok2
      · rw [if_neg h0] at hok2 k2
        exact lv_istore hx hb (mm_dec_ok hok2) hL.has hi.1 rfl (fun ls' hls => k2 ls' (mm_Lr.st1 hv9 hls))

theorem mm_z5 {m pc : Nat} {x : Int32} {ax : List Nat} {r : List mm_Op} {L : mm_L} {st : List Value} {h : mm_H} {Q : mm_Q} (hF : mm_F (mm_PP l D base b sc) (m, (pc, 5, x, ax) :: r, L, st, h) Q) : mm_W l D base b sc (m, (pc, 5, x, ax) :: r, L, st, h) Q := by
  intro p e R s0 M args below meth c Qc XC n0 w0 H locs cells slots ls C hQ hv hR hS hL hn hc hs
  obtain ⟨⟨hx, hb, hrt, hlk, hml, hown⟩, hxt, hts, hnm, hEF, hm, hfr, hlo⟩ := id C
  obtain ⟨hok, hnx⟩ := mm_vl_c hv
  have hok2 : (if mm_a ax 1 = 1 then (if h : mm_a ax 0 < 4 then mm_dec m pc (.astore_n ⟨mm_a ax 0, h⟩) 1 else false) else mm_dec m pc (.astore (mm_a ax 0)) 2) = true := hok
  have hl1 : mm_hd r = pc + (if mm_a ax 1 = 1 then 1 else 2) := (hnx rfl).1
  match st, hF with
  | .ref v :: st, hF =>
    have hF2 : mm_F (mm_PP l D base b sc) (m, (pc, 5, x, ax) :: r, L, .ref v :: st, h) Q := hF
    simp only [mm_F, mm_step, mm_op] at hF2
    cases hv9 : mm_st1 L (mm_a ax 0) (.ref v) with
    | none =>
      rw [hv9] at hF2
      exact hF2.elim
    | some L' =>
      rw [hv9] at hF2
      have k : mm_PP l D base b sc (m, r, L', st, h) Q := hF2
      have hi : mm_a ax 0 < L.length ∧ L'.length = L.length := by
        unfold mm_st1 at hv9
        split at hv9
        · next hc9 => cases hv9; exact ⟨hc9.1, by simp⟩
        · cases hv9
      have k2 := fun ls' hls => k.2 p e R s0 M args below meth c Qc XC n0 w0 H locs cells slots ls' C hQ (hnx rfl).2 hR hS hls (hi.2.trans hn) hc hs
      rw [hl1] at k2
      by_cases h0 : mm_a ax 1 = 1
      · rw [if_pos h0] at hok2 k2
        by_cases h2 : mm_a ax 0 < 4
        · rw [dif_pos h2] at hok2
          exact lv_astore_n hx hb (mm_dec_ok hok2) rfl hL.has hi.1 rfl (fun ls' hls => k2 ls' (mm_Lr.st1 hv9 hls))
        · rw [dif_neg h2] at hok2; cases hok2
      · rw [if_neg h0] at hok2 k2
        exact lv_astore hx hb (mm_dec_ok hok2) hL.has hi.1 rfl (fun ls' hls => k2 ls' (mm_Lr.st1 hv9 hls))

theorem mm_z7 {m pc : Nat} {x : Int32} {ax : List Nat} {r : List mm_Op} {L : mm_L} {st : List Value} {h : mm_H} {Q : mm_Q} (hF : mm_F (mm_PP l D base b sc) (m, (pc, 7, x, ax) :: r, L, st, h) Q) : mm_W l D base b sc (m, (pc, 7, x, ax) :: r, L, st, h) Q := by
  intro p e R s0 M args below meth c Qc XC n0 w0 H locs cells slots ls C hQ hv hR hS hL hn hc hs
  obtain ⟨⟨hx, hb, hrt, hlk, hml, hown⟩, hxt, hts, hnm, hEF, hm, hfr, hlo⟩ := id C
  obtain ⟨hok, hnx⟩ := mm_vl_c hv
  have hok2 : (if mm_a ax 1 = 1 then (if h : mm_a ax 0 < 4 then mm_dec m pc (.lstore_n ⟨mm_a ax 0, h⟩) 1 else false) else mm_dec m pc (.lstore (mm_a ax 0)) 2) = true := hok
  have hl1 : mm_hd r = pc + (if mm_a ax 1 = 1 then 1 else 2) := (hnx rfl).1
  match st, hF with
  | .long v :: st, hF =>
    have hF2 : mm_F (mm_PP l D base b sc) (m, (pc, 7, x, ax) :: r, L, .long v :: st, h) Q := hF
    simp only [mm_F, mm_step, mm_op] at hF2
    cases hv9 : mm_st2 L (mm_a ax 0) (.long v) with
    | none =>
      rw [hv9] at hF2
      exact hF2.elim
    | some L' =>
      rw [hv9] at hF2
      have k : mm_PP l D base b sc (m, r, L', st, h) Q := hF2
      have hi : mm_a ax 0 + 1 < L.length ∧ L'.length = L.length := by
        unfold mm_st2 at hv9
        split at hv9
        · next hc9 => cases hv9; exact ⟨hc9.1, by simp⟩
        · cases hv9
      have k2 := fun ls' hls => k.2 p e R s0 M args below meth c Qc XC n0 w0 H locs cells slots ls' C hQ (hnx rfl).2 hR hS hls (hi.2.trans hn) hc hs
      rw [hl1] at k2
      by_cases h0 : mm_a ax 1 = 1
      · rw [if_pos h0] at hok2 k2
        by_cases h2 : mm_a ax 0 < 4
        · rw [dif_pos h2] at hok2
          exact lv_lstore_n hx hb (mm_dec_ok hok2) rfl hL.has hi.1 rfl (fun ls' hls => k2 ls' (mm_Lr.st2 hv9 hls))
        · rw [dif_neg h2] at hok2; cases hok2
      · rw [if_neg h0] at hok2 k2
        exact lv_lstore hx hb (mm_dec_ok hok2) hL.has hi.1 rfl (fun ls' hls => k2 ls' (mm_Lr.st2 hv9 hls))

theorem mm_z8 {m pc : Nat} {x : Int32} {ax : List Nat} {r : List mm_Op} {L : mm_L} {st : List Value} {h : mm_H} {Q : mm_Q} (hF : mm_F (mm_PP l D base b sc) (m, (pc, 8, x, ax) :: r, L, st, h) Q) : mm_W l D base b sc (m, (pc, 8, x, ax) :: r, L, st, h) Q := by
  intro p e R s0 M args below meth c Qc XC n0 w0 H locs cells slots ls C hQ hv hR hS hL hn hc hs
  obtain ⟨⟨hx, hb, hrt, hlk, hml, hown⟩, hxt, hts, hnm, hEF, hm, hfr, hlo⟩ := id C
  obtain ⟨hok, hnx⟩ := mm_vl_c hv
  have hF2 : mm_F (mm_PP l D base b sc) (m, (pc, 8, x, ax) :: r, L, st, h) Q := hF
  simp only [mm_F, mm_step, mm_op] at hF2
  cases hv9 : mm_lI L (mm_a ax 0) with
  | none =>
    rw [hv9] at hF2
    exact hF2.elim
  | some v =>
    rw [hv9] at hF2
    cases hv8 : mm_st1 L (mm_a ax 0) (.int (v + x)) with
    | none =>
      simp only [hv8] at hF2
    | some L' =>
      simp only [hv8] at hF2
      have k : mm_PP l D base b sc (m, r, L', st, h) Q := hF2
      have hLv : L[mm_a ax 0]? = some (some (.int v)) := by
        unfold mm_lI at hv9
        split at hv9
        · next w hw => cases hv9; exact hw
        · cases hv9
      have hi : mm_a ax 0 < L.length ∧ L'.length = L.length := by
        unfold mm_st1 at hv8
        split at hv8
        · next hc9 => cases hv8; exact ⟨hc9.1, by simp⟩
        · cases hv8
      have k2 := fun ls' hls => k.2 p e R s0 M args below meth c Qc XC n0 w0 H locs cells slots ls' C hQ (hnx rfl).2 hR hS hls (hi.2.trans hn) hc hs
      rw [show mm_hd r = pc + 3 from (hnx rfl).1] at k2
      have hmem : (mm_a ax 0, Value.int v) ∈ mm_prs base b L := mm_prs_mem.mpr ⟨_, hLv, rfl⟩
      obtain ⟨j, hj⟩ := List.getElem?_of_mem hmem
      exact lv_iinc (v := v + x) hx hb (mm_dec_ok hok) hL.has hj (by rw [Int32.ofInt_toInt]) hi.1 rfl (fun ls' hls => k2 ls' (mm_Lr.st1 hv8 hls))

theorem mm_z0 {m pc : Nat} {x : Int32} {ax : List Nat} {r : List mm_Op} {L : mm_L} {st : List Value} {h : mm_H} {Q : mm_Q} (hF : mm_F (mm_PP l D base b sc) (m, (pc, 0, x, ax) :: r, L, st, h) Q) : mm_W l D base b sc (m, (pc, 0, x, ax) :: r, L, st, h) Q := by
  intro p e R s0 M args below meth c Qc XC n0 w0 H locs cells slots ls C hQ hv hR hS hL hn hc hs
  obtain ⟨⟨hx, hb, hrt, hlk, hml, hown⟩, hxt, hts, hnm, hEF, hm, hfr, hlo⟩ := id C
  obtain ⟨hok, hnx⟩ := mm_vl_c hv
  have k : mm_PP l D base b sc (m, mm_blk m (mm_a ax 0), L, st, h) Q := hF
  obtain ⟨off, hd, ht, hvb⟩ := mm_jmp_ok hm hok
  exact lv_goto hx hb hd ht (k.2 p e R s0 M args below meth c Qc XC n0 w0 H locs cells slots ls C hQ hvb hR hS hL hn hc hs)

theorem mm_z72 {m pc : Nat} {x : Int32} {ax : List Nat} {r : List mm_Op} {L : mm_L} {st : List Value} {h : mm_H} {Q : mm_Q} (hF : mm_F (mm_PP l D base b sc) (m, (pc, 72, x, ax) :: r, L, st, h) Q) : mm_W l D base b sc (m, (pc, 72, x, ax) :: r, L, st, h) Q := by
  intro p e R s0 M args below meth c Qc XC n0 w0 H locs cells slots ls C hQ hv hR hS hL hn hc hs
  obtain ⟨⟨hx, hb, hrt, hlk, hml, hown⟩, hxt, hts, hnm, hEF, hm, hfr, hlo⟩ := id C
  obtain ⟨hok, hnx⟩ := mm_vl_c hv
  have k : mm_PP l D base b sc (m, mm_blk m (mm_a ax 0), L, st, h) Q := hF
  have hok : ((mm_hd (mm_blk m (mm_a ax 0)) == pc) && decide (mm_a ax 0 < mm_nbk m)) = true := hok
  simp only [Bool.and_eq_true, beq_iff_eq, decide_eq_true_eq] at hok
  have k2 := k.2 p e R s0 M args below meth c Qc XC n0 w0 H locs cells slots ls C hQ (mm_vb hm hok.2) hR hS hL hn hc hs
  rw [show mm_hd (mm_blk m (mm_a ax 0)) = pc from hok.1] at k2
  exact k2

theorem mm_z28 {m pc : Nat} {x : Int32} {ax : List Nat} {r : List mm_Op} {L : mm_L} {st : List Value} {h : mm_H} {Q : mm_Q} (hF : mm_F (mm_PP l D base b sc) (m, (pc, 28, x, ax) :: r, L, st, h) Q) : mm_W l D base b sc (m, (pc, 28, x, ax) :: r, L, st, h) Q := by
  intro p e R s0 M args below meth c Qc XC n0 w0 H locs cells slots ls C hQ hv hR hS hL hn hc hs
  obtain ⟨⟨hx, hb, hrt, hlk, hml, hown⟩, hxt, hts, hnm, hEF, hm, hfr, hlo⟩ := id C
  obtain ⟨hok, hnx⟩ := mm_vl_c hv
  obtain ⟨off, hd, ht, hvb⟩ := mm_jmp_ok hm hok
  match st, hF with
  | .int z :: st, hF =>
    have hF2 : mm_F (mm_PP l D base b sc) (m, (pc, 28, x, ax) :: r, L, .int z :: st, h) Q := hF
    simp only [mm_F, mm_step, mm_op] at hF2
    refine lv_if_eq hx hb hd ht (fun hc9 => ?_) (fun hc9 => ?_)
    · rw [if_pos hc9] at hF2
      have k : mm_PP l D base b sc (m, (mm_blk m (mm_a ax 0)), L, st, h) Q := hF2
      exact k.2 p e R s0 M args below meth c Qc XC n0 w0 H locs cells slots ls C hQ hvb hR hS hL hn hc hs
    · rw [if_neg hc9] at hF2
      have k : mm_PP l D base b sc (m, r, L, st, h) Q := hF2
      have k2 := k.2 p e R s0 M args below meth c Qc XC n0 w0 H locs cells slots ls C hQ (hnx rfl).2 hR hS hL hn hc hs
      rw [show mm_hd r = pc + 3 from (hnx rfl).1] at k2
      exact k2

theorem mm_z29 {m pc : Nat} {x : Int32} {ax : List Nat} {r : List mm_Op} {L : mm_L} {st : List Value} {h : mm_H} {Q : mm_Q} (hF : mm_F (mm_PP l D base b sc) (m, (pc, 29, x, ax) :: r, L, st, h) Q) : mm_W l D base b sc (m, (pc, 29, x, ax) :: r, L, st, h) Q := by
  intro p e R s0 M args below meth c Qc XC n0 w0 H locs cells slots ls C hQ hv hR hS hL hn hc hs
  obtain ⟨⟨hx, hb, hrt, hlk, hml, hown⟩, hxt, hts, hnm, hEF, hm, hfr, hlo⟩ := id C
  obtain ⟨hok, hnx⟩ := mm_vl_c hv
  obtain ⟨off, hd, ht, hvb⟩ := mm_jmp_ok hm hok
  match st, hF with
  | .int z :: st, hF =>
    have hF2 : mm_F (mm_PP l D base b sc) (m, (pc, 29, x, ax) :: r, L, .int z :: st, h) Q := hF
    simp only [mm_F, mm_step, mm_op] at hF2
    refine lv_if_ne hx hb hd ht (fun hc9 => ?_) (fun hc9 => ?_)
    · rw [if_neg hc9] at hF2
      have k : mm_PP l D base b sc (m, (mm_blk m (mm_a ax 0)), L, st, h) Q := hF2
      exact k.2 p e R s0 M args below meth c Qc XC n0 w0 H locs cells slots ls C hQ hvb hR hS hL hn hc hs
    · rw [if_pos hc9] at hF2
      have k : mm_PP l D base b sc (m, r, L, st, h) Q := hF2
      have k2 := k.2 p e R s0 M args below meth c Qc XC n0 w0 H locs cells slots ls C hQ (hnx rfl).2 hR hS hL hn hc hs
      rw [show mm_hd r = pc + 3 from (hnx rfl).1] at k2
      exact k2

theorem mm_z30 {m pc : Nat} {x : Int32} {ax : List Nat} {r : List mm_Op} {L : mm_L} {st : List Value} {h : mm_H} {Q : mm_Q} (hF : mm_F (mm_PP l D base b sc) (m, (pc, 30, x, ax) :: r, L, st, h) Q) : mm_W l D base b sc (m, (pc, 30, x, ax) :: r, L, st, h) Q := by
  intro p e R s0 M args below meth c Qc XC n0 w0 H locs cells slots ls C hQ hv hR hS hL hn hc hs
  obtain ⟨⟨hx, hb, hrt, hlk, hml, hown⟩, hxt, hts, hnm, hEF, hm, hfr, hlo⟩ := id C
  obtain ⟨hok, hnx⟩ := mm_vl_c hv
  obtain ⟨off, hd, ht, hvb⟩ := mm_jmp_ok hm hok
  match st, hF with
  | .int z :: st, hF =>
    have hF2 : mm_F (mm_PP l D base b sc) (m, (pc, 30, x, ax) :: r, L, .int z :: st, h) Q := hF
    simp only [mm_F, mm_step, mm_op] at hF2
    refine lv_if_lt hx hb hd ht (fun hc9 => ?_) (fun hc9 => ?_)
    · rw [if_pos hc9] at hF2
      have k : mm_PP l D base b sc (m, (mm_blk m (mm_a ax 0)), L, st, h) Q := hF2
      exact k.2 p e R s0 M args below meth c Qc XC n0 w0 H locs cells slots ls C hQ hvb hR hS hL hn hc hs
    · rw [if_neg hc9] at hF2
      have k : mm_PP l D base b sc (m, r, L, st, h) Q := hF2
      have k2 := k.2 p e R s0 M args below meth c Qc XC n0 w0 H locs cells slots ls C hQ (hnx rfl).2 hR hS hL hn hc hs
      rw [show mm_hd r = pc + 3 from (hnx rfl).1] at k2
      exact k2

theorem mm_z31 {m pc : Nat} {x : Int32} {ax : List Nat} {r : List mm_Op} {L : mm_L} {st : List Value} {h : mm_H} {Q : mm_Q} (hF : mm_F (mm_PP l D base b sc) (m, (pc, 31, x, ax) :: r, L, st, h) Q) : mm_W l D base b sc (m, (pc, 31, x, ax) :: r, L, st, h) Q := by
  intro p e R s0 M args below meth c Qc XC n0 w0 H locs cells slots ls C hQ hv hR hS hL hn hc hs
  obtain ⟨⟨hx, hb, hrt, hlk, hml, hown⟩, hxt, hts, hnm, hEF, hm, hfr, hlo⟩ := id C
  obtain ⟨hok, hnx⟩ := mm_vl_c hv
  obtain ⟨off, hd, ht, hvb⟩ := mm_jmp_ok hm hok
  match st, hF with
  | .int z :: st, hF =>
    have hF2 : mm_F (mm_PP l D base b sc) (m, (pc, 31, x, ax) :: r, L, .int z :: st, h) Q := hF
    simp only [mm_F, mm_step, mm_op] at hF2
    refine lv_if_ge hx hb hd ht (fun hc9 => ?_) (fun hc9 => ?_)
    · rw [if_neg (Int32.not_lt.mpr hc9)] at hF2
      have k : mm_PP l D base b sc (m, (mm_blk m (mm_a ax 0)), L, st, h) Q := hF2
      exact k.2 p e R s0 M args below meth c Qc XC n0 w0 H locs cells slots ls C hQ hvb hR hS hL hn hc hs
    · rw [if_pos (Int32.not_le.mp hc9)] at hF2
      have k : mm_PP l D base b sc (m, r, L, st, h) Q := hF2
      have k2 := k.2 p e R s0 M args below meth c Qc XC n0 w0 H locs cells slots ls C hQ (hnx rfl).2 hR hS hL hn hc hs
      rw [show mm_hd r = pc + 3 from (hnx rfl).1] at k2
      exact k2

theorem mm_z32 {m pc : Nat} {x : Int32} {ax : List Nat} {r : List mm_Op} {L : mm_L} {st : List Value} {h : mm_H} {Q : mm_Q} (hF : mm_F (mm_PP l D base b sc) (m, (pc, 32, x, ax) :: r, L, st, h) Q) : mm_W l D base b sc (m, (pc, 32, x, ax) :: r, L, st, h) Q := by
  intro p e R s0 M args below meth c Qc XC n0 w0 H locs cells slots ls C hQ hv hR hS hL hn hc hs
  obtain ⟨⟨hx, hb, hrt, hlk, hml, hown⟩, hxt, hts, hnm, hEF, hm, hfr, hlo⟩ := id C
  obtain ⟨hok, hnx⟩ := mm_vl_c hv
  obtain ⟨off, hd, ht, hvb⟩ := mm_jmp_ok hm hok
  match st, hF with
  | .int z :: st, hF =>
    have hF2 : mm_F (mm_PP l D base b sc) (m, (pc, 32, x, ax) :: r, L, .int z :: st, h) Q := hF
    simp only [mm_F, mm_step, mm_op] at hF2
    refine lv_if_gt hx hb hd ht (fun hc9 => ?_) (fun hc9 => ?_)
    · rw [if_pos hc9] at hF2
      have k : mm_PP l D base b sc (m, (mm_blk m (mm_a ax 0)), L, st, h) Q := hF2
      exact k.2 p e R s0 M args below meth c Qc XC n0 w0 H locs cells slots ls C hQ hvb hR hS hL hn hc hs
    · rw [if_neg hc9] at hF2
      have k : mm_PP l D base b sc (m, r, L, st, h) Q := hF2
      have k2 := k.2 p e R s0 M args below meth c Qc XC n0 w0 H locs cells slots ls C hQ (hnx rfl).2 hR hS hL hn hc hs
      rw [show mm_hd r = pc + 3 from (hnx rfl).1] at k2
      exact k2

theorem mm_z33 {m pc : Nat} {x : Int32} {ax : List Nat} {r : List mm_Op} {L : mm_L} {st : List Value} {h : mm_H} {Q : mm_Q} (hF : mm_F (mm_PP l D base b sc) (m, (pc, 33, x, ax) :: r, L, st, h) Q) : mm_W l D base b sc (m, (pc, 33, x, ax) :: r, L, st, h) Q := by
  intro p e R s0 M args below meth c Qc XC n0 w0 H locs cells slots ls C hQ hv hR hS hL hn hc hs
  obtain ⟨⟨hx, hb, hrt, hlk, hml, hown⟩, hxt, hts, hnm, hEF, hm, hfr, hlo⟩ := id C
  obtain ⟨hok, hnx⟩ := mm_vl_c hv
  obtain ⟨off, hd, ht, hvb⟩ := mm_jmp_ok hm hok
  match st, hF with
  | .int z :: st, hF =>
    have hF2 : mm_F (mm_PP l D base b sc) (m, (pc, 33, x, ax) :: r, L, .int z :: st, h) Q := hF
    simp only [mm_F, mm_step, mm_op] at hF2
    refine lv_if_le hx hb hd ht (fun hc9 => ?_) (fun hc9 => ?_)
    · rw [if_neg (Int32.not_lt.mpr hc9)] at hF2
      have k : mm_PP l D base b sc (m, (mm_blk m (mm_a ax 0)), L, st, h) Q := hF2
      exact k.2 p e R s0 M args below meth c Qc XC n0 w0 H locs cells slots ls C hQ hvb hR hS hL hn hc hs
    · rw [if_pos (Int32.not_le.mp hc9)] at hF2
      have k : mm_PP l D base b sc (m, r, L, st, h) Q := hF2
      have k2 := k.2 p e R s0 M args below meth c Qc XC n0 w0 H locs cells slots ls C hQ (hnx rfl).2 hR hS hL hn hc hs
      rw [show mm_hd r = pc + 3 from (hnx rfl).1] at k2
      exact k2

theorem mm_z34 {m pc : Nat} {x : Int32} {ax : List Nat} {r : List mm_Op} {L : mm_L} {st : List Value} {h : mm_H} {Q : mm_Q} (hF : mm_F (mm_PP l D base b sc) (m, (pc, 34, x, ax) :: r, L, st, h) Q) : mm_W l D base b sc (m, (pc, 34, x, ax) :: r, L, st, h) Q := by
  intro p e R s0 M args below meth c Qc XC n0 w0 H locs cells slots ls C hQ hv hR hS hL hn hc hs
  obtain ⟨⟨hx, hb, hrt, hlk, hml, hown⟩, hxt, hts, hnm, hEF, hm, hfr, hlo⟩ := id C
  obtain ⟨hok, hnx⟩ := mm_vl_c hv
  obtain ⟨off, hd, ht, hvb⟩ := mm_jmp_ok hm hok
  match st, hF with
  | .int y :: .int z :: st, hF =>
    have hF2 : mm_F (mm_PP l D base b sc) (m, (pc, 34, x, ax) :: r, L, .int y :: .int z :: st, h) Q := hF
    simp only [mm_F, mm_step, mm_op] at hF2
    refine lv_icmp_eq hx hb hd ht (fun hc9 => ?_) (fun hc9 => ?_)
    · rw [if_pos hc9] at hF2
      have k : mm_PP l D base b sc (m, (mm_blk m (mm_a ax 0)), L, st, h) Q := hF2
      exact k.2 p e R s0 M args below meth c Qc XC n0 w0 H locs cells slots ls C hQ hvb hR hS hL hn hc hs
    · rw [if_neg hc9] at hF2
      have k : mm_PP l D base b sc (m, r, L, st, h) Q := hF2
      have k2 := k.2 p e R s0 M args below meth c Qc XC n0 w0 H locs cells slots ls C hQ (hnx rfl).2 hR hS hL hn hc hs
      rw [show mm_hd r = pc + 3 from (hnx rfl).1] at k2
      exact k2

theorem mm_z35 {m pc : Nat} {x : Int32} {ax : List Nat} {r : List mm_Op} {L : mm_L} {st : List Value} {h : mm_H} {Q : mm_Q} (hF : mm_F (mm_PP l D base b sc) (m, (pc, 35, x, ax) :: r, L, st, h) Q) : mm_W l D base b sc (m, (pc, 35, x, ax) :: r, L, st, h) Q := by
  intro p e R s0 M args below meth c Qc XC n0 w0 H locs cells slots ls C hQ hv hR hS hL hn hc hs
  obtain ⟨⟨hx, hb, hrt, hlk, hml, hown⟩, hxt, hts, hnm, hEF, hm, hfr, hlo⟩ := id C
  obtain ⟨hok, hnx⟩ := mm_vl_c hv
  obtain ⟨off, hd, ht, hvb⟩ := mm_jmp_ok hm hok
  match st, hF with
  | .int y :: .int z :: st, hF =>
    have hF2 : mm_F (mm_PP l D base b sc) (m, (pc, 35, x, ax) :: r, L, .int y :: .int z :: st, h) Q := hF
    simp only [mm_F, mm_step, mm_op] at hF2
    refine lv_icmp_ne hx hb hd ht (fun hc9 => ?_) (fun hc9 => ?_)
    · rw [if_neg hc9] at hF2
      have k : mm_PP l D base b sc (m, (mm_blk m (mm_a ax 0)), L, st, h) Q := hF2
      exact k.2 p e R s0 M args below meth c Qc XC n0 w0 H locs cells slots ls C hQ hvb hR hS hL hn hc hs
    · rw [if_pos hc9] at hF2
      have k : mm_PP l D base b sc (m, r, L, st, h) Q := hF2
      have k2 := k.2 p e R s0 M args below meth c Qc XC n0 w0 H locs cells slots ls C hQ (hnx rfl).2 hR hS hL hn hc hs
      rw [show mm_hd r = pc + 3 from (hnx rfl).1] at k2
      exact k2

theorem mm_z36 {m pc : Nat} {x : Int32} {ax : List Nat} {r : List mm_Op} {L : mm_L} {st : List Value} {h : mm_H} {Q : mm_Q} (hF : mm_F (mm_PP l D base b sc) (m, (pc, 36, x, ax) :: r, L, st, h) Q) : mm_W l D base b sc (m, (pc, 36, x, ax) :: r, L, st, h) Q := by
  intro p e R s0 M args below meth c Qc XC n0 w0 H locs cells slots ls C hQ hv hR hS hL hn hc hs
  obtain ⟨⟨hx, hb, hrt, hlk, hml, hown⟩, hxt, hts, hnm, hEF, hm, hfr, hlo⟩ := id C
  obtain ⟨hok, hnx⟩ := mm_vl_c hv
  obtain ⟨off, hd, ht, hvb⟩ := mm_jmp_ok hm hok
  match st, hF with
  | .int y :: .int z :: st, hF =>
    have hF2 : mm_F (mm_PP l D base b sc) (m, (pc, 36, x, ax) :: r, L, .int y :: .int z :: st, h) Q := hF
    simp only [mm_F, mm_step, mm_op] at hF2
    refine lv_icmp_lt hx hb hd ht (fun hc9 => ?_) (fun hc9 => ?_)
    · rw [if_pos hc9] at hF2
      have k : mm_PP l D base b sc (m, (mm_blk m (mm_a ax 0)), L, st, h) Q := hF2
      exact k.2 p e R s0 M args below meth c Qc XC n0 w0 H locs cells slots ls C hQ hvb hR hS hL hn hc hs
    · rw [if_neg hc9] at hF2
      have k : mm_PP l D base b sc (m, r, L, st, h) Q := hF2
      have k2 := k.2 p e R s0 M args below meth c Qc XC n0 w0 H locs cells slots ls C hQ (hnx rfl).2 hR hS hL hn hc hs
      rw [show mm_hd r = pc + 3 from (hnx rfl).1] at k2
      exact k2

theorem mm_z37 {m pc : Nat} {x : Int32} {ax : List Nat} {r : List mm_Op} {L : mm_L} {st : List Value} {h : mm_H} {Q : mm_Q} (hF : mm_F (mm_PP l D base b sc) (m, (pc, 37, x, ax) :: r, L, st, h) Q) : mm_W l D base b sc (m, (pc, 37, x, ax) :: r, L, st, h) Q := by
  intro p e R s0 M args below meth c Qc XC n0 w0 H locs cells slots ls C hQ hv hR hS hL hn hc hs
  obtain ⟨⟨hx, hb, hrt, hlk, hml, hown⟩, hxt, hts, hnm, hEF, hm, hfr, hlo⟩ := id C
  obtain ⟨hok, hnx⟩ := mm_vl_c hv
  obtain ⟨off, hd, ht, hvb⟩ := mm_jmp_ok hm hok
  match st, hF with
  | .int y :: .int z :: st, hF =>
    have hF2 : mm_F (mm_PP l D base b sc) (m, (pc, 37, x, ax) :: r, L, .int y :: .int z :: st, h) Q := hF
    simp only [mm_F, mm_step, mm_op] at hF2
    refine lv_icmp_ge hx hb hd ht (fun hc9 => ?_) (fun hc9 => ?_)
    · rw [if_neg (Int32.not_lt.mpr hc9)] at hF2
      have k : mm_PP l D base b sc (m, (mm_blk m (mm_a ax 0)), L, st, h) Q := hF2
      exact k.2 p e R s0 M args below meth c Qc XC n0 w0 H locs cells slots ls C hQ hvb hR hS hL hn hc hs
    · rw [if_pos (Int32.not_le.mp hc9)] at hF2
      have k : mm_PP l D base b sc (m, r, L, st, h) Q := hF2
      have k2 := k.2 p e R s0 M args below meth c Qc XC n0 w0 H locs cells slots ls C hQ (hnx rfl).2 hR hS hL hn hc hs
      rw [show mm_hd r = pc + 3 from (hnx rfl).1] at k2
      exact k2

theorem mm_z38 {m pc : Nat} {x : Int32} {ax : List Nat} {r : List mm_Op} {L : mm_L} {st : List Value} {h : mm_H} {Q : mm_Q} (hF : mm_F (mm_PP l D base b sc) (m, (pc, 38, x, ax) :: r, L, st, h) Q) : mm_W l D base b sc (m, (pc, 38, x, ax) :: r, L, st, h) Q := by
  intro p e R s0 M args below meth c Qc XC n0 w0 H locs cells slots ls C hQ hv hR hS hL hn hc hs
  obtain ⟨⟨hx, hb, hrt, hlk, hml, hown⟩, hxt, hts, hnm, hEF, hm, hfr, hlo⟩ := id C
  obtain ⟨hok, hnx⟩ := mm_vl_c hv
  obtain ⟨off, hd, ht, hvb⟩ := mm_jmp_ok hm hok
  match st, hF with
  | .int y :: .int z :: st, hF =>
    have hF2 : mm_F (mm_PP l D base b sc) (m, (pc, 38, x, ax) :: r, L, .int y :: .int z :: st, h) Q := hF
    simp only [mm_F, mm_step, mm_op] at hF2
    refine lv_icmp_gt hx hb hd ht (fun hc9 => ?_) (fun hc9 => ?_)
    · rw [if_pos hc9] at hF2
      have k : mm_PP l D base b sc (m, (mm_blk m (mm_a ax 0)), L, st, h) Q := hF2
      exact k.2 p e R s0 M args below meth c Qc XC n0 w0 H locs cells slots ls C hQ hvb hR hS hL hn hc hs
    · rw [if_neg hc9] at hF2
      have k : mm_PP l D base b sc (m, r, L, st, h) Q := hF2
      have k2 := k.2 p e R s0 M args below meth c Qc XC n0 w0 H locs cells slots ls C hQ (hnx rfl).2 hR hS hL hn hc hs
      rw [show mm_hd r = pc + 3 from (hnx rfl).1] at k2
      exact k2

theorem mm_z39 {m pc : Nat} {x : Int32} {ax : List Nat} {r : List mm_Op} {L : mm_L} {st : List Value} {h : mm_H} {Q : mm_Q} (hF : mm_F (mm_PP l D base b sc) (m, (pc, 39, x, ax) :: r, L, st, h) Q) : mm_W l D base b sc (m, (pc, 39, x, ax) :: r, L, st, h) Q := by
  intro p e R s0 M args below meth c Qc XC n0 w0 H locs cells slots ls C hQ hv hR hS hL hn hc hs
  obtain ⟨⟨hx, hb, hrt, hlk, hml, hown⟩, hxt, hts, hnm, hEF, hm, hfr, hlo⟩ := id C
  obtain ⟨hok, hnx⟩ := mm_vl_c hv
  obtain ⟨off, hd, ht, hvb⟩ := mm_jmp_ok hm hok
  match st, hF with
  | .int y :: .int z :: st, hF =>
    have hF2 : mm_F (mm_PP l D base b sc) (m, (pc, 39, x, ax) :: r, L, .int y :: .int z :: st, h) Q := hF
    simp only [mm_F, mm_step, mm_op] at hF2
    refine lv_icmp_le hx hb hd ht (fun hc9 => ?_) (fun hc9 => ?_)
    · rw [if_neg (Int32.not_lt.mpr hc9)] at hF2
      have k : mm_PP l D base b sc (m, (mm_blk m (mm_a ax 0)), L, st, h) Q := hF2
      exact k.2 p e R s0 M args below meth c Qc XC n0 w0 H locs cells slots ls C hQ hvb hR hS hL hn hc hs
    · rw [if_pos (Int32.not_le.mp hc9)] at hF2
      have k : mm_PP l D base b sc (m, r, L, st, h) Q := hF2
      have k2 := k.2 p e R s0 M args below meth c Qc XC n0 w0 H locs cells slots ls C hQ (hnx rfl).2 hR hS hL hn hc hs
      rw [show mm_hd r = pc + 3 from (hnx rfl).1] at k2
      exact k2

theorem mm_z40 {m pc : Nat} {x : Int32} {ax : List Nat} {r : List mm_Op} {L : mm_L} {st : List Value} {h : mm_H} {Q : mm_Q} (hF : mm_F (mm_PP l D base b sc) (m, (pc, 40, x, ax) :: r, L, st, h) Q) : mm_W l D base b sc (m, (pc, 40, x, ax) :: r, L, st, h) Q := by
  intro p e R s0 M args below meth c Qc XC n0 w0 H locs cells slots ls C hQ hv hR hS hL hn hc hs
  obtain ⟨⟨hx, hb, hrt, hlk, hml, hown⟩, hxt, hts, hnm, hEF, hm, hfr, hlo⟩ := id C
  obtain ⟨hok, hnx⟩ := mm_vl_c hv
  match st, hF with
  | .int z :: st, hF =>
    have k : mm_PP l D base b sc (m, mm_blk m (mm_sw x ax z), L, st, h) Q := hF
    have hok : (match decode (mm_cc m) pc with
      | .ok (.tableswitch d lo hi offs, _) => decide (lo = x.toInt) && decide (hi = x.toInt + (ax.length : Int) - 2) && decide (d = (mm_hd (mm_blk m (ax.getD 0 0)) : Int) - (pc : Int)) && decide (offs.size + 1 = ax.length) && ((List.range offs.size).all fun k => decide (offs.getD k 0 = (mm_hd (mm_blk m (ax.getD (k + 1) 0)) : Int) - (pc : Int))) && (ax.all fun b => decide (b < mm_nbk m))
      | _ => false) = true := hok
    split at hok
    · next d lo hi offs len hd =>
      simp only [Bool.and_eq_true, decide_eq_true_eq, List.all_eq_true, List.mem_range] at hok
      obtain ⟨⟨⟨⟨⟨h1, h2⟩, h3⟩, h4⟩, h5⟩, h6⟩ := hok
      subst h1
      have hal : 0 < ax.length := by omega
      by_cases hin : x.toInt ≤ z.toInt ∧ (z.toInt - x.toInt).toNat + 1 < ax.length
      · have hsw : mm_sw x ax z = ax.getD ((z.toInt - x.toInt).toNat + 1) 0 := by
          unfold mm_sw
          rw [if_pos ⟨Int32.le_iff_toInt_le.mpr hin.1, hin.2⟩]
        rw [hsw] at k
        have hmem : ax.getD ((z.toInt - x.toInt).toNat + 1) 0 ∈ ax := mm_getD_mem hin.2
        have hk : (z.toInt - x.toInt).toNat < offs.size := by omega
        refine lv_tableIn hx hb hd (by omega) (by omega) (off := offs.getD (z.toInt - x.toInt).toNat 0) (by simp [hk]) (tgt := mm_hd (mm_blk m (ax.getD ((z.toInt - x.toInt).toNat + 1) 0))) (by show ((pc : Nat) : Int) + _ = _; rw [h5 _ hk]; omega) ?_
        exact k.2 p e R s0 M args below meth c Qc XC n0 w0 H locs cells slots ls C hQ (mm_vb hm (h6 _ hmem)) hR hS hL hn hc hs
      · have hsw : mm_sw x ax z = ax.getD 0 0 := by
          unfold mm_sw
          rw [if_neg]
          rintro ⟨a1, a2⟩
          exact hin ⟨Int32.le_iff_toInt_le.mp a1, a2⟩
        rw [hsw] at k
        have hmem : ax.getD 0 0 ∈ ax := mm_getD_mem hal
        refine lv_tableOut hx hb hd (by omega) (tgt := mm_hd (mm_blk m (ax.getD 0 0))) (by show ((pc : Nat) : Int) + _ = _; omega) ?_
        exact k.2 p e R s0 M args below meth c Qc XC n0 w0 H locs cells slots ls C hQ (mm_vb hm (h6 _ hmem)) hR hS hL hn hc hs
    · cases hok

theorem mm_z41 {m pc : Nat} {x : Int32} {ax : List Nat} {r : List mm_Op} {L : mm_L} {st : List Value} {h : mm_H} {Q : mm_Q} (hF : mm_F (mm_PP l D base b sc) (m, (pc, 41, x, ax) :: r, L, st, h) Q) : mm_W l D base b sc (m, (pc, 41, x, ax) :: r, L, st, h) Q := by
  intro p e R s0 M args below meth c Qc XC n0 w0 H locs cells slots ls C hQ hv hR hS hL hn hc hs
  obtain ⟨⟨hx, hb, hrt, hlk, hml, hown⟩, hxt, hts, hnm, hEF, hm, hfr, hlo⟩ := id C
  obtain ⟨hok, hnx⟩ := mm_vl_c hv
  have hok2 : (mm_dec m pc .ireturn 1 && decide (mm_rt m = some .int)) = true := hok
  simp only [Bool.and_eq_true, decide_eq_true_eq] at hok2
  match st, hF with
  | [.int z], hF =>
    have k : Q (.inl (some (.int z))) h := hF
    have hn0 := (hQ.2.2 _ _ k)
    have hc : cells + n0 = mm_n h := hc
    have hs : slots + w0 = mm_w h := hs
    refine W.widen (k := R.cells) (n := R.slots) (by omega) (by omega) ?_
    refine vx_ret ?_
    exact W.iret hx hb (hrt.trans hok2.2) (fun t ht hW => hQ.1 _ _ k t (by rw [ht]; exact hR) (hS.F ht) hW.alike) hS.2.2 (mm_dec_ok hok2.1)

theorem mm_z42 {m pc : Nat} {x : Int32} {ax : List Nat} {r : List mm_Op} {L : mm_L} {st : List Value} {h : mm_H} {Q : mm_Q} (hF : mm_F (mm_PP l D base b sc) (m, (pc, 42, x, ax) :: r, L, st, h) Q) : mm_W l D base b sc (m, (pc, 42, x, ax) :: r, L, st, h) Q := by
  intro p e R s0 M args below meth c Qc XC n0 w0 H locs cells slots ls C hQ hv hR hS hL hn hc hs
  obtain ⟨⟨hx, hb, hrt, hlk, hml, hown⟩, hxt, hts, hnm, hEF, hm, hfr, hlo⟩ := id C
  obtain ⟨hok, hnx⟩ := mm_vl_c hv
  have hok2 : (mm_dec m pc .ireturn 1 && decide (mm_rt m = some .boolean)) = true := hok
  simp only [Bool.and_eq_true, decide_eq_true_eq] at hok2
  match st, hF with
  | [.int z], hF =>
    by_cases hc9 : z = 0 ∨ z = 1
    case neg =>
      simp only [mm_F, mm_step, mm_op, hc9, if_false] at hF
    have k : Q (.inl (some (.int z))) h := by
      have hF2 := hF
      simp only [mm_F, mm_step, mm_op, hc9, if_true] at hF2
      exact hF2
    have hn0 := (hQ.2.2 _ _ k)
    have hc : cells + n0 = mm_n h := hc
    have hs : slots + w0 = mm_w h := hs
    refine W.widen (k := R.cells) (n := R.slots) (by omega) (by omega) ?_
    refine vx_ret ?_
    exact W.zret hx hb (hrt.trans hok2.2) (by rcases hc9 with rfl | rfl <;> rfl) (fun t ht hW => hQ.1 _ _ k t (by rw [ht]; exact hR) (hS.F ht) hW.alike) hS.2.2 (mm_dec_ok hok2.1)

theorem mm_z43 {m pc : Nat} {x : Int32} {ax : List Nat} {r : List mm_Op} {L : mm_L} {st : List Value} {h : mm_H} {Q : mm_Q} (hF : mm_F (mm_PP l D base b sc) (m, (pc, 43, x, ax) :: r, L, st, h) Q) : mm_W l D base b sc (m, (pc, 43, x, ax) :: r, L, st, h) Q := by
  intro p e R s0 M args below meth c Qc XC n0 w0 H locs cells slots ls C hQ hv hR hS hL hn hc hs
  obtain ⟨⟨hx, hb, hrt, hlk, hml, hown⟩, hxt, hts, hnm, hEF, hm, hfr, hlo⟩ := id C
  obtain ⟨hok, hnx⟩ := mm_vl_c hv
  have hok2 : (mm_dec m pc .ireturn 1 && decide (mm_rt m = some .char)) = true := hok
  simp only [Bool.and_eq_true, decide_eq_true_eq] at hok2
  match st, hF with
  | [.int z], hF =>
    by_cases hc9 : (z.toUInt32 % 65536).toInt32 = z
    case neg =>
      simp only [mm_F, mm_step, mm_op, hc9, if_false] at hF
    have k : Q (.inl (some (.int z))) h := by
      have hF2 := hF
      simp only [mm_F, mm_step, mm_op, hc9, if_true] at hF2
      exact hF2
    have hn0 := (hQ.2.2 _ _ k)
    have hc : cells + n0 = mm_n h := hc
    have hs : slots + w0 = mm_w h := hs
    refine W.widen (k := R.cells) (n := R.slots) (by omega) (by omega) ?_
    refine vx_ret ?_
    exact W.zret hx hb (hrt.trans hok2.2) (by show Value.int _ = _; exact congrArg Value.int hc9) (fun t ht hW => hQ.1 _ _ k t (by rw [ht]; exact hR) (hS.F ht) hW.alike) hS.2.2 (mm_dec_ok hok2.1)

theorem mm_z44 {m pc : Nat} {x : Int32} {ax : List Nat} {r : List mm_Op} {L : mm_L} {st : List Value} {h : mm_H} {Q : mm_Q} (hF : mm_F (mm_PP l D base b sc) (m, (pc, 44, x, ax) :: r, L, st, h) Q) : mm_W l D base b sc (m, (pc, 44, x, ax) :: r, L, st, h) Q := by
  intro p e R s0 M args below meth c Qc XC n0 w0 H locs cells slots ls C hQ hv hR hS hL hn hc hs
  obtain ⟨⟨hx, hb, hrt, hlk, hml, hown⟩, hxt, hts, hnm, hEF, hm, hfr, hlo⟩ := id C
  obtain ⟨hok, hnx⟩ := mm_vl_c hv
  have hok2 : (mm_dec m pc .return_ 1 && decide (mm_rt m = none)) = true := hok
  simp only [Bool.and_eq_true, decide_eq_true_eq] at hok2
  match st, hF with
  | [], hF =>
    have k : Q (.inl none) h := hF
    have hn0 := (hQ.2.2 _ _ k)
    have hc : cells + n0 = mm_n h := hc
    have hs : slots + w0 = mm_w h := hs
    refine W.widen (k := R.cells) (n := R.slots) (by omega) (by omega) ?_
    refine vx_ret ?_
    exact W.vret hx hb (hrt.trans hok2.2) (fun t ht hW => hQ.1 _ _ k t (by rw [ht]; exact hR) (hS.F ht) hW.alike) hS.2.2 (mm_dec_ok hok2.1)

end MMS
