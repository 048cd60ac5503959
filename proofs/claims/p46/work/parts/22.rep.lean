/-! the small machine's heap in the machine's heap; what holds at a method's entry -/
abbrev mm_D : Type := va_G × (Nat → ClassId)
def mm_tr (base b : Nat) : Value → Value
  | .ref k => .ref (base + k)
  | .float _ => .ref b
  | v => v
theorem mm_tr_cat (base b : Nat) (v : Value) : (mm_tr base b v).category = v.category := by cases v <;> rfl
theorem mm_tr_wt (base b : Nat) (st : List Value) : ((st.map (mm_tr base b)).map fun v => v.category).sum = mm_wt st := by
  unfold mm_wt
  rw [List.map_map]
  congr 1
  apply List.map_congr_left
  intro v _
  exact mm_tr_cat base b v
def mm_e (base : Nat) (dA : Nat → ClassId) (h : mm_H) (a : Nat) : va_E :=
  if (h.2.1 a).1 < 6 then .inr ((h.2.1 a).1, (List.range (mm_nf (h.2.1 a).1)).map fun k => if mm_isR (h.2.1 a).1 k = true then va_rf (((h.2.1 a).2.2 k).map fun q => base + q) else .int (h.2.2.1 a k))
  else if (h.2.1 a).1 = 15 then .inl (dA 15, (h.2.1 a).2.1, .inr (.inl fun _ => h.2.2.2.1))
  else if (h.2.1 a).1 = 13 ∨ (h.2.1 a).1 = 14 then .inl (dA (h.2.1 a).1, (h.2.1 a).2.1, .inr (.inr (.inr (.inr fun j => ((h.2.1 a).2.2 j).map fun q => base + q))))
  else .inl (dA (h.2.1 a).1, (h.2.1 a).2.1, .inl (h.2.2.1 a))
def mm_n (h : mm_H) : Nat := h.2.2.2.2.1.1 + h.2.2.2.2.2
def mm_w (h : mm_H) : Nat := h.2.2.2.2.1.2 + 6 * h.2.2.2.2.2
def mm_Rep (D : mm_D) (base : Nat) (sc : Nat × (Nat → Int32)) (h : mm_H) (H : Heap) : Prop :=
  h.1 = sc ∧ (base + h.2.2.2.2.1.1 ≤ H.size ∧ (h.2.2.2.2.2 = 0 → H.size = base + h.2.2.2.2.1.1)) ∧ ∀ a, a < h.2.2.2.2.1.1 → va_at D.1 vwCl (base + a, mm_e base D.2 h a) H
theorem mm_Rep.set {D : mm_D} {base : Nat} {sc : Nat × (Nat → Int32)} {h h' : mm_H} {H H1 : Heap} {a : Nat} (hR : mm_Rep D base sc h H) (z : H1.size = H.size) (oq : ∀ q : Nat, q ≠ base + a → H1[q]? = H[q]?)
    (e1 : h'.1 = h.1) (e2 : h'.2.2.2.2 = h.2.2.2.2) (e3 : ∀ k, k ≠ a → k < h.2.2.2.2.1.1 → mm_e base D.2 h' k = mm_e base D.2 h k) (e4 : va_at D.1 vwCl (base + a, mm_e base D.2 h' a) H1) : mm_Rep D base sc h' H1 := by
  obtain ⟨r1, r2, r3⟩ := hR
  refine ⟨e1.trans r1, ?_, fun k hk => ?_⟩
  · rw [z, e2]; exact r2
  · by_cases hka : k = a
    · subst hka; exact e4
    · rw [e2] at hk
      rw [e3 k hka hk]
      exact (r3 k hk).kept (oq _ (by show base + k ≠ base + a; omega))
/-- where the words that a callee can't take stand: they are carried -/
def mm_nw : List Cond := lw_tbl.filter fun w => match w with
  | .castable _ _ => true
  | .declares _ => true
  | .methodLinkNest _ _ _ _ => true
  | _ => false
def mm_exc (E : Nat) : String := match E with
  | 0 => "java/lang/IndexOutOfBoundsException"
  | 1 => "java/lang/IllegalArgumentException"
  | _ => "java/lang/IllegalStateException"
/-- the messages: the constant's place, its text -/
def mm_msg : List (Nat × String) := [(58, "the text is full"), (74, "the text is not a piece"), (199, "the key is up"), (228, "no state is remembered"), (274, "nothing has been saved in the slot"), (278, "there is no such voice"), (281, "there is no such key"), (283, "there is no such save slot"), (287, "an argument is out of its range"), (290, "the key is down")]
def mm_tys (D : mm_D) : List (ClassId × FieldType) := [(D.2 10, .int), (D.2 11, .boolean), (D.2 12, .char), (D.2 13, .object RX4), (D.2 14, .object RX3)]
/-- what holds at every entry -/
def mm_EF (D : mm_D) (base b : Nat) (sc : Nat × (Nat → Int32)) (U : State) : Prop :=
  va_K D.1 vwCl (mm_tys D) U ∧ (vx_Zq Bundle.tN "UNASSIGNED_STACK" Bundle.steD (fun q => base ≤ q) U U.heap ∧ vx_Zq Bundle.tN "SUPPRESSED_SENTINEL" Bundle.listD (fun q => base ≤ q) U U.heap) ∧
  (∀ q ∈ mm_msg, ∃ sa, vk_R RX5 q.1 q.2 sa U) ∧ (∀ w ∈ mm_nw, va_Nw w U) ∧ (va_AO RX4 U ∧ va_AO RX3 U) ∧
  (∀ E, E < 3 → ∀ F, F < 3 → E ≠ F → va_Nc (mm_exc E) (mm_exc F) U) ∧ (va_X b sc.1 sc.2 U U.heap ∧ b < base ∧ base ≤ U.heap.size ∧ sc.1 < 2 ^ 31)
theorem mm_nw_moved {s U : State} (hW : s.WarmedH U.vm) {w : Cond} (hw : w ∈ mm_nw) (h : va_Nw w s) : va_Nw w U := by
  have h1 := (List.mem_filter.mp hw).2
  cases w <;> first | exact va_Nw.warmC hW h | exact va_Nw.warmD hW h | exact va_Nw.warmM hW h | (simp at h1)
theorem mm_EF.moved {D : mm_D} {base b : Nat} {sc : Nat × (Nat → Int32)} {s U : State} (h : mm_EF D base b sc s) (hW : s.WarmedH U.vm) (hz : base ≤ U.heap.size) (hq : ∀ q : Nat, q < base → U.heap[q]? = s.heap[q]?) : mm_EF D base b sc U := by
  obtain ⟨h1, ⟨h2, h3⟩, h4, h5, ⟨h6, h7⟩, h8, h9, h10, h11, h12⟩ := h
  have ho : ∀ a : Nat, a < s.heap.size → ¬ base ≤ a → U.heap[a]? = s.heap[a]? := fun a _ ha => hq a (by omega)
  exact ⟨h1.moved hW.alike, ⟨vx_Zq.moved hW.alike (h2.kept ho), vx_Zq.moved hW.alike (h3.kept ho)⟩, fun q hm => by
    obtain ⟨sa, hs⟩ := h4 q hm
    exact ⟨sa, vk_R.warm hW hs⟩, fun w hw => mm_nw_moved hW hw (h5 w hw), ⟨h6.moved hW.alike, h7.moved hW.alike⟩, fun E hE F hF hne => (h8 E hE F hF hne).moved hW.alike,
    va_X.moved hW.alike (h9.kept (hq b h10)), h10, hz, h12⟩
/-- locals -/
def mm_Lr (base b : Nat) (ls : Array Slot) (L : mm_L) : Prop := ls.size = L.length ∧ lv_wf ls ∧ ∀ (k : Nat) (v : Value), L[k]? = some (some v) → ls[k]? = some (.val (mm_tr base b v))
def mm_prs (base b : Nat) (L : mm_L) : List (Nat × Value) := (List.range L.length).filterMap fun k => match L[k]? with
  | some (some v) => some (k, mm_tr base b v)
  | _ => none
theorem mm_prs_mem {base b : Nat} {L : mm_L} {q : Nat × Value} : q ∈ mm_prs base b L ↔ ∃ v, L[q.1]? = some (some v) ∧ q.2 = mm_tr base b v := by
  unfold mm_prs
  rw [List.mem_filterMap]
  constructor
  · rintro ⟨k, hk, he⟩
    split at he
    · next v hv =>
      cases he
      exact ⟨v, hv, rfl⟩
    · cases he
  · rintro ⟨v, h1, h2⟩
    refine ⟨q.1, List.mem_range.mpr (List.getElem?_eq_some_iff.mp h1).1, ?_⟩
    rw [h1]
    simp [← h2]
theorem mm_Lr.has {base b : Nat} {ls : Array Slot} {L : mm_L} (h : mm_Lr base b ls L) : lv_has ls L.length (mm_prs base b L) := by
  refine ⟨h.1, h.2.1, fun q hq => ?_⟩
  obtain ⟨v, h1, h2⟩ := mm_prs_mem.mp hq
  rw [h2]
  exact h.2.2 q.1 v h1
theorem mm_Lr.st1 {base b : Nat} {ls' : Array Slot} {L L' : mm_L} {i : Nat} {v : Value} (hL : mm_st1 L i v = some L') (h : lv_has ls' L.length ((i, mm_tr base b v) :: (mm_prs base b L).filter (fun q => !(q.1 == i) && !(q.1 + 1 == i && q.2.category == 2)))) : mm_Lr base b ls' L' := by
  unfold mm_st1 at hL
  split at hL
  · next hc =>
    cases hL
    refine ⟨by rw [List.length_set]; exact h.1, h.2.1, fun k w hk => ?_⟩
    by_cases hki : k = i
    · subst hki
      rw [List.getElem?_set_self hc.1] at hk
      cases hk
      exact h.2.2 _ List.mem_cons_self
    · rw [List.getElem?_set_ne (Ne.symm hki)] at hk
      refine h.2.2 (k, mm_tr base b w) (List.mem_cons_of_mem _ (List.mem_filter.mpr ⟨mm_prs_mem.mpr ⟨w, hk, rfl⟩, ?_⟩))
      simp only [Bool.and_eq_true, Bool.not_eq_true', beq_eq_false_iff_ne, Bool.and_eq_false_iff]
      refine ⟨hki, ?_⟩
      by_cases h2 : k + 1 = i
      · right
        intro hcat
        have hcat' : (mm_tr base b w).category = 2 := hcat
        rw [mm_tr_cat] at hcat'
        have hk' : i - 1 = k := by omega
        rcases hc.2 with h0 | h0
        · omega
        · rw [hk'] at h0
          cases w with
          | long x => simp [mm_isJ, hk] at h0
          | double x => simp [mm_isJ, hk] at h0
          | _ => cases hcat'
      · left
        exact h2
  · cases hL
theorem mm_Lr.st2 {base b : Nat} {ls' : Array Slot} {L L' : mm_L} {i : Nat} {v : Value} (hL : mm_st2 L i v = some L') (h : lv_has ls' L.length ((i, mm_tr base b v) :: (mm_prs base b L).filter (fun q => !(q.1 == i) && (!(q.1 == i + 1) && !(q.1 + 1 == i && q.2.category == 2))))) : mm_Lr base b ls' L' := by
  unfold mm_st2 at hL
  split at hL
  · next hc =>
    cases hL
    refine ⟨by rw [List.length_set, List.length_set]; exact h.1, h.2.1, fun k w hk => ?_⟩
    by_cases hk1 : k = i + 1
    · subst hk1
      rw [List.getElem?_set_self (by rw [List.length_set]; exact hc.1)] at hk
      cases hk
    · rw [List.getElem?_set_ne (Ne.symm hk1)] at hk
      by_cases hki : k = i
      · subst hki
        rw [List.getElem?_set_self (by omega)] at hk
        cases hk
        exact h.2.2 _ List.mem_cons_self
      · rw [List.getElem?_set_ne (Ne.symm hki)] at hk
        refine h.2.2 (k, mm_tr base b w) (List.mem_cons_of_mem _ (List.mem_filter.mpr ⟨mm_prs_mem.mpr ⟨w, hk, rfl⟩, ?_⟩))
        simp only [Bool.and_eq_true, Bool.not_eq_true', beq_eq_false_iff_ne, Bool.and_eq_false_iff]
        refine ⟨hki, hk1, ?_⟩
        by_cases h2 : k + 1 = i
        · right
          intro hcat
          have hcat' : (mm_tr base b w).category = 2 := hcat
          rw [mm_tr_cat] at hcat'
          have hk' : i - 1 = k := by omega
          rcases hc.2 with h0 | h0
          · omega
          · rw [hk'] at h0
            cases w with
            | long x => simp [mm_isJ, hk] at h0
            | double x => simp [mm_isJ, hk] at h0
            | _ => cases hcat'
        · left
          exact h2
  · cases hL
/-! what an operation is in the code -/
def mm_hd : List mm_Op → Nat
  | (pc, _) :: _ => pc
  | [] => 0
def mm_dec (m pc : Nat) (i : Instr) (n : Nat) : Bool := decide (decode (mm_cc m) pc = .ok (i, n))
def mm_ld (m pc k sh : Nat) (f : Fin 4 → Instr) (g : Nat → Instr) : Bool := if sh = 1 then (if h : k < 4 then mm_dec m pc (f ⟨k, h⟩) 1 else false) else mm_dec m pc (g k) 2
def mm_jmp (m pc b : Nat) (f : Int → Instr) : Bool := mm_dec m pc (f ((mm_hd (mm_blk m b) : Int) - (pc : Int))) 3 && decide (b < mm_nbk m)
def mm_wL (w : Nat) (c : Cond) : Bool := mm_wk (14 + w) c
def mm_fld (m pi c k w : Nat) : Bool := decide (c < 6) && decide (k < mm_nf c) && mm_wL w (.fieldLink (mm_cls m) pi ((mm_cl c).2.1 k).1 ((mm_cl c).2.1 k).2.1 ((mm_cl c).2.1 k).2.2.1)
def mm_at (k : Nat) : ArrayType := match k with
  | 10 => .int
  | 11 => .boolean
  | 12 => .char
  | _ => .long
def mm_ths : List (Nat × Nat) := [(60, 2), (289, 1), (280, 0)]
/-- a handler's row: the exception, the local, the block behind its store, its place -/
def mm_hrow (m : Nat) (E k b tg : Nat) : Bool := mm_ld m tg k (if k < 4 then 1 else 0) .astore_n .astore && (mm_hd (mm_blk m b) == tg + (if k < 4 then 1 else 2)) && decide (b < mm_nbk m) && decide (E < 3) && decide (k < mm_mxL m)
def mm_ct (E : Nat) : Nat := match E with
  | 0 => 30
  | 1 => 15
  | _ => 19
def mm_hok (m pc : Nat) : List (Nat × Nat × Nat × Nat) → List Nat → Bool
  | [], [] => true
  | (st, en, tg, ct) :: hh, E :: k :: b :: t :: hs => decide (st ≤ pc) && decide (pc < en) && (tg == t) && (ct == mm_ct E) && mm_hrow m E k b t && mm_hok m pc hh hs
  | _, _ => false
def mm_okop (m pc cd : Nat) (x : Int32) (ax : List Nat) : Bool := match cd with
  | 0 => mm_jmp m pc (mm_a ax 0) .goto
  | 1 => decide (mm_a ax 0 < 3) && (match mm_a ax 0 with
    | 0 => mm_dec m pc (.iconst x.toInt) 1
    | 1 => mm_dec m pc (.bipush x.toInt) 2 && decide ((Int8.ofInt x.toInt).toInt32 = x)
    | _ => mm_dec m pc (.sipush x.toInt) 3 && decide ((Int16.ofInt x.toInt).toInt32 = x))
  | 2 => mm_ld m pc (mm_a ax 0) (mm_a ax 1) .iload_n .iload
  | 3 => mm_ld m pc (mm_a ax 0) (mm_a ax 1) .istore_n .istore
  | 4 => mm_ld m pc (mm_a ax 0) (mm_a ax 1) .aload_n .aload
  | 5 => mm_ld m pc (mm_a ax 0) (mm_a ax 1) .astore_n .astore
  | 6 => mm_ld m pc (mm_a ax 0) (mm_a ax 1) .lload_n .lload
  | 7 => mm_ld m pc (mm_a ax 0) (mm_a ax 1) .lstore_n .lstore
  | 8 => mm_dec m pc (.iinc (mm_a ax 0) x.toInt) 3
  | 9 => mm_dec m pc .iadd 1
  | 10 => mm_dec m pc .isub 1
  | 11 => mm_dec m pc .imul 1
  | 12 => mm_dec m pc .idiv 1
  | 13 => mm_dec m pc .irem 1
  | 14 => mm_dec m pc .iand 1
  | 15 => mm_dec m pc .ladd 1
  | 16 => mm_dec m pc .lmul 1
  | 17 => mm_dec m pc .land 1
  | 18 => mm_dec m pc .lor 1
  | 19 => mm_dec m pc .lushr 1
  | 20 => mm_dec m pc .lshl 1
  | 21 => mm_dec m pc .i2l 1
  | 22 => mm_dec m pc .l2i 1
  | 23 => mm_dec m pc .i2c 1
  | 24 => mm_dec m pc .lcmp 1
  | 25 => mm_dec m pc .dup 1
  | 26 => mm_dec m pc .dup2 1
  | 27 => mm_dec m pc .pop 1
  | 28 => mm_jmp m pc (mm_a ax 0) (.ifCond .eq)
  | 29 => mm_jmp m pc (mm_a ax 0) (.ifCond .ne)
  | 30 => mm_jmp m pc (mm_a ax 0) (.ifCond .lt)
  | 31 => mm_jmp m pc (mm_a ax 0) (.ifCond .ge)
  | 32 => mm_jmp m pc (mm_a ax 0) (.ifCond .gt)
  | 33 => mm_jmp m pc (mm_a ax 0) (.ifCond .le)
  | 34 => mm_jmp m pc (mm_a ax 0) (.if_icmp .eq)
  | 35 => mm_jmp m pc (mm_a ax 0) (.if_icmp .ne)
  | 36 => mm_jmp m pc (mm_a ax 0) (.if_icmp .lt)
  | 37 => mm_jmp m pc (mm_a ax 0) (.if_icmp .ge)
  | 38 => mm_jmp m pc (mm_a ax 0) (.if_icmp .gt)
  | 39 => mm_jmp m pc (mm_a ax 0) (.if_icmp .le)
  | 40 => (match decode (mm_cc m) pc with
    | .ok (.tableswitch d lo hi offs, _) => decide (lo = x.toInt) && decide (hi = x.toInt + (ax.length : Int) - 2) && decide (d = (mm_hd (mm_blk m (ax.getD 0 0)) : Int) - (pc : Int)) && decide (offs.size + 1 = ax.length) && ((List.range offs.size).all fun k => decide (offs.getD k 0 = (mm_hd (mm_blk m (ax.getD (k + 1) 0)) : Int) - (pc : Int))) && (ax.all fun b => decide (b < mm_nbk m))
    | _ => false)
  | 41 => mm_dec m pc .ireturn 1 && decide (mm_rt m = some .int)
  | 42 => mm_dec m pc .ireturn 1 && decide (mm_rt m = some .boolean)
  | 43 => mm_dec m pc .ireturn 1 && decide (mm_rt m = some .char)
  | 44 => mm_dec m pc .return_ 1 && decide (mm_rt m = none)
  | 45 => mm_dec m pc (.getfield (mm_a ax 2)) 3 && mm_fld m (mm_a ax 2) (mm_a ax 0) (mm_a ax 1) (mm_a ax 3) && !mm_isR (mm_a ax 0) (mm_a ax 1)
  | 46 => mm_dec m pc (.getfield (mm_a ax 2)) 3 && mm_fld m (mm_a ax 2) (mm_a ax 0) (mm_a ax 1) (mm_a ax 3) && mm_isR (mm_a ax 0) (mm_a ax 1)
  | 47 => mm_dec m pc (.putfield (mm_a ax 2)) 3 && mm_fld m (mm_a ax 2) (mm_a ax 0) (mm_a ax 1) (mm_a ax 3) && !mm_isR (mm_a ax 0) (mm_a ax 1) && decide (mm_fty (mm_a ax 0) (mm_a ax 1) = .int)
  | 48 => mm_dec m pc (.putfield (mm_a ax 2)) 3 && mm_fld m (mm_a ax 2) (mm_a ax 0) (mm_a ax 1) (mm_a ax 3) && !mm_isR (mm_a ax 0) (mm_a ax 1) && decide (mm_fty (mm_a ax 0) (mm_a ax 1) = .boolean)
  | 49 => mm_dec m pc (.putfield (mm_a ax 2)) 3 && mm_fld m (mm_a ax 2) (mm_a ax 0) (mm_a ax 1) (mm_a ax 3) && mm_isR (mm_a ax 0) (mm_a ax 1) && decide ((mm_y m).name = "<init>") && decide ((mm_cl (mm_a ax 0)).1 = mm_cls m)
  | 50 => mm_dec m pc .iaload 1
  | 51 => mm_dec m pc .iastore 1
  | 52 => mm_dec m pc .baload 1
  | 53 => mm_dec m pc .bastore 1
  | 54 => mm_dec m pc .caload 1
  | 55 => mm_dec m pc .castore 1
  | 56 => mm_dec m pc .laload 1
  | 57 => mm_dec m pc .lastore 1
  | 58 => mm_dec m pc .aaload 1
  | 59 => mm_dec m pc .aastore 1
  | 60 => mm_dec m pc .arraylength 1
  | 61 => mm_dec m pc .iaload 1
  | 62 => mm_dec m pc (.new (mm_a ax 1)) 3 && decide (mm_a ax 0 < 6) && mm_wL (mm_a ax 2) (.classLink (mm_cls m) (mm_a ax 1) (mm_cl (mm_a ax 0)).1)
  | 63 => mm_dec m pc (.newarray (mm_at (mm_a ax 0))) 2
  | 64 => mm_dec m pc (.anewarray (mm_a ax 1)) 3 && mm_wL (mm_a ax 2) (.classLink (mm_cls m) (mm_a ax 1) (if mm_a ax 0 = 13 then RX4 else RX3))
  | 65 => mm_dec m pc (.invokestatic (mm_a ax 3)) 3 && mm_wL (mm_a ax 4) (.methodLink (mm_cls m) (mm_a ax 3) (mm_y (mm_a ax 0))) && decide (mm_a ax 0 < 140) && (mm_kd (mm_a ax 0) == 0) && (mm_np (mm_a ax 0) == mm_a ax 1) && (mm_hh m).isEmpty
  | 66 => mm_dec m pc (.invokevirtual (mm_a ax 3)) 3 && mm_wL (mm_a ax 4) (.methodLink (mm_cls m) (mm_a ax 3) (mm_y (mm_a ax 0))) && decide (mm_a ax 0 < 140) && (mm_kd (mm_a ax 0) == 1) && (mm_np (mm_a ax 0) + 1 == mm_a ax 1) && decide ((mm_cl (mm_a ax 2)).1 = mm_cls (mm_a ax 0)) && decide (mm_a ax 2 < 6) && (mm_hh (mm_a ax 0)).isEmpty && (mm_hh m).isEmpty
  | 67 => mm_dec m pc (.invokespecial (mm_a ax 3)) 3 && (if mm_a ax 5 = 0 then mm_wL (mm_a ax 4) (.methodLink (mm_cls m) (mm_a ax 3) (mm_y (mm_a ax 0))) else decide (lw_tbl[14 + mm_a ax 4]? = some (.methodLinkNest (mm_cls m) (mm_a ax 3) (mm_y (mm_a ax 0)) "StolenVoices"))) && decide (mm_a ax 0 < 140) && (mm_kd (mm_a ax 0) == 2) && (mm_np (mm_a ax 0) + 1 == mm_a ax 1) && (mm_hh (mm_a ax 0)).isEmpty
  | 68 => mm_dec m pc (.invokespecial (mm_a ax 0)) 3 && mm_wL (mm_a ax 1) (.methodLink (mm_cls m) (mm_a ax 0) objectInit)
  | 69 => mm_dec m pc (.invokevirtual (mm_a ax 3)) 3 && mm_wL (mm_a ax 4) (.methodLink (mm_cls m) (mm_a ax 3) (mm_y (mm_a ax 0))) && decide (mm_a ax 0 < 140) && (mm_kd (mm_a ax 0) == 1) && (mm_np (mm_a ax 0) + 1 == mm_a ax 1) && decide ((mm_cl (mm_a ax 2)).1 = mm_cls (mm_a ax 0)) && decide (mm_a ax 2 < 6) && (mm_hh (mm_a ax 0)).isEmpty && mm_hok m pc (mm_hh m) (ax.drop 6)
  | 70 => (if mm_a ax 4 = 0 then mm_dec m (pc + 4) (.ldc (mm_a ax 2)) 2 && mm_dec m (pc + 6) (.invokespecial (mm_a ax 3)) 3 && mm_dec m (pc + 9) .athrow 1 else mm_dec m (pc + 4) (.ldc_w (mm_a ax 2)) 3 && mm_dec m (pc + 7) (.invokespecial (mm_a ax 3)) 3 && mm_dec m (pc + 10) .athrow 1) && mm_dec m pc (.new (mm_a ax 1)) 3 && mm_dec m (pc + 3) .dup 1 && mm_wL (mm_a ax 5) (.classLink (mm_cls m) (mm_a ax 1) (mm_exc (mm_a ax 0))) && decide (mm_cls m = RX5) && decide ((mm_a ax 3, mm_a ax 0) ∈ mm_ths) && (mm_msg.any fun q => q.1 == mm_a ax 2) && (mm_hh m).isEmpty && decide (mm_a ax 0 < 3)
  | 71 => if mm_a ax 1 = 0 then (if h : mm_a ax 0 < 2 then mm_dec m pc (.lconst ⟨mm_a ax 0, h⟩) 1 else false) else mm_dec m pc (.ldc2_w (mm_a ax 2)) 3 && mm_wL (mm_a ax 3) (.constantLong (mm_cls m) (mm_a ax 2) (Int64.ofNat (mm_a ax 0)))
  | 72 => (mm_hd (mm_blk m (mm_a ax 0)) == pc) && decide (mm_a ax 0 < mm_nbk m)
  | 73 => mm_dec m pc (.invokestatic (mm_a ax 0)) 3 && mm_wL (mm_a ax 1) (.methodLink (mm_cls m) (mm_a ax 0) Lib.Math.max.name)
  | 74 => mm_dec m pc (.invokestatic (mm_a ax 0)) 3 && mm_wL (mm_a ax 1) (.methodLink (mm_cls m) (mm_a ax 0) Lib.Math.min.name)
  | 75 => mm_dec m pc .lreturn 1 && decide (mm_rt m = some .long)
  | 76 => mm_dec m pc .ishr 1
  | 77 => mm_dec m pc (.ldc2_w (mm_a ax 1)) 3 && mm_wL (mm_a ax 2) (.constantLong (mm_cls m) (mm_a ax 1) (mm_LC (mm_a ax 0)))
  | 78 => mm_dec m pc (.ldc (mm_a ax 0)) 2 && mm_wL (mm_a ax 1) (.constant (mm_cls m) (mm_a ax 0) x)
  | _ => false
def mm_ln (cd : Nat) (ax : List Nat) : Nat := match cd with
  | 1 => mm_a ax 0 + 1
  | 2 | 3 | 4 | 5 | 6 | 7 => if mm_a ax 1 = 1 then 1 else 2
  | 8 | 28 | 29 | 30 | 31 | 32 | 33 | 34 | 35 | 36 | 37 | 38 | 39 | 45 | 46 | 47 | 48 | 49 | 62 | 64 | 65 | 66 | 67 | 68 | 69 | 73 | 74 | 77 => 3
  | 63 | 78 => 2
  | 71 => if mm_a ax 1 = 0 then 1 else 3
  | _ => 1
def mm_end (cd : Nat) : Bool := (cd == 0) || (cd == 40) || (cd == 41) || (cd == 42) || (cd == 43) || (cd == 44) || (cd == 70) || (cd == 72) || (cd == 75)
/-- a stretch of code is what it says -/
def mm_vl (m : Nat) : List mm_Op → Bool
  | [] => false
  | (pc, cd, x, ax) :: r => mm_okop m pc cd x ax && (mm_end cd || ((mm_hd r == pc + mm_ln cd ax) && mm_vl m r))
def mm_vlM (m : Nat) : Bool := (List.range (mm_nbk m)).all fun b => mm_vl m (mm_blk m b)
