/-! the two objects' cells changed about: the small machine runs alike -/
section SW
def sw_p (a : Nat) : Nat := if a < 206 then a + 206 else if a < 412 then a - 206 else a
theorem sw_pp (a : Nat) : sw_p (sw_p a) = a := by
  unfold sw_p
  by_cases h1 : a < 206
  · rw [if_pos h1, if_neg (by omega), if_pos (by omega)]; omega
  · rw [if_neg h1]
    by_cases h2 : a < 412
    · rw [if_pos h2, if_pos (by omega)]; omega
    · rw [if_neg h2, if_neg h1, if_neg h2]
theorem sw_lt {a N : Nat} (h : 412 ≤ N) : (sw_p a < N) = (a < N) := by
  unfold sw_p
  by_cases h1 : a < 206
  · rw [if_pos h1]; exact propext ⟨fun _ => by omega, fun _ => by omega⟩
  · rw [if_neg h1]
    by_cases h2 : a < 412
    · rw [if_pos h2]; exact propext ⟨fun _ => by omega, fun _ => by omega⟩
    · rw [if_neg h2]
theorem sw_eq (a b : Nat) : (sw_p b = a) = (b = sw_p a) := propext ⟨fun h => by rw [← h, sw_pp], fun h => by rw [h, sw_pp]⟩
theorem sw_pN {N : Nat} (h : 412 ≤ N) : sw_p N = N := by
  unfold sw_p
  rw [if_neg (by omega), if_neg (by omega)]
def sw_v : Value → Value
  | .ref a => .ref (sw_p a)
  | v => v
theorem sw_vv (v : Value) : sw_v (sw_v v) = v := by
  cases v <;> first | rfl | exact congrArg Value.ref (sw_pp _)
theorem sw_vc (v : Value) : (sw_v v).category = v.category := by cases v <;> rfl
def sw_L (L : mm_L) : mm_L := L.map (Option.map sw_v)
def sw_s (st : List Value) : List Value := st.map sw_v
theorem sw_ss (st : List Value) : sw_s (sw_s st) = st := by
  unfold sw_s
  rw [List.map_map]
  conv => rhs; rw [← List.map_id st]
  exact List.map_congr_left fun v _ => sw_vv v
theorem sw_LL (L : mm_L) : sw_L (sw_L L) = L := by
  unfold sw_L
  rw [List.map_map]
  conv => rhs; rw [← List.map_id L]
  refine List.map_congr_left fun v _ => ?_
  cases v with
  | none => rfl
  | some v => exact congrArg some (sw_vv v)
def sw_sh (sh : Nat → mm_Sh) : Nat → mm_Sh := fun a => ((sh (sw_p a)).1, (sh (sw_p a)).2.1, fun k => ((sh (sw_p a)).2.2 k).map sw_p)
def sw_I (I : Nat → Nat → Int32) : Nat → Nat → Int32 := fun a => I (sw_p a)
theorem sw_II (I : Nat → Nat → Int32) : sw_I (sw_I I) = I := by
  funext a
  show I (sw_p (sw_p a)) = I a
  rw [sw_pp]
theorem sw_oo (x : Option Nat) : (x.map sw_p).map sw_p = x := by
  cases x with
  | none => rfl
  | some a => exact congrArg some (sw_pp a)
theorem sw_shsh (sh : Nat → mm_Sh) : sw_sh (sw_sh sh) = sh := by
  funext a
  unfold sw_sh
  rw [sw_pp]
  simp only [sw_oo]
def sw_h (h : mm_H) : mm_H := (h.1, sw_sh h.2.1, sw_I h.2.2.1, h.2.2.2)
theorem sw_hh (h : mm_H) : sw_h (sw_h h) = h := by
  unfold sw_h
  simp only [sw_shsh, sw_II]
def sw_r : mm_R → mm_R
  | .inl v => .inl (v.map sw_v)
  | .inr e => .inr e
theorem sw_rr (r : mm_R) : sw_r (sw_r r) = r := by
  cases r with
  | inl v => cases v with
    | none => rfl
    | some v => exact congrArg (fun x => (Sum.inl (some x) : mm_R)) (sw_vv v)
  | inr e => rfl
def sw_S (s : mm_S) : mm_S := (s.1, s.2.1, sw_L s.2.2.1, sw_s s.2.2.2.1, sw_h s.2.2.2.2)
def sw_Rq : mm_Rq → mm_Rq
  | none => none
  | some (.inl s) => some (.inl (sw_S s))
  | some (.inr (.inl q)) => some (.inr (.inl (sw_r q.1, sw_h q.2)))
  | some (.inr (.inr q)) => some (.inr (.inr (sw_S q.1, fun a g => (q.2 (sw_r a) (sw_h g)).map sw_S)))
/-! locals, planes -/
theorem sw_lI (L : mm_L) (k : Nat) : mm_lI (sw_L L) k = mm_lI L k := by
  unfold mm_lI sw_L
  rw [List.getElem?_map]
  cases L[k]? with
  | none => rfl
  | some v => cases v with
    | none => rfl
    | some v => cases v <;> rfl
theorem sw_lJ (L : mm_L) (k : Nat) : mm_lJ (sw_L L) k = mm_lJ L k := by
  unfold mm_lJ sw_L
  rw [List.getElem?_map]
  cases L[k]? with
  | none => rfl
  | some v => cases v with
    | none => rfl
    | some v => cases v <;> rfl
theorem sw_lA (L : mm_L) (k : Nat) : mm_lA (sw_L L) k = (mm_lA L k).map sw_v := by
  unfold mm_lA sw_L
  rw [List.getElem?_map]
  cases L[k]? with
  | none => rfl
  | some v => cases v with
    | none => rfl
    | some v => cases v <;> rfl
theorem sw_isJ (L : mm_L) (k : Nat) : mm_isJ (sw_L L) k = mm_isJ L k := by
  unfold mm_isJ sw_L
  rw [List.getElem?_map]
  cases L[k]? with
  | none => rfl
  | some v => cases v with
    | none => rfl
    | some v => cases v <;> rfl
theorem sw_Ls (L : mm_L) (k : Nat) (v : Option Value) : (sw_L L).set k (v.map sw_v) = sw_L (L.set k v) := by
  unfold sw_L
  rw [List.map_set]
theorem sw_Ln (L : mm_L) : (sw_L L).length = L.length := List.length_map _
theorem sw_st1 (L : mm_L) (k : Nat) (v : Value) : mm_st1 (sw_L L) k (sw_v v) = (mm_st1 L k v).map sw_L := by
  unfold mm_st1
  rw [sw_Ln, sw_isJ]
  split
  · exact congrArg some (sw_Ls L k (some v))
  · rfl
theorem sw_st2 (L : mm_L) (k : Nat) (v : Value) : mm_st2 (sw_L L) k (sw_v v) = (mm_st2 L k v).map sw_L := by
  unfold mm_st2
  rw [sw_Ln, sw_isJ]
  split
  · refine congrArg some ?_
    have e1 := sw_Ls L k (some v)
    have e2 := sw_Ls (L.set k (some v)) (k + 1) none
    rw [← e2, ← e1]
    rfl
  · rfl
theorem sw_kill (L : mm_L) (k : Nat) : mm_kill (sw_L L) k = sw_L (mm_kill L k) := by
  unfold mm_kill
  rw [sw_isJ]
  split
  · have e1 := sw_Ls L (k - 1) none
    have e2 := sw_Ls (L.set (k - 1) none) k none
    rw [← e2, ← e1]
    rfl
  · exact sw_Ls L k none
theorem sw_up2 (I : Nat → Nat → Int32) (a k : Nat) (v : Int32) : mm_up2 (sw_I I) (sw_p a) k v = sw_I (mm_up2 I a k v) := by
  funext b j
  show (if b = sw_p a then (if j = k then v else sw_I I b j) else sw_I I b j) = (if sw_p b = a then (if j = k then v else I (sw_p b) j) else I (sw_p b) j)
  simp only [sw_eq a b]
  rfl
theorem sw_wt (st : List Value) : mm_wt (sw_s st) = mm_wt st := by
  unfold mm_wt sw_s
  rw [List.map_map]
  congr 1
  exact List.map_congr_left fun v _ => sw_vc v
theorem sw_ent : ∀ l : List Value, mm_ent (sw_s l) = sw_L (mm_ent l)
  | [] => rfl
  | v :: r => by
    have ih := sw_ent r
    cases v <;> (first
      | (show some _ :: mm_ent (sw_s r) = sw_L (some _ :: mm_ent r); rw [ih]; rfl)
      | (show some _ :: none :: mm_ent (sw_s r) = sw_L (some _ :: none :: mm_ent r); rw [ih]; rfl))
theorem sw_pad (L : mm_L) (n : Nat) : mm_pad (sw_L L) n = sw_L (mm_pad L n) := by
  unfold mm_pad
  rw [sw_Ln]
  unfold sw_L
  rw [List.map_append, List.map_replicate]
  rfl
theorem sw_take (n : Nat) (st : List Value) : (sw_s st).take n = sw_s (st.take n) := by
  unfold sw_s; rw [List.map_take]
theorem sw_drop (n : Nat) (st : List Value) : (sw_s st).drop n = sw_s (st.drop n) := by
  unfold sw_s; rw [List.map_drop]
theorem sw_rev (st : List Value) : (sw_s st).reverse = sw_s st.reverse := by
  unfold sw_s; rw [List.map_reverse]
theorem sw_len (st : List Value) : (sw_s st).length = st.length := List.length_map _
theorem sw_entry (mid : Nat) (l : List Value) (h : mm_H) : mm_entry mid (sw_s l) (sw_h h) = sw_S (mm_entry mid l h) := by
  unfold mm_entry
  rw [sw_ent, sw_pad]
  rfl
theorem sw_isRf : ∀ l : List Value, mm_isRf (sw_s l) = mm_isRf l
  | [] => rfl
  | v :: r => by cases v <;> rfl
theorem sw_isRec (h : mm_H) (hN : 412 ≤ h.2.2.2.2.1.1) (c : Nat) : ∀ l : List Value, mm_isRec (sw_h h) c (sw_s l) = mm_isRec h c l
  | [] => rfl
  | v :: r => by
    cases v <;> first
      | rfl
      | (show ((sw_sh h.2.1 (sw_p _)).1 == c && decide (sw_p _ < h.2.2.2.2.1.1)) = ((h.2.1 _).1 == c && decide (_ < h.2.2.2.2.1.1))
         simp only [sw_lt hN, sw_sh, sw_pp])
theorem sw_vl (v : Option Value) (st : List Value) : v.toList ++ sw_s st = sw_s ((v.map sw_v).toList ++ st) := by
  cases v with
  | none => rfl
  | some v => show v :: sw_s st = sw_v (sw_v v) :: sw_s st; rw [sw_vv]
theorem sw_backH (m : Nat) (r : List mm_Op) (L : mm_L) (st : List Value) (hs : List Nat) : mm_backH m r (sw_L L) (sw_s st) hs = fun a g => (mm_backH m r L st hs (sw_r a) (sw_h g)).map sw_S := by
  funext a g
  cases a with
  | inl v =>
    show some (m, r, sw_L L, v.toList ++ sw_s st, g) = some (m, r, sw_L L, sw_s ((v.map sw_v).toList ++ st), sw_h (sw_h g))
    rw [sw_vl, sw_hh]
  | inr E =>
    show (match mm_hnd hs E with
      | some (k, b) => some (m, mm_blk m b, mm_kill (sw_L L) k, [], g)
      | none => if hs.isEmpty then none else some (m, [], sw_L L, [], g)) = Option.map sw_S (match mm_hnd hs E with
      | some (k, b) => some (m, mm_blk m b, mm_kill L k, [], sw_h g)
      | none => if hs.isEmpty then none else some (m, [], L, [], sw_h g))
    cases mm_hnd hs E with
    | none =>
      by_cases hc : hs.isEmpty = true
      · simp only [hc, if_true]; rfl
      · simp only [hc]
        show some _ = some (m, [], sw_L L, [], sw_h (sw_h g))
        rw [sw_hh]
    | some q =>
      obtain ⟨k, b⟩ := q
      show some (m, mm_blk m b, mm_kill (sw_L L) k, [], g) = some (m, mm_blk m b, sw_L (mm_kill L k), [], sw_h (sw_h g))
      rw [sw_hh, sw_kill]
theorem sw_backI (m : Nat) (r : List mm_Op) (L : mm_L) (st : List Value) : mm_backI m r (sw_L L) (sw_s st) = fun a g => (mm_backI m r L st (sw_r a) (sw_h g)).map sw_S := by
  funext a g
  cases a with
  | inl v =>
    show some (m, r, sw_L L, v.toList ++ sw_s st, g) = some (m, r, sw_L L, sw_s ((v.map sw_v).toList ++ st), sw_h (sw_h g))
    rw [sw_vl, sw_hh]
  | inr E =>
    show some (m, [], sw_L L, [], g) = some (m, [], sw_L L, [], sw_h (sw_h g))
    rw [sw_hh]
theorem sw_call (m : Nat) (r : List mm_Op) (L : mm_L) (st : List Value) (h : mm_H) (mid n : Nat) (k : List Nat) : mm_call m r (sw_L L) (sw_s st) (sw_h h) mid n k = sw_Rq (mm_call m r L st h mid n k) := by
  unfold mm_call
  rw [sw_take, sw_drop, sw_rev, sw_wt, sw_wt, sw_len, sw_entry, sw_backH]
  split
  · rfl
  · rfl
theorem sw_callI (m : Nat) (r : List mm_Op) (L : mm_L) (st : List Value) (h : mm_H) (mid n : Nat) : mm_callI m r (sw_L L) (sw_s st) (sw_h h) mid n = sw_Rq (mm_callI m r L st h mid n) := by
  unfold mm_callI
  rw [sw_take, sw_drop, sw_rev, sw_wt, sw_wt, sw_len, sw_entry, sw_backI, sw_isRf]
  split
  · rfl
  · rfl
theorem sw_solo (sh : Nat → mm_Sh) {N : Nat} (hN : 412 ≤ N) (a : Nat) : mm_solo (sw_sh sh) N (sw_p a) = mm_solo sh N a := by
  unfold mm_solo
  rw [Bool.eq_iff_iff, List.all_eq_true, List.all_eq_true]
  constructor
  · intro h j hj
    have h1 := h (sw_p j) (List.mem_range.mpr (by rw [sw_lt hN]; exact List.mem_range.mp hj))
    simp only [sw_sh, sw_pp, Bool.or_eq_true, Bool.not_eq_true', beq_eq_false_iff_ne, ne_eq, beq_iff_eq] at h1 ⊢
    rcases h1 with h1 | h1
    · exact Or.inl h1
    · exact Or.inr (by rw [sw_eq, sw_pp] at h1; exact h1)
  · intro h j hj
    have h1 := h (sw_p j) (List.mem_range.mpr (by rw [sw_lt hN]; exact List.mem_range.mp hj))
    simp only [sw_sh, Bool.or_eq_true, Bool.not_eq_true', beq_eq_false_iff_ne, ne_eq, beq_iff_eq] at h1 ⊢
    rcases h1 with h1 | h1
    · exact Or.inl h1
    · exact Or.inr (by rw [sw_eq] at h1; exact h1)
theorem sw_new (sh : Nat → mm_Sh) {N : Nat} (hN : 412 ≤ N) (c n : Nat) : mm_up (sw_sh sh) N (c, n, fun _ => none) = sw_sh (mm_up sh N (c, n, fun _ => none)) := by
  funext b
  show (if b = N then _ else sw_sh sh b) = ((if sw_p b = N then _ else sh (sw_p b)).1, (if sw_p b = N then _ else sh (sw_p b)).2.1, fun k => ((if sw_p b = N then _ else sh (sw_p b)).2.2 k).map sw_p)
  have e : (sw_p b = N) = (b = N) := by rw [sw_eq, sw_pN hN]
  simp only [e]
  by_cases hb : b = N
  · simp only [hb, if_true]; rfl
  · simp only [hb, if_false]; rfl
theorem sw_newI (I : Nat → Nat → Int32) {N : Nat} (hN : 412 ≤ N) : mm_up (sw_I I) N (fun _ => 0) = sw_I (mm_up I N (fun _ => 0)) := by
  funext b
  show (if b = N then _ else I (sw_p b)) = (if sw_p b = N then _ else I (sw_p b))
  have e : (sw_p b = N) = (b = N) := by rw [sw_eq, sw_pN hN]
  simp only [e]
theorem sw_wr (sh : Nat → mm_Sh) (a b k : Nat) : mm_up (sw_sh sh) (sw_p a) ((sw_sh sh (sw_p a)).1, (sw_sh sh (sw_p a)).2.1, mm_up (sw_sh sh (sw_p a)).2.2 k (some (sw_p b))) = sw_sh (mm_up sh a ((sh a).1, (sh a).2.1, mm_up (sh a).2.2 k (some b))) := by
  funext c
  show (if c = sw_p a then _ else sw_sh sh c) = ((if sw_p c = a then _ else sh (sw_p c)).1, (if sw_p c = a then _ else sh (sw_p c)).2.1, fun j => ((if sw_p c = a then _ else sh (sw_p c)).2.2 j).map sw_p)
  simp only [sw_eq a c]
  by_cases hb : c = sw_p a
  · simp only [hb, if_true, sw_sh, sw_pp]
    refine congrArg (fun x => ((sh a).1, (sh a).2.1, x)) ?_
    funext j
    unfold mm_up
    by_cases hj : j = k
    · simp only [hj, if_true]; rfl
    · simp only [hj, if_false]
  · simp only [hb, if_false]; rfl
/-! each operation -/
variable {m : Nat} {x : Int32} {ax : List Nat} {r : List mm_Op} {L : mm_L} {st : List Value} {h : mm_H}

theorem sw_o0 : mm_op m x ax r (sw_L L) (sw_s st) (sw_h h) 0 = sw_Rq (mm_op m x ax r L st h 0) := by
  rfl

theorem sw_o1 : mm_op m x ax r (sw_L L) (sw_s st) (sw_h h) 1 = sw_Rq (mm_op m x ax r L st h 1) := by
  rfl

theorem sw_o56 : mm_op m x ax r (sw_L L) (sw_s st) (sw_h h) 56 = sw_Rq (mm_op m x ax r L st h 56) := by
  rfl

theorem sw_o57 : mm_op m x ax r (sw_L L) (sw_s st) (sw_h h) 57 = sw_Rq (mm_op m x ax r L st h 57) := by
  rfl

theorem sw_o71 : mm_op m x ax r (sw_L L) (sw_s st) (sw_h h) 71 = sw_Rq (mm_op m x ax r L st h 71) := by
  rfl

theorem sw_o72 : mm_op m x ax r (sw_L L) (sw_s st) (sw_h h) 72 = sw_Rq (mm_op m x ax r L st h 72) := by
  rfl

theorem sw_o77 : mm_op m x ax r (sw_L L) (sw_s st) (sw_h h) 77 = sw_Rq (mm_op m x ax r L st h 77) := by
  rfl

theorem sw_o78 : mm_op m x ax r (sw_L L) (sw_s st) (sw_h h) 78 = sw_Rq (mm_op m x ax r L st h 78) := by
  rfl

theorem sw_o2 : mm_op m x ax r (sw_L L) (sw_s st) (sw_h h) 2 = sw_Rq (mm_op m x ax r L st h 2) := by
  simp only [mm_op, sw_lI]
  cases mm_lI L (mm_a ax 0) <;> rfl

theorem sw_o6 : mm_op m x ax r (sw_L L) (sw_s st) (sw_h h) 6 = sw_Rq (mm_op m x ax r L st h 6) := by
  simp only [mm_op, sw_lJ]
  cases mm_lJ L (mm_a ax 0) <;> rfl

theorem sw_o4 : mm_op m x ax r (sw_L L) (sw_s st) (sw_h h) 4 = sw_Rq (mm_op m x ax r L st h 4) := by
  simp only [mm_op, sw_lA]
  cases mm_lA L (mm_a ax 0) <;> rfl

theorem sw_o3 : mm_op m x ax r (sw_L L) (sw_s st) (sw_h h) 3 = sw_Rq (mm_op m x ax r L st h 3) := by
  rcases st with _ | ⟨v, st⟩
  · rfl
  cases v with
  | int z =>
    show (match mm_st1 (sw_L L) (mm_a ax 0) (.int z) with
    | some L' => mm_go (m, r, L', sw_s st, sw_h h)
    | none => none) = sw_Rq (match mm_st1 L (mm_a ax 0) (.int z) with
    | some L' => mm_go (m, r, L', st, h)
    | none => none)
    rw [show mm_st1 (sw_L L) (mm_a ax 0) (.int z) = (mm_st1 L (mm_a ax 0) (.int z)).map sw_L from sw_st1 L (mm_a ax 0) (.int z)]
    cases mm_st1 L (mm_a ax 0) (.int z) <;> rfl
  | _ => rfl

theorem sw_o7 : mm_op m x ax r (sw_L L) (sw_s st) (sw_h h) 7 = sw_Rq (mm_op m x ax r L st h 7) := by
  rcases st with _ | ⟨v, st⟩
  · rfl
  cases v with
  | long z =>
    show (match mm_st2 (sw_L L) (mm_a ax 0) (.long z) with
    | some L' => mm_go (m, r, L', sw_s st, sw_h h)
    | none => none) = sw_Rq (match mm_st2 L (mm_a ax 0) (.long z) with
    | some L' => mm_go (m, r, L', st, h)
    | none => none)
    rw [show mm_st2 (sw_L L) (mm_a ax 0) (.long z) = (mm_st2 L (mm_a ax 0) (.long z)).map sw_L from sw_st2 L (mm_a ax 0) (.long z)]
    cases mm_st2 L (mm_a ax 0) (.long z) <;> rfl
  | _ => rfl

theorem sw_o5 : mm_op m x ax r (sw_L L) (sw_s st) (sw_h h) 5 = sw_Rq (mm_op m x ax r L st h 5) := by
  rcases st with _ | ⟨v, st⟩
  · rfl
  cases v with
  | ref z =>
    show (match mm_st1 (sw_L L) (mm_a ax 0) (.ref (sw_p z)) with
    | some L' => mm_go (m, r, L', sw_s st, sw_h h)
    | none => none) = sw_Rq (match mm_st1 L (mm_a ax 0) (.ref z) with
    | some L' => mm_go (m, r, L', st, h)
    | none => none)
    rw [show mm_st1 (sw_L L) (mm_a ax 0) (.ref (sw_p z)) = (mm_st1 L (mm_a ax 0) (.ref z)).map sw_L from sw_st1 L (mm_a ax 0) (.ref z)]
    cases mm_st1 L (mm_a ax 0) (.ref z) <;> rfl
  | _ => rfl

theorem sw_o8 : mm_op m x ax r (sw_L L) (sw_s st) (sw_h h) 8 = sw_Rq (mm_op m x ax r L st h 8) := by
  simp only [mm_op, sw_lI]
  cases mm_lI L (mm_a ax 0) with
  | none => rfl
  | some z =>
    show (match mm_st1 (sw_L L) (mm_a ax 0) (.int (z + x)) with
    | some L' => mm_go (m, r, L', sw_s st, sw_h h)
    | none => none) = sw_Rq (match mm_st1 L (mm_a ax 0) (.int (z + x)) with
    | some L' => mm_go (m, r, L', st, h)
    | none => none)
    rw [show mm_st1 (sw_L L) (mm_a ax 0) (.int (z + x)) = (mm_st1 L (mm_a ax 0) (.int (z + x))).map sw_L from sw_st1 L (mm_a ax 0) (.int (z + x))]
    cases mm_st1 L (mm_a ax 0) (.int (z + x)) <;> rfl

theorem sw_o9 : mm_op m x ax r (sw_L L) (sw_s st) (sw_h h) 9 = sw_Rq (mm_op m x ax r L st h 9) := by
  rcases st with _ | ⟨v, _ | ⟨w, st⟩⟩
  · rfl
  · cases v <;> rfl
  · cases v <;> (cases w <;> rfl)

theorem sw_o10 : mm_op m x ax r (sw_L L) (sw_s st) (sw_h h) 10 = sw_Rq (mm_op m x ax r L st h 10) := by
  rcases st with _ | ⟨v, _ | ⟨w, st⟩⟩
  · rfl
  · cases v <;> rfl
  · cases v <;> (cases w <;> rfl)

theorem sw_o11 : mm_op m x ax r (sw_L L) (sw_s st) (sw_h h) 11 = sw_Rq (mm_op m x ax r L st h 11) := by
  rcases st with _ | ⟨v, _ | ⟨w, st⟩⟩
  · rfl
  · cases v <;> rfl
  · cases v <;> (cases w <;> rfl)

theorem sw_o14 : mm_op m x ax r (sw_L L) (sw_s st) (sw_h h) 14 = sw_Rq (mm_op m x ax r L st h 14) := by
  rcases st with _ | ⟨v, _ | ⟨w, st⟩⟩
  · rfl
  · cases v <;> rfl
  · cases v <;> (cases w <;> rfl)

theorem sw_o15 : mm_op m x ax r (sw_L L) (sw_s st) (sw_h h) 15 = sw_Rq (mm_op m x ax r L st h 15) := by
  rcases st with _ | ⟨v, _ | ⟨w, st⟩⟩
  · rfl
  · cases v <;> rfl
  · cases v <;> (cases w <;> rfl)

theorem sw_o16 : mm_op m x ax r (sw_L L) (sw_s st) (sw_h h) 16 = sw_Rq (mm_op m x ax r L st h 16) := by
  rcases st with _ | ⟨v, _ | ⟨w, st⟩⟩
  · rfl
  · cases v <;> rfl
  · cases v <;> (cases w <;> rfl)

theorem sw_o17 : mm_op m x ax r (sw_L L) (sw_s st) (sw_h h) 17 = sw_Rq (mm_op m x ax r L st h 17) := by
  rcases st with _ | ⟨v, _ | ⟨w, st⟩⟩
  · rfl
  · cases v <;> rfl
  · cases v <;> (cases w <;> rfl)

theorem sw_o18 : mm_op m x ax r (sw_L L) (sw_s st) (sw_h h) 18 = sw_Rq (mm_op m x ax r L st h 18) := by
  rcases st with _ | ⟨v, _ | ⟨w, st⟩⟩
  · rfl
  · cases v <;> rfl
  · cases v <;> (cases w <;> rfl)

theorem sw_o19 : mm_op m x ax r (sw_L L) (sw_s st) (sw_h h) 19 = sw_Rq (mm_op m x ax r L st h 19) := by
  rcases st with _ | ⟨v, _ | ⟨w, st⟩⟩
  · rfl
  · cases v <;> rfl
  · cases v <;> (cases w <;> rfl)

theorem sw_o20 : mm_op m x ax r (sw_L L) (sw_s st) (sw_h h) 20 = sw_Rq (mm_op m x ax r L st h 20) := by
  rcases st with _ | ⟨v, _ | ⟨w, st⟩⟩
  · rfl
  · cases v <;> rfl
  · cases v <;> (cases w <;> rfl)

theorem sw_o24 : mm_op m x ax r (sw_L L) (sw_s st) (sw_h h) 24 = sw_Rq (mm_op m x ax r L st h 24) := by
  rcases st with _ | ⟨v, _ | ⟨w, st⟩⟩
  · rfl
  · cases v <;> rfl
  · cases v <;> (cases w <;> rfl)

theorem sw_o76 : mm_op m x ax r (sw_L L) (sw_s st) (sw_h h) 76 = sw_Rq (mm_op m x ax r L st h 76) := by
  rcases st with _ | ⟨v, _ | ⟨w, st⟩⟩
  · rfl
  · cases v <;> rfl
  · cases v <;> (cases w <;> rfl)

theorem sw_o12 : mm_op m x ax r (sw_L L) (sw_s st) (sw_h h) 12 = sw_Rq (mm_op m x ax r L st h 12) := by
  rcases st with _ | ⟨v, _ | ⟨w, st⟩⟩
  · rfl
  · cases v <;> rfl
  · cases v <;> (cases w <;> first | rfl | (simp only [mm_op, sw_s, sw_v, List.map_cons, List.map_nil]; (repeat' split) <;> first | rfl | contradiction))

theorem sw_o13 : mm_op m x ax r (sw_L L) (sw_s st) (sw_h h) 13 = sw_Rq (mm_op m x ax r L st h 13) := by
  rcases st with _ | ⟨v, _ | ⟨w, st⟩⟩
  · rfl
  · cases v <;> rfl
  · cases v <;> (cases w <;> first | rfl | (simp only [mm_op, sw_s, sw_v, List.map_cons, List.map_nil]; (repeat' split) <;> first | rfl | contradiction))

theorem sw_o34 : mm_op m x ax r (sw_L L) (sw_s st) (sw_h h) 34 = sw_Rq (mm_op m x ax r L st h 34) := by
  rcases st with _ | ⟨v, _ | ⟨w, st⟩⟩
  · rfl
  · cases v <;> rfl
  · cases v <;> (cases w <;> first | rfl | (simp only [mm_op, sw_s, sw_v, List.map_cons, List.map_nil]; (repeat' split) <;> first | rfl | contradiction))

theorem sw_o35 : mm_op m x ax r (sw_L L) (sw_s st) (sw_h h) 35 = sw_Rq (mm_op m x ax r L st h 35) := by
  rcases st with _ | ⟨v, _ | ⟨w, st⟩⟩
  · rfl
  · cases v <;> rfl
  · cases v <;> (cases w <;> first | rfl | (simp only [mm_op, sw_s, sw_v, List.map_cons, List.map_nil]; (repeat' split) <;> first | rfl | contradiction))

theorem sw_o36 : mm_op m x ax r (sw_L L) (sw_s st) (sw_h h) 36 = sw_Rq (mm_op m x ax r L st h 36) := by
  rcases st with _ | ⟨v, _ | ⟨w, st⟩⟩
  · rfl
  · cases v <;> rfl
  · cases v <;> (cases w <;> first | rfl | (simp only [mm_op, sw_s, sw_v, List.map_cons, List.map_nil]; (repeat' split) <;> first | rfl | contradiction))

theorem sw_o37 : mm_op m x ax r (sw_L L) (sw_s st) (sw_h h) 37 = sw_Rq (mm_op m x ax r L st h 37) := by
  rcases st with _ | ⟨v, _ | ⟨w, st⟩⟩
  · rfl
  · cases v <;> rfl
  · cases v <;> (cases w <;> first | rfl | (simp only [mm_op, sw_s, sw_v, List.map_cons, List.map_nil]; (repeat' split) <;> first | rfl | contradiction))

theorem sw_o38 : mm_op m x ax r (sw_L L) (sw_s st) (sw_h h) 38 = sw_Rq (mm_op m x ax r L st h 38) := by
  rcases st with _ | ⟨v, _ | ⟨w, st⟩⟩
  · rfl
  · cases v <;> rfl
  · cases v <;> (cases w <;> first | rfl | (simp only [mm_op, sw_s, sw_v, List.map_cons, List.map_nil]; (repeat' split) <;> first | rfl | contradiction))

theorem sw_o39 : mm_op m x ax r (sw_L L) (sw_s st) (sw_h h) 39 = sw_Rq (mm_op m x ax r L st h 39) := by
  rcases st with _ | ⟨v, _ | ⟨w, st⟩⟩
  · rfl
  · cases v <;> rfl
  · cases v <;> (cases w <;> first | rfl | (simp only [mm_op, sw_s, sw_v, List.map_cons, List.map_nil]; (repeat' split) <;> first | rfl | contradiction))

theorem sw_o21 : mm_op m x ax r (sw_L L) (sw_s st) (sw_h h) 21 = sw_Rq (mm_op m x ax r L st h 21) := by
  rcases st with _ | ⟨v, st⟩
  · rfl
  · cases v <;> rfl

theorem sw_o22 : mm_op m x ax r (sw_L L) (sw_s st) (sw_h h) 22 = sw_Rq (mm_op m x ax r L st h 22) := by
  rcases st with _ | ⟨v, st⟩
  · rfl
  · cases v <;> rfl

theorem sw_o23 : mm_op m x ax r (sw_L L) (sw_s st) (sw_h h) 23 = sw_Rq (mm_op m x ax r L st h 23) := by
  rcases st with _ | ⟨v, st⟩
  · rfl
  · cases v <;> rfl

theorem sw_o40 : mm_op m x ax r (sw_L L) (sw_s st) (sw_h h) 40 = sw_Rq (mm_op m x ax r L st h 40) := by
  rcases st with _ | ⟨v, st⟩
  · rfl
  · cases v <;> rfl

theorem sw_o28 : mm_op m x ax r (sw_L L) (sw_s st) (sw_h h) 28 = sw_Rq (mm_op m x ax r L st h 28) := by
  rcases st with _ | ⟨v, st⟩
  · rfl
  · cases v <;> first | rfl | (simp only [mm_op, sw_s, sw_v, List.map_cons, List.map_nil]; (repeat' split) <;> first | rfl | contradiction)

theorem sw_o29 : mm_op m x ax r (sw_L L) (sw_s st) (sw_h h) 29 = sw_Rq (mm_op m x ax r L st h 29) := by
  rcases st with _ | ⟨v, st⟩
  · rfl
  · cases v <;> first | rfl | (simp only [mm_op, sw_s, sw_v, List.map_cons, List.map_nil]; (repeat' split) <;> first | rfl | contradiction)

theorem sw_o30 : mm_op m x ax r (sw_L L) (sw_s st) (sw_h h) 30 = sw_Rq (mm_op m x ax r L st h 30) := by
  rcases st with _ | ⟨v, st⟩
  · rfl
  · cases v <;> first | rfl | (simp only [mm_op, sw_s, sw_v, List.map_cons, List.map_nil]; (repeat' split) <;> first | rfl | contradiction)

theorem sw_o31 : mm_op m x ax r (sw_L L) (sw_s st) (sw_h h) 31 = sw_Rq (mm_op m x ax r L st h 31) := by
  rcases st with _ | ⟨v, st⟩
  · rfl
  · cases v <;> first | rfl | (simp only [mm_op, sw_s, sw_v, List.map_cons, List.map_nil]; (repeat' split) <;> first | rfl | contradiction)

theorem sw_o32 : mm_op m x ax r (sw_L L) (sw_s st) (sw_h h) 32 = sw_Rq (mm_op m x ax r L st h 32) := by
  rcases st with _ | ⟨v, st⟩
  · rfl
  · cases v <;> first | rfl | (simp only [mm_op, sw_s, sw_v, List.map_cons, List.map_nil]; (repeat' split) <;> first | rfl | contradiction)

theorem sw_o33 : mm_op m x ax r (sw_L L) (sw_s st) (sw_h h) 33 = sw_Rq (mm_op m x ax r L st h 33) := by
  rcases st with _ | ⟨v, st⟩
  · rfl
  · cases v <;> first | rfl | (simp only [mm_op, sw_s, sw_v, List.map_cons, List.map_nil]; (repeat' split) <;> first | rfl | contradiction)

theorem sw_o25 : mm_op m x ax r (sw_L L) (sw_s st) (sw_h h) 25 = sw_Rq (mm_op m x ax r L st h 25) := by
  rcases st with _ | ⟨v, st⟩
  · rfl
  · cases v <;> rfl

theorem sw_o27 : mm_op m x ax r (sw_L L) (sw_s st) (sw_h h) 27 = sw_Rq (mm_op m x ax r L st h 27) := by
  rcases st with _ | ⟨v, st⟩
  · rfl
  · cases v <;> rfl

theorem sw_o26 : mm_op m x ax r (sw_L L) (sw_s st) (sw_h h) 26 = sw_Rq (mm_op m x ax r L st h 26) := by
  rcases st with _ | ⟨v, _ | ⟨w, st⟩⟩
  · rfl
  · cases v <;> rfl
  · cases v <;> (cases w <;> rfl)

theorem sw_o41 : mm_op m x ax r (sw_L L) (sw_s st) (sw_h h) 41 = sw_Rq (mm_op m x ax r L st h 41) := by
  rcases st with _ | ⟨v, _ | ⟨w, st⟩⟩
  · rfl
  · cases v <;> rfl
  · cases v <;> rfl

theorem sw_o75 : mm_op m x ax r (sw_L L) (sw_s st) (sw_h h) 75 = sw_Rq (mm_op m x ax r L st h 75) := by
  rcases st with _ | ⟨v, _ | ⟨w, st⟩⟩
  · rfl
  · cases v <;> rfl
  · cases v <;> rfl

theorem sw_o42 : mm_op m x ax r (sw_L L) (sw_s st) (sw_h h) 42 = sw_Rq (mm_op m x ax r L st h 42) := by
  rcases st with _ | ⟨v, _ | ⟨w, st⟩⟩
  · rfl
  · cases v <;> first | rfl | (simp only [mm_op, sw_s, sw_v, List.map_cons, List.map_nil]; (repeat' split) <;> first | rfl | contradiction)
  · cases v <;> rfl

theorem sw_o43 : mm_op m x ax r (sw_L L) (sw_s st) (sw_h h) 43 = sw_Rq (mm_op m x ax r L st h 43) := by
  rcases st with _ | ⟨v, _ | ⟨w, st⟩⟩
  · rfl
  · cases v <;> first | rfl | (simp only [mm_op, sw_s, sw_v, List.map_cons, List.map_nil]; (repeat' split) <;> first | rfl | contradiction)
  · cases v <;> rfl

theorem sw_o44 : mm_op m x ax r (sw_L L) (sw_s st) (sw_h h) 44 = sw_Rq (mm_op m x ax r L st h 44) := by
  rcases st with _ | ⟨v, st⟩
  · rfl
  · cases v <;> rfl

theorem sw_o45 (hN : 412 ≤ h.2.2.2.2.1.1) : mm_op m x ax r (sw_L L) (sw_s st) (sw_h h) 45 = sw_Rq (mm_op m x ax r L st h 45) := by
  rcases st with _ | ⟨v, st⟩
  · rfl
  cases v with
  | ref a =>
    simp only [mm_op, sw_s, sw_v, List.map_cons, sw_h, sw_sh, sw_pp, sw_lt hN, sw_I]
    split <;> rfl
  | _ => rfl

theorem sw_o46 (hN : 412 ≤ h.2.2.2.2.1.1) : mm_op m x ax r (sw_L L) (sw_s st) (sw_h h) 46 = sw_Rq (mm_op m x ax r L st h 46) := by
  rcases st with _ | ⟨v, st⟩
  · rfl
  cases v with
  | ref a =>
    simp only [mm_op, sw_s, sw_v, List.map_cons, sw_h, sw_sh, sw_pp, sw_lt hN]
    split
    · cases (h.2.1 a).2.2 (mm_a ax 1) <;> rfl
    · rfl
  | _ => rfl

theorem sw_o47 (hN : 412 ≤ h.2.2.2.2.1.1) : mm_op m x ax r (sw_L L) (sw_s st) (sw_h h) 47 = sw_Rq (mm_op m x ax r L st h 47) := by
  rcases st with _ | ⟨v, _ | ⟨w, st⟩⟩
  · rfl
  · cases v <;> rfl
  cases v with
  | int z =>
    cases w with
    | ref a =>
      simp only [mm_op, sw_s, sw_v, List.map_cons, sw_h, sw_sh, sw_pp, sw_lt hN, mm_setI, sw_up2]
      split <;> rfl
    | _ => rfl
  | _ => first | rfl | (cases w <;> rfl)

theorem sw_o48 (hN : 412 ≤ h.2.2.2.2.1.1) : mm_op m x ax r (sw_L L) (sw_s st) (sw_h h) 48 = sw_Rq (mm_op m x ax r L st h 48) := by
  rcases st with _ | ⟨v, _ | ⟨w, st⟩⟩
  · rfl
  · cases v <;> rfl
  cases v with
  | int z =>
    cases w with
    | ref a =>
      simp only [mm_op, sw_s, sw_v, List.map_cons, sw_h, sw_sh, sw_pp, sw_lt hN, mm_setI, sw_up2]
      (repeat' split) <;> first | rfl | contradiction
    | _ => rfl
  | _ => first | rfl | (cases w <;> rfl)

theorem sw_o49 (hN : 412 ≤ h.2.2.2.2.1.1) : mm_op m x ax r (sw_L L) (sw_s st) (sw_h h) 49 = sw_Rq (mm_op m x ax r L st h 49) := by
  rcases st with _ | ⟨v, _ | ⟨w, st⟩⟩
  · rfl
  · cases v <;> rfl
  cases v with
  | ref z =>
    cases w with
    | ref a =>
      have e := sw_wr h.2.1 a z (mm_a ax 1)
      simp only [mm_op, sw_s, sw_v, List.map_cons, sw_h, sw_lt hN]
      rw [e]
      simp only [sw_sh, sw_pp]
      split <;> rfl
    | _ => rfl
  | _ => first | rfl | (cases w <;> rfl)

theorem sw_o50 (hN : 412 ≤ h.2.2.2.2.1.1) : mm_op m x ax r (sw_L L) (sw_s st) (sw_h h) 50 = sw_Rq (mm_op m x ax r L st h 50) := by
  rcases st with _ | ⟨v, _ | ⟨w, st⟩⟩
  · rfl
  · cases v <;> rfl
  cases v with
  | int z =>
    cases w with
    | ref a =>
      simp only [mm_op, sw_s, sw_v, List.map_cons, sw_h, sw_sh, sw_pp, sw_lt hN, sw_I]
      (repeat' split) <;> first | rfl | contradiction
    | _ => rfl
  | _ => first | rfl | (cases w <;> rfl)

theorem sw_o52 (hN : 412 ≤ h.2.2.2.2.1.1) : mm_op m x ax r (sw_L L) (sw_s st) (sw_h h) 52 = sw_Rq (mm_op m x ax r L st h 52) := by
  rcases st with _ | ⟨v, _ | ⟨w, st⟩⟩
  · rfl
  · cases v <;> rfl
  cases v with
  | int z =>
    cases w with
    | ref a =>
      simp only [mm_op, sw_s, sw_v, List.map_cons, sw_h, sw_sh, sw_pp, sw_lt hN, sw_I]
      (repeat' split) <;> first | rfl | contradiction
    | _ => rfl
  | _ => first | rfl | (cases w <;> rfl)

theorem sw_o54 (hN : 412 ≤ h.2.2.2.2.1.1) : mm_op m x ax r (sw_L L) (sw_s st) (sw_h h) 54 = sw_Rq (mm_op m x ax r L st h 54) := by
  rcases st with _ | ⟨v, _ | ⟨w, st⟩⟩
  · rfl
  · cases v <;> rfl
  cases v with
  | int z =>
    cases w with
    | ref a =>
      simp only [mm_op, sw_s, sw_v, List.map_cons, sw_h, sw_sh, sw_pp, sw_lt hN, sw_I]
      (repeat' split) <;> first | rfl | contradiction
    | _ => rfl
  | _ => first | rfl | (cases w <;> rfl)

theorem sw_o51 (hN : 412 ≤ h.2.2.2.2.1.1) : mm_op m x ax r (sw_L L) (sw_s st) (sw_h h) 51 = sw_Rq (mm_op m x ax r L st h 51) := by
  rcases st with _ | ⟨v, _ | ⟨w, _ | ⟨u, st⟩⟩⟩
  · rfl
  · cases v <;> rfl
  · cases v <;> (cases w <;> rfl)
  cases v with
  | int z =>
    cases w with
    | int i =>
      cases u with
      | ref a =>
        simp only [mm_op, sw_s, sw_v, List.map_cons, sw_h, sw_sh, sw_pp, sw_lt hN, mm_setI, sw_up2]
        (repeat' split) <;> first | rfl | contradiction
      | _ => rfl
    | _ => first | rfl | (cases u <;> rfl)
  | _ => first | rfl | (cases w <;> first | rfl | (cases u <;> rfl))

theorem sw_o53 (hN : 412 ≤ h.2.2.2.2.1.1) : mm_op m x ax r (sw_L L) (sw_s st) (sw_h h) 53 = sw_Rq (mm_op m x ax r L st h 53) := by
  rcases st with _ | ⟨v, _ | ⟨w, _ | ⟨u, st⟩⟩⟩
  · rfl
  · cases v <;> rfl
  · cases v <;> (cases w <;> rfl)
  cases v with
  | int z =>
    cases w with
    | int i =>
      cases u with
      | ref a =>
        simp only [mm_op, sw_s, sw_v, List.map_cons, sw_h, sw_sh, sw_pp, sw_lt hN, mm_setI, sw_up2]
        (repeat' split) <;> first | rfl | contradiction
      | _ => rfl
    | _ => first | rfl | (cases u <;> rfl)
  | _ => first | rfl | (cases w <;> first | rfl | (cases u <;> rfl))

theorem sw_o55 (hN : 412 ≤ h.2.2.2.2.1.1) : mm_op m x ax r (sw_L L) (sw_s st) (sw_h h) 55 = sw_Rq (mm_op m x ax r L st h 55) := by
  rcases st with _ | ⟨v, _ | ⟨w, _ | ⟨u, st⟩⟩⟩
  · rfl
  · cases v <;> rfl
  · cases v <;> (cases w <;> rfl)
  cases v with
  | int z =>
    cases w with
    | int i =>
      cases u with
      | ref a =>
        simp only [mm_op, sw_s, sw_v, List.map_cons, sw_h, sw_sh, sw_pp, sw_lt hN, mm_setI, sw_up2]
        (repeat' split) <;> first | rfl | contradiction
      | _ => rfl
    | _ => first | rfl | (cases u <;> rfl)
  | _ => first | rfl | (cases w <;> first | rfl | (cases u <;> rfl))

theorem sw_o58 (hN : 412 ≤ h.2.2.2.2.1.1) : mm_op m x ax r (sw_L L) (sw_s st) (sw_h h) 58 = sw_Rq (mm_op m x ax r L st h 58) := by
  rcases st with _ | ⟨v, _ | ⟨w, st⟩⟩
  · rfl
  · cases v <;> rfl
  cases v with
  | int z =>
    cases w with
    | ref a =>
      simp only [mm_op, sw_s, sw_v, List.map_cons, sw_h, sw_sh, sw_pp, sw_lt hN]
      split
      · split
        · cases (h.2.1 a).2.2 z.toNatClampNeg <;> rfl
        · rfl
      · rfl
    | _ => rfl
  | _ => first | rfl | (cases w <;> rfl)

theorem sw_o59 (hN : 412 ≤ h.2.2.2.2.1.1) : mm_op m x ax r (sw_L L) (sw_s st) (sw_h h) 59 = sw_Rq (mm_op m x ax r L st h 59) := by
  rcases st with _ | ⟨v, _ | ⟨w, _ | ⟨u, st⟩⟩⟩
  · rfl
  · cases v <;> rfl
  · cases v <;> (cases w <;> rfl)
  cases v with
  | ref z =>
    cases w with
    | int i =>
      cases u with
      | ref a =>
        have e := sw_wr h.2.1 a z i.toNatClampNeg
        simp only [mm_op, sw_s, sw_v, List.map_cons, sw_h, sw_lt hN]
        rw [e]
        simp only [sw_sh, sw_pp]
        (repeat' split) <;> first | rfl | contradiction
      | _ => rfl
    | _ => first | rfl | (cases u <;> rfl)
  | _ => first | rfl | (cases w <;> first | rfl | (cases u <;> rfl))

theorem sw_o60 : mm_op m x ax r (sw_L L) (sw_s st) (sw_h h) 60 = sw_Rq (mm_op m x ax r L st h 60) := by
  rcases st with _ | ⟨v, st⟩
  · rfl
  · cases v <;> rfl

theorem sw_o61 : mm_op m x ax r (sw_L L) (sw_s st) (sw_h h) 61 = sw_Rq (mm_op m x ax r L st h 61) := by
  rcases st with _ | ⟨v, _ | ⟨w, st⟩⟩
  · rfl
  · cases v <;> rfl
  cases v with
  | int i =>
    cases w with
    | float b =>
      by_cases hc : mm_in i h.1.1 = true
      · simp only [mm_op, sw_s, sw_v, List.map_cons, sw_h, hc, if_true]
        rfl
      · simp only [mm_op, sw_s, sw_v, List.map_cons, sw_h, hc]
        rfl
    | _ => rfl
  | _ => cases w <;> rfl

theorem sw_o62 (hN : 412 ≤ h.2.2.2.2.1.1) : mm_op m x ax r (sw_L L) (sw_s st) (sw_h h) 62 = sw_Rq (mm_op m x ax r L st h 62) := by
  simp only [mm_op, sw_h, sw_new h.2.1 hN, sw_newI h.2.2.1 hN]
  split
  · show some (Sum.inl (m, r, sw_L L, Value.ref h.2.2.2.2.1.1 :: sw_s st, _)) = some (Sum.inl (m, r, sw_L L, Value.ref (sw_p h.2.2.2.2.1.1) :: sw_s st, _))
    rw [sw_pN hN]
    rfl
  · rfl

theorem sw_o63 (hN : 412 ≤ h.2.2.2.2.1.1) : mm_op m x ax r (sw_L L) (sw_s st) (sw_h h) 63 = sw_Rq (mm_op m x ax r L st h 63) := by
  rcases st with _ | ⟨v, st⟩
  · rfl
  cases v with
  | int z =>
    simp only [mm_op, sw_s, sw_v, List.map_cons, sw_h, sw_new h.2.1 hN, sw_newI h.2.2.1 hN]
    split
    · show some (Sum.inl (m, r, sw_L L, Value.ref h.2.2.2.2.1.1 :: sw_s st, _)) = some (Sum.inl (m, r, sw_L L, Value.ref (sw_p h.2.2.2.2.1.1) :: sw_s st, _))
      rw [sw_pN hN]
      rfl
    · rfl
  | _ => rfl

theorem sw_o64 (hN : 412 ≤ h.2.2.2.2.1.1) : mm_op m x ax r (sw_L L) (sw_s st) (sw_h h) 64 = sw_Rq (mm_op m x ax r L st h 64) := by
  rcases st with _ | ⟨v, st⟩
  · rfl
  cases v with
  | int z =>
    simp only [mm_op, sw_s, sw_v, List.map_cons, sw_h, sw_new h.2.1 hN, sw_newI h.2.2.1 hN]
    split
    · show some (Sum.inl (m, r, sw_L L, Value.ref h.2.2.2.2.1.1 :: sw_s st, _)) = some (Sum.inl (m, r, sw_L L, Value.ref (sw_p h.2.2.2.2.1.1) :: sw_s st, _))
      rw [sw_pN hN]
      rfl
    · rfl
  | _ => rfl

theorem sw_o65 : mm_op m x ax r (sw_L L) (sw_s st) (sw_h h) 65 = sw_Rq (mm_op m x ax r L st h 65) := by
  exact sw_call m r L st h _ _ _

theorem sw_o66 (hN : 412 ≤ h.2.2.2.2.1.1) : mm_op m x ax r (sw_L L) (sw_s st) (sw_h h) 66 = sw_Rq (mm_op m x ax r L st h 66) := by
  simp only [mm_op, sw_take, sw_rev, sw_isRec h hN, sw_call]
  split <;> rfl

theorem sw_o69 (hN : 412 ≤ h.2.2.2.2.1.1) : mm_op m x ax r (sw_L L) (sw_s st) (sw_h h) 69 = sw_Rq (mm_op m x ax r L st h 69) := by
  simp only [mm_op, sw_take, sw_rev, sw_isRec h hN, sw_call]
  split <;> rfl

theorem sw_o67 : mm_op m x ax r (sw_L L) (sw_s st) (sw_h h) 67 = sw_Rq (mm_op m x ax r L st h 67) := by
  exact sw_callI m r L st h _ _

theorem sw_o68 : mm_op m x ax r (sw_L L) (sw_s st) (sw_h h) 68 = sw_Rq (mm_op m x ax r L st h 68) := by
  rcases st with _ | ⟨v, st⟩
  · rfl
  cases v with
  | ref a =>
    show (if 1 ≤ mm_rk m ∧ mm_wt (sw_s st) ≤ 8 then _ else none) = sw_Rq (if 1 ≤ mm_rk m ∧ mm_wt st ≤ 8 then _ else none)
    rw [sw_wt]
    split <;> rfl
  | _ => rfl

theorem sw_o70 : mm_op m x ax r (sw_L L) (sw_s st) (sw_h h) 70 = sw_Rq (mm_op m x ax r L st h 70) := by
  show (if 6 ≤ mm_rk m ∧ mm_wt (sw_s st) ≤ 8 then _ else none) = sw_Rq (if 6 ≤ mm_rk m ∧ mm_wt st ≤ 8 then _ else none)
  rw [sw_wt]
  split <;> rfl

theorem sw_o73 : mm_op m x ax r (sw_L L) (sw_s st) (sw_h h) 73 = sw_Rq (mm_op m x ax r L st h 73) := by
  rcases st with _ | ⟨v, _ | ⟨w, st⟩⟩
  · rfl
  · cases v <;> rfl
  · cases v <;> (cases w <;> first | rfl | (show (if 1 ≤ mm_rk m ∧ mm_wt (sw_s st) ≤ 8 then _ else none) = sw_Rq (if 1 ≤ mm_rk m ∧ mm_wt st ≤ 8 then _ else none); rw [sw_wt]; split <;> rfl))

theorem sw_o74 : mm_op m x ax r (sw_L L) (sw_s st) (sw_h h) 74 = sw_Rq (mm_op m x ax r L st h 74) := by
  rcases st with _ | ⟨v, _ | ⟨w, st⟩⟩
  · rfl
  · cases v <;> rfl
  · cases v <;> (cases w <;> first | rfl | (show (if 1 ≤ mm_rk m ∧ mm_wt (sw_s st) ≤ 8 then _ else none) = sw_Rq (if 1 ≤ mm_rk m ∧ mm_wt st ≤ 8 then _ else none); rw [sw_wt]; split <;> rfl))

theorem sw_op (hN : 412 ≤ h.2.2.2.2.1.1) (cd : Nat) : mm_op m x ax r (sw_L L) (sw_s st) (sw_h h) cd = sw_Rq (mm_op m x ax r L st h cd) := match cd with
  | 0 => sw_o0
  | 1 => sw_o1
  | 2 => sw_o2
  | 3 => sw_o3
  | 4 => sw_o4
  | 5 => sw_o5
  | 6 => sw_o6
  | 7 => sw_o7
  | 8 => sw_o8
  | 9 => sw_o9
  | 10 => sw_o10
  | 11 => sw_o11
  | 12 => sw_o12
  | 13 => sw_o13
  | 14 => sw_o14
  | 15 => sw_o15
  | 16 => sw_o16
  | 17 => sw_o17
  | 18 => sw_o18
  | 19 => sw_o19
  | 20 => sw_o20
  | 21 => sw_o21
  | 22 => sw_o22
  | 23 => sw_o23
  | 24 => sw_o24
  | 25 => sw_o25
  | 26 => sw_o26
  | 27 => sw_o27
  | 28 => sw_o28
  | 29 => sw_o29
  | 30 => sw_o30
  | 31 => sw_o31
  | 32 => sw_o32
  | 33 => sw_o33
  | 34 => sw_o34
  | 35 => sw_o35
  | 36 => sw_o36
  | 37 => sw_o37
  | 38 => sw_o38
  | 39 => sw_o39
  | 40 => sw_o40
  | 41 => sw_o41
  | 42 => sw_o42
  | 43 => sw_o43
  | 44 => sw_o44
  | 45 => sw_o45 hN
  | 46 => sw_o46 hN
  | 47 => sw_o47 hN
  | 48 => sw_o48 hN
  | 49 => sw_o49 hN
  | 50 => sw_o50 hN
  | 51 => sw_o51 hN
  | 52 => sw_o52 hN
  | 53 => sw_o53 hN
  | 54 => sw_o54 hN
  | 55 => sw_o55 hN
  | 56 => sw_o56
  | 57 => sw_o57
  | 58 => sw_o58 hN
  | 59 => sw_o59 hN
  | 60 => sw_o60
  | 61 => sw_o61
  | 62 => sw_o62 hN
  | 63 => sw_o63 hN
  | 64 => sw_o64 hN
  | 65 => sw_o65
  | 66 => sw_o66 hN
  | 67 => sw_o67
  | 68 => sw_o68
  | 69 => sw_o69 hN
  | 70 => sw_o70
  | 71 => sw_o71
  | 72 => sw_o72
  | 73 => sw_o73
  | 74 => sw_o74
  | 75 => sw_o75
  | 76 => sw_o76
  | 77 => sw_o77
  | 78 => sw_o78
  | n + 79 => rfl
/-- cells are never lost -/
def sw_mo (h : mm_H) (q : mm_Rq) : Prop := match q with
  | none => True
  | some (.inl s) => h.2.2.2.2.1.1 ≤ s.2.2.2.2.2.2.2.2.1.1
  | some (.inr (.inl q)) => h.2.2.2.2.1.1 ≤ q.2.2.2.2.2.1.1
  | some (.inr (.inr q)) => q.1.2.2.2.2 = h ∧ ∀ a g s, q.2 a g = some s → s.2.2.2.2 = g
theorem sw_m0 : sw_mo h (mm_op m x ax r L st h 0) := by
  simp only [mm_op, mm_go]
  (repeat' split) <;> first | exact True.intro | exact Nat.le_refl _ | exact Nat.le_succ _
theorem sw_m1 : sw_mo h (mm_op m x ax r L st h 1) := by
  simp only [mm_op, mm_go]
  (repeat' split) <;> first | exact True.intro | exact Nat.le_refl _ | exact Nat.le_succ _
theorem sw_m2 : sw_mo h (mm_op m x ax r L st h 2) := by
  simp only [mm_op, mm_go]
  (repeat' split) <;> first | exact True.intro | exact Nat.le_refl _ | exact Nat.le_succ _
theorem sw_m3 : sw_mo h (mm_op m x ax r L st h 3) := by
  simp only [mm_op, mm_go]
  (repeat' split) <;> first | exact True.intro | exact Nat.le_refl _ | exact Nat.le_succ _
theorem sw_m4 : sw_mo h (mm_op m x ax r L st h 4) := by
  simp only [mm_op, mm_go]
  (repeat' split) <;> first | exact True.intro | exact Nat.le_refl _ | exact Nat.le_succ _
theorem sw_m5 : sw_mo h (mm_op m x ax r L st h 5) := by
  simp only [mm_op, mm_go]
  (repeat' split) <;> first | exact True.intro | exact Nat.le_refl _ | exact Nat.le_succ _
theorem sw_m6 : sw_mo h (mm_op m x ax r L st h 6) := by
  simp only [mm_op, mm_go]
  (repeat' split) <;> first | exact True.intro | exact Nat.le_refl _ | exact Nat.le_succ _
theorem sw_m7 : sw_mo h (mm_op m x ax r L st h 7) := by
  simp only [mm_op, mm_go]
  (repeat' split) <;> first | exact True.intro | exact Nat.le_refl _ | exact Nat.le_succ _
theorem sw_m8 : sw_mo h (mm_op m x ax r L st h 8) := by
  simp only [mm_op, mm_go]
  (repeat' split) <;> first | exact True.intro | exact Nat.le_refl _ | exact Nat.le_succ _
theorem sw_m9 : sw_mo h (mm_op m x ax r L st h 9) := by
  simp only [mm_op, mm_go]
  (repeat' split) <;> first | exact True.intro | exact Nat.le_refl _ | exact Nat.le_succ _
theorem sw_m10 : sw_mo h (mm_op m x ax r L st h 10) := by
  simp only [mm_op, mm_go]
  (repeat' split) <;> first | exact True.intro | exact Nat.le_refl _ | exact Nat.le_succ _
theorem sw_m11 : sw_mo h (mm_op m x ax r L st h 11) := by
  simp only [mm_op, mm_go]
  (repeat' split) <;> first | exact True.intro | exact Nat.le_refl _ | exact Nat.le_succ _
theorem sw_m12 : sw_mo h (mm_op m x ax r L st h 12) := by
  simp only [mm_op, mm_go]
  (repeat' split) <;> first | exact True.intro | exact Nat.le_refl _ | exact Nat.le_succ _
theorem sw_m13 : sw_mo h (mm_op m x ax r L st h 13) := by
  simp only [mm_op, mm_go]
  (repeat' split) <;> first | exact True.intro | exact Nat.le_refl _ | exact Nat.le_succ _
theorem sw_m14 : sw_mo h (mm_op m x ax r L st h 14) := by
  simp only [mm_op, mm_go]
  (repeat' split) <;> first | exact True.intro | exact Nat.le_refl _ | exact Nat.le_succ _
theorem sw_m15 : sw_mo h (mm_op m x ax r L st h 15) := by
  simp only [mm_op, mm_go]
  (repeat' split) <;> first | exact True.intro | exact Nat.le_refl _ | exact Nat.le_succ _
theorem sw_m16 : sw_mo h (mm_op m x ax r L st h 16) := by
  simp only [mm_op, mm_go]
  (repeat' split) <;> first | exact True.intro | exact Nat.le_refl _ | exact Nat.le_succ _
theorem sw_m17 : sw_mo h (mm_op m x ax r L st h 17) := by
  simp only [mm_op, mm_go]
  (repeat' split) <;> first | exact True.intro | exact Nat.le_refl _ | exact Nat.le_succ _
theorem sw_m18 : sw_mo h (mm_op m x ax r L st h 18) := by
  simp only [mm_op, mm_go]
  (repeat' split) <;> first | exact True.intro | exact Nat.le_refl _ | exact Nat.le_succ _
theorem sw_m19 : sw_mo h (mm_op m x ax r L st h 19) := by
  simp only [mm_op, mm_go]
  (repeat' split) <;> first | exact True.intro | exact Nat.le_refl _ | exact Nat.le_succ _
theorem sw_m20 : sw_mo h (mm_op m x ax r L st h 20) := by
  simp only [mm_op, mm_go]
  (repeat' split) <;> first | exact True.intro | exact Nat.le_refl _ | exact Nat.le_succ _
theorem sw_m21 : sw_mo h (mm_op m x ax r L st h 21) := by
  simp only [mm_op, mm_go]
  (repeat' split) <;> first | exact True.intro | exact Nat.le_refl _ | exact Nat.le_succ _
theorem sw_m22 : sw_mo h (mm_op m x ax r L st h 22) := by
  simp only [mm_op, mm_go]
  (repeat' split) <;> first | exact True.intro | exact Nat.le_refl _ | exact Nat.le_succ _
theorem sw_m23 : sw_mo h (mm_op m x ax r L st h 23) := by
  simp only [mm_op, mm_go]
  (repeat' split) <;> first | exact True.intro | exact Nat.le_refl _ | exact Nat.le_succ _
theorem sw_m24 : sw_mo h (mm_op m x ax r L st h 24) := by
  simp only [mm_op, mm_go]
  (repeat' split) <;> first | exact True.intro | exact Nat.le_refl _ | exact Nat.le_succ _
theorem sw_m25 : sw_mo h (mm_op m x ax r L st h 25) := by
  simp only [mm_op, mm_go]
  (repeat' split) <;> first | exact True.intro | exact Nat.le_refl _ | exact Nat.le_succ _
theorem sw_m26 : sw_mo h (mm_op m x ax r L st h 26) := by
  simp only [mm_op, mm_go]
  (repeat' split) <;> first | exact True.intro | exact Nat.le_refl _ | exact Nat.le_succ _
theorem sw_m27 : sw_mo h (mm_op m x ax r L st h 27) := by
  simp only [mm_op, mm_go]
  (repeat' split) <;> first | exact True.intro | exact Nat.le_refl _ | exact Nat.le_succ _
theorem sw_m28 : sw_mo h (mm_op m x ax r L st h 28) := by
  simp only [mm_op, mm_go]
  (repeat' split) <;> first | exact True.intro | exact Nat.le_refl _ | exact Nat.le_succ _
theorem sw_m29 : sw_mo h (mm_op m x ax r L st h 29) := by
  simp only [mm_op, mm_go]
  (repeat' split) <;> first | exact True.intro | exact Nat.le_refl _ | exact Nat.le_succ _
theorem sw_m30 : sw_mo h (mm_op m x ax r L st h 30) := by
  simp only [mm_op, mm_go]
  (repeat' split) <;> first | exact True.intro | exact Nat.le_refl _ | exact Nat.le_succ _
theorem sw_m31 : sw_mo h (mm_op m x ax r L st h 31) := by
  simp only [mm_op, mm_go]
  (repeat' split) <;> first | exact True.intro | exact Nat.le_refl _ | exact Nat.le_succ _
theorem sw_m32 : sw_mo h (mm_op m x ax r L st h 32) := by
  simp only [mm_op, mm_go]
  (repeat' split) <;> first | exact True.intro | exact Nat.le_refl _ | exact Nat.le_succ _
theorem sw_m33 : sw_mo h (mm_op m x ax r L st h 33) := by
  simp only [mm_op, mm_go]
  (repeat' split) <;> first | exact True.intro | exact Nat.le_refl _ | exact Nat.le_succ _
theorem sw_m34 : sw_mo h (mm_op m x ax r L st h 34) := by
  simp only [mm_op, mm_go]
  (repeat' split) <;> first | exact True.intro | exact Nat.le_refl _ | exact Nat.le_succ _
theorem sw_m35 : sw_mo h (mm_op m x ax r L st h 35) := by
  simp only [mm_op, mm_go]
  (repeat' split) <;> first | exact True.intro | exact Nat.le_refl _ | exact Nat.le_succ _
theorem sw_m36 : sw_mo h (mm_op m x ax r L st h 36) := by
  simp only [mm_op, mm_go]
  (repeat' split) <;> first | exact True.intro | exact Nat.le_refl _ | exact Nat.le_succ _
theorem sw_m37 : sw_mo h (mm_op m x ax r L st h 37) := by
  simp only [mm_op, mm_go]
  (repeat' split) <;> first | exact True.intro | exact Nat.le_refl _ | exact Nat.le_succ _
theorem sw_m38 : sw_mo h (mm_op m x ax r L st h 38) := by
  simp only [mm_op, mm_go]
  (repeat' split) <;> first | exact True.intro | exact Nat.le_refl _ | exact Nat.le_succ _
theorem sw_m39 : sw_mo h (mm_op m x ax r L st h 39) := by
  simp only [mm_op, mm_go]
  (repeat' split) <;> first | exact True.intro | exact Nat.le_refl _ | exact Nat.le_succ _
theorem sw_m40 : sw_mo h (mm_op m x ax r L st h 40) := by
  simp only [mm_op, mm_go]
  (repeat' split) <;> first | exact True.intro | exact Nat.le_refl _ | exact Nat.le_succ _
theorem sw_m41 : sw_mo h (mm_op m x ax r L st h 41) := by
  simp only [mm_op, mm_go]
  (repeat' split) <;> first | exact True.intro | exact Nat.le_refl _ | exact Nat.le_succ _
theorem sw_m42 : sw_mo h (mm_op m x ax r L st h 42) := by
  simp only [mm_op, mm_go]
  (repeat' split) <;> first | exact True.intro | exact Nat.le_refl _ | exact Nat.le_succ _
theorem sw_m43 : sw_mo h (mm_op m x ax r L st h 43) := by
  simp only [mm_op, mm_go]
  (repeat' split) <;> first | exact True.intro | exact Nat.le_refl _ | exact Nat.le_succ _
theorem sw_m44 : sw_mo h (mm_op m x ax r L st h 44) := by
  simp only [mm_op, mm_go]
  (repeat' split) <;> first | exact True.intro | exact Nat.le_refl _ | exact Nat.le_succ _
theorem sw_m45 : sw_mo h (mm_op m x ax r L st h 45) := by
  simp only [mm_op, mm_go]
  (repeat' split) <;> first | exact True.intro | exact Nat.le_refl _ | exact Nat.le_succ _
theorem sw_m46 : sw_mo h (mm_op m x ax r L st h 46) := by
  simp only [mm_op, mm_go]
  (repeat' split) <;> first | exact True.intro | exact Nat.le_refl _ | exact Nat.le_succ _
theorem sw_m47 : sw_mo h (mm_op m x ax r L st h 47) := by
  simp only [mm_op, mm_go]
  (repeat' split) <;> first | exact True.intro | exact Nat.le_refl _ | exact Nat.le_succ _
theorem sw_m48 : sw_mo h (mm_op m x ax r L st h 48) := by
  simp only [mm_op, mm_go]
  (repeat' split) <;> first | exact True.intro | exact Nat.le_refl _ | exact Nat.le_succ _
theorem sw_m49 : sw_mo h (mm_op m x ax r L st h 49) := by
  simp only [mm_op, mm_go]
  (repeat' split) <;> first | exact True.intro | exact Nat.le_refl _ | exact Nat.le_succ _
theorem sw_m50 : sw_mo h (mm_op m x ax r L st h 50) := by
  simp only [mm_op, mm_go]
  (repeat' split) <;> first | exact True.intro | exact Nat.le_refl _ | exact Nat.le_succ _
theorem sw_m51 : sw_mo h (mm_op m x ax r L st h 51) := by
  simp only [mm_op, mm_go]
  (repeat' split) <;> first | exact True.intro | exact Nat.le_refl _ | exact Nat.le_succ _
theorem sw_m52 : sw_mo h (mm_op m x ax r L st h 52) := by
  simp only [mm_op, mm_go]
  (repeat' split) <;> first | exact True.intro | exact Nat.le_refl _ | exact Nat.le_succ _
theorem sw_m53 : sw_mo h (mm_op m x ax r L st h 53) := by
  simp only [mm_op, mm_go]
  (repeat' split) <;> first | exact True.intro | exact Nat.le_refl _ | exact Nat.le_succ _
theorem sw_m54 : sw_mo h (mm_op m x ax r L st h 54) := by
  simp only [mm_op, mm_go]
  (repeat' split) <;> first | exact True.intro | exact Nat.le_refl _ | exact Nat.le_succ _
theorem sw_m55 : sw_mo h (mm_op m x ax r L st h 55) := by
  simp only [mm_op, mm_go]
  (repeat' split) <;> first | exact True.intro | exact Nat.le_refl _ | exact Nat.le_succ _
theorem sw_m56 : sw_mo h (mm_op m x ax r L st h 56) := by
  simp only [mm_op, mm_go]
  (repeat' split) <;> first | exact True.intro | exact Nat.le_refl _ | exact Nat.le_succ _
theorem sw_m57 : sw_mo h (mm_op m x ax r L st h 57) := by
  simp only [mm_op, mm_go]
  (repeat' split) <;> first | exact True.intro | exact Nat.le_refl _ | exact Nat.le_succ _
theorem sw_m58 : sw_mo h (mm_op m x ax r L st h 58) := by
  simp only [mm_op, mm_go]
  (repeat' split) <;> first | exact True.intro | exact Nat.le_refl _ | exact Nat.le_succ _
theorem sw_m59 : sw_mo h (mm_op m x ax r L st h 59) := by
  simp only [mm_op, mm_go]
  (repeat' split) <;> first | exact True.intro | exact Nat.le_refl _ | exact Nat.le_succ _
theorem sw_m60 : sw_mo h (mm_op m x ax r L st h 60) := by
  simp only [mm_op, mm_go]
  (repeat' split) <;> first | exact True.intro | exact Nat.le_refl _ | exact Nat.le_succ _
theorem sw_m61 : sw_mo h (mm_op m x ax r L st h 61) := by
  simp only [mm_op, mm_go]
  (repeat' split) <;> first | exact True.intro | exact Nat.le_refl _ | exact Nat.le_succ _
theorem sw_m62 : sw_mo h (mm_op m x ax r L st h 62) := by
  simp only [mm_op, mm_go]
  (repeat' split) <;> first | exact True.intro | exact Nat.le_refl _ | exact Nat.le_succ _
theorem sw_m63 : sw_mo h (mm_op m x ax r L st h 63) := by
  simp only [mm_op, mm_go]
  (repeat' split) <;> first | exact True.intro | exact Nat.le_refl _ | exact Nat.le_succ _
theorem sw_m64 : sw_mo h (mm_op m x ax r L st h 64) := by
  simp only [mm_op, mm_go]
  (repeat' split) <;> first | exact True.intro | exact Nat.le_refl _ | exact Nat.le_succ _
theorem sw_m65 : sw_mo h (mm_op m x ax r L st h 65) := by
  simp only [mm_op, mm_call]
  (repeat' split) <;> first | exact True.intro | exact ⟨rfl, fun a g s hs => @mm_mb m r L (List.drop (mm_a ax 1) st) [] a g s hs⟩
theorem sw_m66 : sw_mo h (mm_op m x ax r L st h 66) := by
  simp only [mm_op, mm_call]
  (repeat' split) <;> first | exact True.intro | exact ⟨rfl, fun a g s hs => @mm_mb m r L (List.drop (mm_a ax 1) st) [] a g s hs⟩
theorem sw_m67 : sw_mo h (mm_op m x ax r L st h 67) := by
  simp only [mm_op, mm_callI]
  (repeat' split) <;> first | exact True.intro | exact ⟨rfl, fun a g s hs => @mm_mbI m r L (List.drop (mm_a ax 1) st) a g s hs⟩
theorem sw_m68 : sw_mo h (mm_op m x ax r L st h 68) := by
  simp only [mm_op, mm_go]
  (repeat' split) <;> first | exact True.intro | exact Nat.le_refl _ | exact Nat.le_succ _
theorem sw_m69 : sw_mo h (mm_op m x ax r L st h 69) := by
  simp only [mm_op, mm_call]
  (repeat' split) <;> first | exact True.intro | exact ⟨rfl, fun a g s hs => @mm_mb m r L (List.drop (mm_a ax 1) st) (List.drop 6 ax) a g s hs⟩
theorem sw_m70 : sw_mo h (mm_op m x ax r L st h 70) := by
  simp only [mm_op, mm_go]
  (repeat' split) <;> first | exact True.intro | exact Nat.le_refl _ | exact Nat.le_succ _
theorem sw_m71 : sw_mo h (mm_op m x ax r L st h 71) := by
  simp only [mm_op, mm_go]
  (repeat' split) <;> first | exact True.intro | exact Nat.le_refl _ | exact Nat.le_succ _
theorem sw_m72 : sw_mo h (mm_op m x ax r L st h 72) := by
  simp only [mm_op, mm_go]
  (repeat' split) <;> first | exact True.intro | exact Nat.le_refl _ | exact Nat.le_succ _
theorem sw_m73 : sw_mo h (mm_op m x ax r L st h 73) := by
  simp only [mm_op, mm_go]
  (repeat' split) <;> first | exact True.intro | exact Nat.le_refl _ | exact Nat.le_succ _
theorem sw_m74 : sw_mo h (mm_op m x ax r L st h 74) := by
  simp only [mm_op, mm_go]
  (repeat' split) <;> first | exact True.intro | exact Nat.le_refl _ | exact Nat.le_succ _
theorem sw_m75 : sw_mo h (mm_op m x ax r L st h 75) := by
  simp only [mm_op, mm_go]
  (repeat' split) <;> first | exact True.intro | exact Nat.le_refl _ | exact Nat.le_succ _
theorem sw_m76 : sw_mo h (mm_op m x ax r L st h 76) := by
  simp only [mm_op, mm_go]
  (repeat' split) <;> first | exact True.intro | exact Nat.le_refl _ | exact Nat.le_succ _
theorem sw_m77 : sw_mo h (mm_op m x ax r L st h 77) := by
  simp only [mm_op, mm_go]
  (repeat' split) <;> first | exact True.intro | exact Nat.le_refl _ | exact Nat.le_succ _
theorem sw_m78 : sw_mo h (mm_op m x ax r L st h 78) := by
  simp only [mm_op, mm_go]
  (repeat' split) <;> first | exact True.intro | exact Nat.le_refl _ | exact Nat.le_succ _
theorem sw_mAll (cd : Nat) : sw_mo h (mm_op m x ax r L st h cd) := match cd with
  | 0 => sw_m0
  | 1 => sw_m1
  | 2 => sw_m2
  | 3 => sw_m3
  | 4 => sw_m4
  | 5 => sw_m5
  | 6 => sw_m6
  | 7 => sw_m7
  | 8 => sw_m8
  | 9 => sw_m9
  | 10 => sw_m10
  | 11 => sw_m11
  | 12 => sw_m12
  | 13 => sw_m13
  | 14 => sw_m14
  | 15 => sw_m15
  | 16 => sw_m16
  | 17 => sw_m17
  | 18 => sw_m18
  | 19 => sw_m19
  | 20 => sw_m20
  | 21 => sw_m21
  | 22 => sw_m22
  | 23 => sw_m23
  | 24 => sw_m24
  | 25 => sw_m25
  | 26 => sw_m26
  | 27 => sw_m27
  | 28 => sw_m28
  | 29 => sw_m29
  | 30 => sw_m30
  | 31 => sw_m31
  | 32 => sw_m32
  | 33 => sw_m33
  | 34 => sw_m34
  | 35 => sw_m35
  | 36 => sw_m36
  | 37 => sw_m37
  | 38 => sw_m38
  | 39 => sw_m39
  | 40 => sw_m40
  | 41 => sw_m41
  | 42 => sw_m42
  | 43 => sw_m43
  | 44 => sw_m44
  | 45 => sw_m45
  | 46 => sw_m46
  | 47 => sw_m47
  | 48 => sw_m48
  | 49 => sw_m49
  | 50 => sw_m50
  | 51 => sw_m51
  | 52 => sw_m52
  | 53 => sw_m53
  | 54 => sw_m54
  | 55 => sw_m55
  | 56 => sw_m56
  | 57 => sw_m57
  | 58 => sw_m58
  | 59 => sw_m59
  | 60 => sw_m60
  | 61 => sw_m61
  | 62 => sw_m62
  | 63 => sw_m63
  | 64 => sw_m64
  | 65 => sw_m65
  | 66 => sw_m66
  | 67 => sw_m67
  | 68 => sw_m68
  | 69 => sw_m69
  | 70 => sw_m70
  | 71 => sw_m71
  | 72 => sw_m72
  | 73 => sw_m73
  | 74 => sw_m74
  | 75 => sw_m75
  | 76 => sw_m76
  | 77 => sw_m77
  | 78 => sw_m78
  | n + 79 => True.intro
theorem sw_step (s : mm_S) (hN : 412 ≤ s.2.2.2.2.2.2.2.2.1.1) : mm_step (sw_S s) = sw_Rq (mm_step s) := by
  obtain ⟨m, ops, L, st, h⟩ := s
  match ops with
  | [] => rfl
  | (pc, cd, x, ax) :: r => exact sw_op hN cd
theorem sw_mstep (s : mm_S) : sw_mo s.2.2.2.2 (mm_step s) := by
  obtain ⟨m, ops, L, st, h⟩ := s
  match ops with
  | [] => exact True.intro
  | (pc, cd, x, ax) :: r => exact sw_mAll cd
theorem sw_ex {s : mm_S} {Q : mm_Q} (hC : mm_C s Q) : ∃ a g, Q a g ∧ s.2.2.2.2.2.2.2.2.1.1 ≤ g.2.2.2.2.1.1 := by
  refine mm_C_ind (P := fun s Q => ∃ a g, Q a g ∧ s.2.2.2.2.2.2.2.2.1.1 ≤ g.2.2.2.2.1.1) ?_ hC
  intro s Q hF
  have hm := sw_mstep s
  unfold mm_F at hF
  generalize mm_step s = q at hF hm
  match q, hF, hm with
  | some (.inl s'), hF, hm =>
    obtain ⟨-, a, g, h1, h2⟩ := hF
    exact ⟨a, g, h1, Nat.le_trans hm h2⟩
  | some (.inr (.inl q)), hF, hm => exact ⟨q.1, q.2, hF, hm⟩
  | some (.inr (.inr q)), hF, hm =>
    obtain ⟨a, g, ⟨-, b, j, ⟨-, hj⟩, h1⟩, h2⟩ := hF
    obtain ⟨hm1, hm2⟩ := (hm : q.1.2.2.2.2 = s.2.2.2.2 ∧ ∀ a g s, q.2 a g = some s → s.2.2.2.2 = g)
    rw [hm1, hj] at h1
    cases hk : q.2 a g with
    | none =>
      rw [hk] at h2
      exact ⟨a, g, h2, h1⟩
    | some s' =>
      rw [hk] at h2
      obtain ⟨-, a', g', h3, h4⟩ := h2
      rw [hm2 _ _ _ hk] at h4
      exact ⟨a', g', h3, Nat.le_trans h1 h4⟩
def sw_Q (Q : mm_Q) : mm_Q := fun a g => 412 ≤ g.2.2.2.2.1.1 ∧ Q (sw_r a) (sw_h g)
theorem sw_C {s : mm_S} {Q : mm_Q} (hC : mm_C s Q) : 412 ≤ s.2.2.2.2.2.2.2.2.1.1 → mm_C (sw_S s) (sw_Q Q) := by
  refine mm_C_ind (P := fun s Q => 412 ≤ s.2.2.2.2.2.2.2.2.1.1 → mm_C (sw_S s) (sw_Q Q)) ?_ hC
  intro s Q hF hN
  have hm := sw_mstep s
  apply mm_C_in
  unfold mm_F at hF ⊢
  rw [sw_step s hN]
  generalize mm_step s = q at hF hm
  match q, hF, hm with
  | some (.inl s'), hF, hm => exact hF.2 (Nat.le_trans hN hm)
  | some (.inr (.inl q)), hF, hm =>
    show 412 ≤ (sw_h q.2).2.2.2.2.1.1 ∧ Q (sw_r (sw_r q.1)) (sw_h (sw_h q.2))
    rw [sw_rr, sw_hh]
    exact ⟨Nat.le_trans hN hm, hF⟩
  | some (.inr (.inr q)), hF, hm =>
    obtain ⟨a, g, h1, h2⟩ := hF
    obtain ⟨hm1, hm2⟩ := (hm : q.1.2.2.2.2 = s.2.2.2.2 ∧ ∀ a g s, q.2 a g = some s → s.2.2.2.2 = g)
    have h3 := h1.2 (by rw [hm1]; exact hN)
    have hg : 412 ≤ g.2.2.2.2.1.1 := by
      obtain ⟨b, j, ⟨-, hj⟩, h4⟩ := sw_ex h1.1
      rw [hm1] at h4
      rw [← hj]
      exact Nat.le_trans hN h4
    refine ⟨sw_r a, sw_h g, mm_C_mono h3 ?_, ?_⟩
    · rintro b j ⟨-, h4, h5⟩
      exact ⟨by rw [← h4, sw_rr], by rw [← h5, sw_hh]⟩
    · show match (q.2 (sw_r (sw_r a)) (sw_h (sw_h g))).map sw_S with
        | some s' => mm_C s' (sw_Q Q)
        | none => sw_Q Q (sw_r a) (sw_h g)
      rw [sw_rr, sw_hh]
      cases hk : q.2 a g with
      | none =>
        rw [hk] at h2
        show 412 ≤ (sw_h g).2.2.2.2.1.1 ∧ Q (sw_r (sw_r a)) (sw_h (sw_h g))
        rw [sw_rr, sw_hh]
        exact ⟨hg, h2⟩
      | some s' =>
        rw [hk] at h2
        exact h2.2 (by rw [hm2 _ _ _ hk]; exact hg)

theorem sw_sh0 : sw_sh mm_sh0 = mm_sh0 := by
  have h1 : ∀ a, a < 412 → (mm_shT.getD (sw_p a) (100, 0, [])).1 = (mm_shT.getD a (100, 0, [])).1 ∧ (mm_shT.getD (sw_p a) (100, 0, [])).2.1 = (mm_shT.getD a (100, 0, [])).2.1 ∧ (mm_shT.getD (sw_p a) (100, 0, [])).2.2.map (Option.map sw_p) = (mm_shT.getD a (100, 0, [])).2.2 := by decide +kernel
  have hl : mm_shT.length = 412 := by decide +kernel
  funext a
  show ((mm_shT.getD (sw_p a) (100, 0, [])).1, (mm_shT.getD (sw_p a) (100, 0, [])).2.1, fun k => ((mm_shT.getD (sw_p a) (100, 0, [])).2.2.getD k none).map sw_p) = ((mm_shT.getD a (100, 0, [])).1, (mm_shT.getD a (100, 0, [])).2.1, fun k => (mm_shT.getD a (100, 0, [])).2.2.getD k none)
  by_cases ha : a < 412
  · obtain ⟨e1, e2, e3⟩ := h1 a ha
    rw [e1, e2, ← e3]
    congr 2
    funext k
    have e : ∀ (X : List (Option Nat)) (k : Nat), (X.getD k none).map sw_p = (X.map (Option.map sw_p)).getD k none := fun X k => by
      rw [List.getD_eq_getElem?_getD, List.getD_eq_getElem?_getD, List.getElem?_map]
      cases X[k]? <;> rfl
    exact e _ k
  · have e : sw_p a = a := by
      unfold sw_p
      rw [if_neg (by omega), if_neg ha]
    have e2 : mm_shT.getD a (100, 0, []) = (100, 0, []) := by
      rw [List.getD_eq_getElem?_getD, List.getElem?_eq_none (by omega)]
      rfl
    rw [e, e2]
    rfl
theorem sw_hp (sc : Nat × (Nat → Int32)) (I : Nat → Nat → Int32) (o : Int64) (t : Nat) : sw_h (hp sc I o t) = hp sc (sw_I I) o t := by
  unfold sw_h hp
  rw [sw_sh0]
/-- a call on the one object is a call on the other -/
theorem sw_run {mid : Nat} {vs : List Value} {sc : Nat × (Nat → Int32)} {I : Nat → Nat → Int32} {o : Int64} {t : Nat} {Q : mm_Q} (h : mm_C (mm_entry mid (sw_s vs) (hp sc (sw_I I) o t)) (fun a g => Q (sw_r a) (sw_h g))) : mm_C (mm_entry mid vs (hp sc I o t)) Q := by
  have h1 := sw_C h (by show 412 ≤ 412; omega)
  rw [← sw_entry, sw_ss, sw_hp, sw_II] at h1
  refine mm_C_mono h1 ?_
  rintro a g ⟨-, h2⟩
  rw [sw_rr, sw_hh] at h2
  exact h2
end SW
