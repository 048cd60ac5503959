/-! THE SMALL MACHINE: the methods' code over a heap of planes (numbers by cell and place), its runs as a least relation. Pure: no word of the model's machine but its values. -/
abbrev mm_Sh : Type := Nat × Nat × (Nat → Option Nat)
/-- (script, shapes, ints, the long, (cells made, slots made), throws) -/
abbrev mm_H : Type := (Nat × (Nat → Int32)) × (Nat → mm_Sh) × (Nat → Nat → Int32) × Int64 × (Nat × Nat) × Nat
abbrev mm_L : Type := List (Option Value)
abbrev mm_R : Type := Option Value ⊕ Nat
abbrev mm_S : Type := Nat × List mm_Op × mm_L × List Value × mm_H
abbrev mm_Q : Type := mm_R → mm_H → Prop
abbrev mm_P : Type := mm_S → mm_Q → Prop
/-- what a step asks: go on; end; a call: the callee's start, and how it goes on -/
abbrev mm_Rq : Type := Option (mm_S ⊕ (mm_R × mm_H) ⊕ (mm_S × (mm_R → mm_H → Option mm_S)))
def mm_up {α : Type} (f : Nat → α) (k : Nat) (v : α) : Nat → α := fun j => if j = k then v else f j
def mm_up2 (f : Nat → Nat → Int32) (a k : Nat) (v : Int32) : Nat → Nat → Int32 := fun b j => if b = a then (if j = k then v else f b j) else f b j
def mm_a (ax : List Nat) (k : Nat) : Nat := ax.getD k 0
def mm_lI (L : mm_L) (k : Nat) : Option Int32 := match L[k]? with
  | some (some (.int v)) => some v
  | _ => none
def mm_lJ (L : mm_L) (k : Nat) : Option Int64 := match L[k]? with
  | some (some (.long v)) => some v
  | _ => none
def mm_lA (L : mm_L) (k : Nat) : Option Value := match L[k]? with
  | some (some (.ref a)) => some (.ref a)
  | some (some (.float b)) => some (.float b)
  | _ => none
def mm_isJ (L : mm_L) (k : Nat) : Bool := match L[k]? with
  | some (some (.long _)) => true
  | some (some (.double _)) => true
  | _ => false
/-- a store of one word: the place ahead holds no long -/
def mm_st1 (L : mm_L) (k : Nat) (v : Value) : Option mm_L := if k < L.length ∧ (k = 0 ∨ mm_isJ L (k - 1) = false) then some (L.set k (some v)) else none
def mm_st2 (L : mm_L) (k : Nat) (v : Value) : Option mm_L := if k + 1 < L.length ∧ (k = 0 ∨ mm_isJ L (k - 1) = false) then some ((L.set k (some v)).set (k + 1) none) else none
def mm_go (s : mm_S) : mm_Rq := some (.inl s)
def mm_cnd : Nat → Int32 → Int32 → Bool
  | 0, a, b => decide (a = b)
  | 1, a, b => decide (¬ a = b)
  | 2, a, b => decide (a < b)
  | 3, a, b => decide (b ≤ a)
  | 4, a, b => decide (b < a)
  | _, a, b => decide (a ≤ b)
def mm_sw (low : Int32) (ax : List Nat) (v : Int32) : Nat := if low ≤ v ∧ (v.toInt - low.toInt).toNat + 1 < ax.length then ax.getD ((v.toInt - low.toInt).toNat + 1) 0 else ax.getD 0 0
def mm_nf : Nat → Nat
  | 0 => 3 | 1 => 2 | 2 => 4 | 3 => 13 | 4 => 5 | 5 => 7 | _ => 13
/-- the callee's locals -/
def mm_ent : List Value → mm_L
  | [] => []
  | .long v :: r => some (.long v) :: none :: mm_ent r
  | .double v :: r => some (.double v) :: none :: mm_ent r
  | v :: r => some v :: mm_ent r
def mm_wt (st : List Value) : Nat := (st.map fun v => v.category).sum
def mm_in (i : Int32) (n : Nat) : Bool := decide (0 ≤ i) && decide (i.toNatClampNeg < n)
def mm_hnd (ax : List Nat) (E : Nat) : Option (Nat × Nat) := match ax with
  | e :: k :: b :: _ :: r => if e = E then some (k, b) else match r with
    | e :: k :: b :: _ :: r => if e = E then some (k, b) else match r with
      | e :: k :: b :: _ :: _ => if e = E then some (k, b) else none
      | _ => none
    | _ => none
  | _ => none
def mm_kill (L : mm_L) (k : Nat) : mm_L := (if mm_isJ L (k - 1) = true then L.set (k - 1) none else L).set k none
/-- the law's negative long constants -/
def mm_LC (k : Nat) : Int64 := ([-9000000000000000001, -9000000000000000002, -9000000000000000003, -1] : List Int64).getD k 0
def mm_mxL (m : Nat) : Nat := ([2, 1, 2, 2, 1, 1, 2, 2, 2, 4, 2, 3, 9, 5, 1, 1, 2, 2, 2, 3, 3, 3, 4, 3, 2, 7, 4, 2, 2, 2, 2, 3, 3, 4, 3, 2, 5, 3, 3, 3, 4, 4, 2, 4, 1, 1, 1, 4, 3, 2, 2, 1, 2, 3, 2, 2, 2, 1, 1, 4, 2, 2, 2, 2, 2, 1, 1, 1, 3, 2, 2, 1, 1, 1, 1, 1, 1, 1, 1, 1, 1, 3, 2, 2, 4, 4, 3, 2, 2, 1, 4, 2, 1, 4, 2, 4, 3, 7, 4, 2, 2, 1, 1, 1, 3, 2, 2, 6, 3, 2, 3, 3, 3, 3, 3, 3, 4, 3, 4, 4, 3, 3, 2, 3, 3, 3, 3, 3, 5, 3, 3, 4, 5, 10, 16, 4, 3, 2, 6, 5, 7] : List Nat).getD m 0
def mm_rk (m : Nat) : Nat := ([3, 0, 2, 2, 1, 0, 0, 0, 0, 3, 1, 2, 1, 1, 1, 0, 0, 2, 1, 1, 1, 0, 0, 0, 1, 0, 0, 1, 1, 1, 0, 0, 1, 1, 4, 2, 3, 2, 1, 1, 2, 4, 3, 2, 1, 0, 0, 0, 0, 0, 2, 0, 1, 1, 1, 4, 7, 1, 4, 6, 5, 7, 7, 7, 7, 2, 1, 1, 1, 7, 7, 1, 2, 2, 0, 0, 2, 0, 0, 0, 0, 7, 7, 3, 7, 7, 7, 3, 7, 6, 7, 7, 2, 7, 7, 7, 2, 7, 5, 7, 7, 6, 6, 6, 6, 6, 0, 0, 8, 7, 8, 8, 8, 8, 8, 8, 8, 8, 8, 8, 8, 8, 7, 8, 8, 8, 8, 8, 8, 8, 8, 9, 10, 9, 10, 9, 10, 9, 10, 9, 11] : List Nat).getD m 0
def mm_pad (L : mm_L) (n : Nat) : mm_L := L ++ List.replicate (n - L.length) none
def mm_entry (mid : Nat) (args : List Value) (h : mm_H) : mm_S := (mid, mm_blk mid 0, mm_pad (mm_ent args) (mm_mxL mid), [], h)
def mm_back (m : Nat) (r : List mm_Op) (L : mm_L) (st : List Value) : mm_R → mm_H → Option mm_S := fun a h => match a with
  | .inl v => some (m, r, L, v.toList ++ st, h)
  | .inr _ => none
def mm_backH (m : Nat) (r : List mm_Op) (L : mm_L) (st : List Value) (hs : List Nat) : mm_R → mm_H → Option mm_S := fun a h => match a with
  | .inl v => some (m, r, L, v.toList ++ st, h)
  | .inr E => match mm_hnd hs E with
    | some (k, b) => some (m, mm_blk m b, mm_kill L k, [], h)
    | none => if hs.isEmpty then none else some (m, [], L, [], h)
def mm_backI (m : Nat) (r : List mm_Op) (L : mm_L) (st : List Value) : mm_R → mm_H → Option mm_S := fun a h => match a with
  | .inl v => some (m, r, L, v.toList ++ st, h)
  | .inr _ => some (m, [], L, [], h)
def mm_isRf : List Value → Bool
  | .ref _ :: _ => true
  | _ => false
def mm_callI (m : Nat) (r : List mm_Op) (L : mm_L) (st : List Value) (h : mm_H) (mid n : Nat) : mm_Rq :=
  if mm_rk mid + 1 ≤ mm_rk m ∧ n ≤ st.length ∧ mm_wt (st.drop n) ≤ 8 ∧ mm_wt (st.take n).reverse ≤ mm_mxL mid ∧ mm_isRf (st.take n).reverse = true then some (.inr (.inr (mm_entry mid (st.take n).reverse h, mm_backI m r L (st.drop n)))) else none
def mm_call (m : Nat) (r : List mm_Op) (L : mm_L) (st : List Value) (h : mm_H) (mid n : Nat) (k : List Nat) : mm_Rq :=
  if mm_rk mid + 1 ≤ mm_rk m ∧ n ≤ st.length ∧ mm_wt (st.drop n) ≤ 8 ∧ mm_wt (st.take n).reverse ≤ mm_mxL mid then some (.inr (.inr (mm_entry mid (st.take n).reverse h, mm_backH m r L (st.drop n) k))) else none
def mm_isRec (h : mm_H) (c : Nat) (args : List Value) : Bool := match args with
  | .ref a :: _ => (h.2.1 a).1 == c && decide (a < h.2.2.2.2.1.1)
  | _ => false
def mm_exN (E : Nat) : Nat := E
abbrev mm_setI (h : mm_H) (I : Nat → Nat → Int32) : mm_H := (h.1, h.2.1, I, h.2.2.2)
/-- no other cell holds longs -/
def mm_solo (sh : Nat → mm_Sh) (N a : Nat) : Bool := (List.range N).all fun j => !((sh j).1 == 15) || j == a
/-- one operation -/
def mm_op (m : Nat) (x : Int32) (ax : List Nat) (r : List mm_Op) (L : mm_L) (st : List Value) (h : mm_H) (cd : Nat) : mm_Rq :=
  match cd with
  | 0 => mm_go (m, mm_blk m (mm_a ax 0), L, st, h)
  | 1 => mm_go (m, r, L, .int x :: st, h)
  | 2 => match mm_lI L (mm_a ax 0) with
    | some v => mm_go (m, r, L, .int v :: st, h)
    | none => none
  | 3 => match st with
    | .int v :: st => match mm_st1 L (mm_a ax 0) (.int v) with
      | some L' => mm_go (m, r, L', st, h)
      | none => none
    | _ => none
  | 4 => match mm_lA L (mm_a ax 0) with
    | some v => mm_go (m, r, L, v :: st, h)
    | none => none
  | 5 => match st with
    | .ref a :: st => match mm_st1 L (mm_a ax 0) (.ref a) with
      | some L' => mm_go (m, r, L', st, h)
      | none => none
    | _ => none
  | 6 => match mm_lJ L (mm_a ax 0) with
    | some v => mm_go (m, r, L, .long v :: st, h)
    | none => none
  | 7 => match st with
    | .long v :: st => match mm_st2 L (mm_a ax 0) (.long v) with
      | some L' => mm_go (m, r, L', st, h)
      | none => none
    | _ => none
  | 8 => match mm_lI L (mm_a ax 0) with
    | some v => match mm_st1 L (mm_a ax 0) (.int (v + x)) with
      | some L' => mm_go (m, r, L', st, h)
      | none => none
    | none => none
  | 9 => match st with
    | .int b :: .int a :: st => mm_go (m, r, L, .int (a + b) :: st, h)
    | _ => none
  | 10 => match st with
    | .int b :: .int a :: st => mm_go (m, r, L, .int (a - b) :: st, h)
    | _ => none
  | 11 => match st with
    | .int b :: .int a :: st => mm_go (m, r, L, .int (a * b) :: st, h)
    | _ => none
  | 12 => match st with
    | .int b :: .int a :: st => if b = 0 then none else mm_go (m, r, L, .int (a / b) :: st, h)
    | _ => none
  | 13 => match st with
    | .int b :: .int a :: st => if b = 0 then none else mm_go (m, r, L, .int (a - a / b * b) :: st, h)
    | _ => none
  | 14 => match st with
    | .int b :: .int a :: st => mm_go (m, r, L, .int (a &&& b) :: st, h)
    | _ => none
  | 15 => match st with
    | .long b :: .long a :: st => mm_go (m, r, L, .long (a + b) :: st, h)
    | _ => none
  | 16 => match st with
    | .long b :: .long a :: st => mm_go (m, r, L, .long (a * b) :: st, h)
    | _ => none
  | 17 => match st with
    | .long b :: .long a :: st => mm_go (m, r, L, .long (a &&& b) :: st, h)
    | _ => none
  | 18 => match st with
    | .long b :: .long a :: st => mm_go (m, r, L, .long (a ||| b) :: st, h)
    | _ => none
  | 19 => match st with
    | .int b :: .long a :: st => mm_go (m, r, L, .long (a.toUInt64 >>> (b.toInt64.toUInt64 &&& Int64.toUInt64 63)).toInt64 :: st, h)
    | _ => none
  | 20 => match st with
    | .int b :: .long a :: st => mm_go (m, r, L, .long (a <<< (b.toInt64 &&& 63)) :: st, h)
    | _ => none
  | 21 => match st with
    | .int a :: st => mm_go (m, r, L, .long a.toInt64 :: st, h)
    | _ => none
  | 22 => match st with
    | .long a :: st => mm_go (m, r, L, .int a.toInt32 :: st, h)
    | _ => none
  | 23 => match st with
    | .int a :: st => mm_go (m, r, L, .int (a.toUInt32 % 65536).toInt32 :: st, h)
    | _ => none
  | 24 => match st with
    | .long b :: .long a :: st => mm_go (m, r, L, .int (if b < a then 1 else if a = b then 0 else -1) :: st, h)
    | _ => none
  | 25 => match st with
    | v :: st => if v.category = 1 then mm_go (m, r, L, v :: v :: st, h) else none
    | _ => none
  | 26 => match st with
    | v :: w :: st => if v.category = 1 ∧ w.category = 1 then mm_go (m, r, L, v :: w :: v :: w :: st, h) else none
    | _ => none
  | 27 => match st with
    | v :: st => if v.category = 1 then mm_go (m, r, L, st, h) else none
    | _ => none
  | 28 => match st with
    | .int a :: st => if a = 0 then mm_go (m, mm_blk m (mm_a ax 0), L, st, h) else mm_go (m, r, L, st, h)
    | _ => none
  | 29 => match st with
    | .int a :: st => if a = 0 then mm_go (m, r, L, st, h) else mm_go (m, mm_blk m (mm_a ax 0), L, st, h)
    | _ => none
  | 30 => match st with
    | .int a :: st => if a < 0 then mm_go (m, mm_blk m (mm_a ax 0), L, st, h) else mm_go (m, r, L, st, h)
    | _ => none
  | 31 => match st with
    | .int a :: st => if a < 0 then mm_go (m, r, L, st, h) else mm_go (m, mm_blk m (mm_a ax 0), L, st, h)
    | _ => none
  | 32 => match st with
    | .int a :: st => if 0 < a then mm_go (m, mm_blk m (mm_a ax 0), L, st, h) else mm_go (m, r, L, st, h)
    | _ => none
  | 33 => match st with
    | .int a :: st => if 0 < a then mm_go (m, r, L, st, h) else mm_go (m, mm_blk m (mm_a ax 0), L, st, h)
    | _ => none
  | 34 => match st with
    | .int b :: .int a :: st => if a = b then mm_go (m, mm_blk m (mm_a ax 0), L, st, h) else mm_go (m, r, L, st, h)
    | _ => none
  | 35 => match st with
    | .int b :: .int a :: st => if a = b then mm_go (m, r, L, st, h) else mm_go (m, mm_blk m (mm_a ax 0), L, st, h)
    | _ => none
  | 36 => match st with
    | .int b :: .int a :: st => if a < b then mm_go (m, mm_blk m (mm_a ax 0), L, st, h) else mm_go (m, r, L, st, h)
    | _ => none
  | 37 => match st with
    | .int b :: .int a :: st => if a < b then mm_go (m, r, L, st, h) else mm_go (m, mm_blk m (mm_a ax 0), L, st, h)
    | _ => none
  | 38 => match st with
    | .int b :: .int a :: st => if b < a then mm_go (m, mm_blk m (mm_a ax 0), L, st, h) else mm_go (m, r, L, st, h)
    | _ => none
  | 39 => match st with
    | .int b :: .int a :: st => if b < a then mm_go (m, r, L, st, h) else mm_go (m, mm_blk m (mm_a ax 0), L, st, h)
    | _ => none
  | 40 => match st with
    | .int a :: st => mm_go (m, mm_blk m (mm_sw x ax a), L, st, h)
    | _ => none
  | 41 => match st with
    | [.int a] => some (.inr (.inl (.inl (some (.int a)), h)))
    | _ => none
  | 42 => match st with
    | [.int a] => if a = 0 ∨ a = 1 then some (.inr (.inl (.inl (some (.int a)), h))) else none
    | _ => none
  | 43 => match st with
    | [.int a] => if (a.toUInt32 % 65536).toInt32 = a then some (.inr (.inl (.inl (some (.int a)), h))) else none
    | _ => none
  | 44 => match st with
    | [] => some (.inr (.inl (.inl none, h)))
    | _ => none
  | 45 => match st with
    | .ref a :: st => if (h.2.1 a).1 = mm_a ax 0 ∧ a < h.2.2.2.2.1.1 then mm_go (m, r, L, .int (h.2.2.1 a (mm_a ax 1)) :: st, h) else none
    | _ => none
  | 46 => match st with
    | .ref a :: st => if (h.2.1 a).1 = mm_a ax 0 ∧ a < h.2.2.2.2.1.1 then (match (h.2.1 a).2.2 (mm_a ax 1) with
      | some b => mm_go (m, r, L, .ref b :: st, h)
      | none => none) else none
    | _ => none
  | 47 => match st with
    | .int v :: .ref a :: st => if (h.2.1 a).1 = mm_a ax 0 ∧ a < h.2.2.2.2.1.1 then mm_go (m, r, L, st, mm_setI h (mm_up2 h.2.2.1 a (mm_a ax 1) v)) else none
    | _ => none
  | 48 => match st with
    | .int v :: .ref a :: st => if (h.2.1 a).1 = mm_a ax 0 ∧ a < h.2.2.2.2.1.1 then (if v = 0 ∨ v = 1 then mm_go (m, r, L, st, mm_setI h (mm_up2 h.2.2.1 a (mm_a ax 1) v)) else none) else none
    | _ => none
  | 49 => match st with
    | .ref b :: .ref a :: st => if (h.2.1 a).1 = mm_a ax 0 ∧ a < h.2.2.2.2.1.1 then mm_go (m, r, L, st, (h.1, mm_up h.2.1 a ((h.2.1 a).1, (h.2.1 a).2.1, mm_up (h.2.1 a).2.2 (mm_a ax 1) (some b)), h.2.2)) else none
    | _ => none
  | 50 => match st with
    | .int i :: .ref a :: st => if (h.2.1 a).1 = 10 ∧ a < h.2.2.2.2.1.1 then (if mm_in i (h.2.1 a).2.1 = true then mm_go (m, r, L, .int (h.2.2.1 a i.toNatClampNeg) :: st, h) else none) else none
    | _ => none
  | 51 => match st with
    | .int v :: .int i :: .ref a :: st => if (h.2.1 a).1 = 10 ∧ a < h.2.2.2.2.1.1 then (if mm_in i (h.2.1 a).2.1 = true then mm_go (m, r, L, st, mm_setI h (mm_up2 h.2.2.1 a i.toNatClampNeg v)) else none) else none
    | _ => none
  | 52 => match st with
    | .int i :: .ref a :: st => if (h.2.1 a).1 = 11 ∧ a < h.2.2.2.2.1.1 then (if mm_in i (h.2.1 a).2.1 = true then mm_go (m, r, L, .int (h.2.2.1 a i.toNatClampNeg) :: st, h) else none) else none
    | _ => none
  | 53 => match st with
    | .int v :: .int i :: .ref a :: st => if (h.2.1 a).1 = 11 ∧ a < h.2.2.2.2.1.1 then (if mm_in i (h.2.1 a).2.1 = true ∧ (v = 0 ∨ v = 1) then mm_go (m, r, L, st, mm_setI h (mm_up2 h.2.2.1 a i.toNatClampNeg v)) else none) else none
    | _ => none
  | 54 => match st with
    | .int i :: .ref a :: st => if (h.2.1 a).1 = 12 ∧ a < h.2.2.2.2.1.1 then (if mm_in i (h.2.1 a).2.1 = true then mm_go (m, r, L, .int (h.2.2.1 a i.toNatClampNeg) :: st, h) else none) else none
    | _ => none
  | 55 => match st with
    | .int v :: .int i :: .ref a :: st => if (h.2.1 a).1 = 12 ∧ a < h.2.2.2.2.1.1 then (if mm_in i (h.2.1 a).2.1 = true ∧ (v.toUInt32 % 65536).toInt32 = v then mm_go (m, r, L, st, mm_setI h (mm_up2 h.2.2.1 a i.toNatClampNeg v)) else none) else none
    | _ => none
  | 56 => none
  | 57 => none
  | 58 => match st with
    | .int i :: .ref a :: st => if ((h.2.1 a).1 = 13 ∨ (h.2.1 a).1 = 14) ∧ a < h.2.2.2.2.1.1 then (if mm_in i (h.2.1 a).2.1 = true then (match (h.2.1 a).2.2 i.toNatClampNeg with
      | some b => mm_go (m, r, L, .ref b :: st, h)
      | none => none) else none) else none
    | _ => none
  | 59 => match st with
    | .ref b :: .int i :: .ref a :: st => if ((h.2.1 a).1 = 13 ∧ (h.2.1 b).1 = 4 ∨ (h.2.1 a).1 = 14 ∧ (h.2.1 b).1 = 3) ∧ a < h.2.2.2.2.1.1 ∧ b < h.2.2.2.2.1.1 then (if mm_in i (h.2.1 a).2.1 = true then mm_go (m, r, L, st, (h.1, mm_up h.2.1 a ((h.2.1 a).1, (h.2.1 a).2.1, mm_up (h.2.1 a).2.2 i.toNatClampNeg (some b)), h.2.2)) else none) else none
    | _ => none
  | 60 => match st with
    | .float _ :: st => mm_go (m, r, L, .int (nI h.1.1) :: st, h)
    | _ => none
  | 61 => match st with
    | .int i :: .float _ :: st => if mm_in i h.1.1 = true then mm_go (m, r, L, .int (h.1.2 i.toNatClampNeg) :: st, h) else none
    | _ => none
  | 62 => if h.2.2.2.2.2 = 0 ∧ mm_a ax 0 < 6 then mm_go (m, r, L, .ref h.2.2.2.2.1.1 :: st, (h.1, mm_up h.2.1 h.2.2.2.2.1.1 (mm_a ax 0, mm_nf (mm_a ax 0), fun _ => none), mm_up h.2.2.1 h.2.2.2.2.1.1 (fun _ => 0), h.2.2.2.1, (h.2.2.2.2.1.1 + 1, h.2.2.2.2.1.2 + mm_nf (mm_a ax 0)), 0)) else none
  | 63 => match st with
    | .int n :: st => if h.2.2.2.2.2 = 0 ∧ 0 ≤ n ∧ n.toNatClampNeg < 4096 ∧ (mm_a ax 0 = 10 ∨ mm_a ax 0 = 11 ∨ mm_a ax 0 = 12) then mm_go (m, r, L, .ref h.2.2.2.2.1.1 :: st, (h.1, mm_up h.2.1 h.2.2.2.2.1.1 (mm_a ax 0, n.toNatClampNeg, fun _ => none), mm_up h.2.2.1 h.2.2.2.2.1.1 (fun _ => 0), h.2.2.2.1, (h.2.2.2.2.1.1 + 1, h.2.2.2.2.1.2 + n.toNatClampNeg), 0)) else none
    | _ => none
  | 64 => match st with
    | .int n :: st => if h.2.2.2.2.2 = 0 ∧ 0 ≤ n ∧ n.toNatClampNeg < 4096 ∧ (mm_a ax 0 = 13 ∨ mm_a ax 0 = 14) then mm_go (m, r, L, .ref h.2.2.2.2.1.1 :: st, (h.1, mm_up h.2.1 h.2.2.2.2.1.1 (mm_a ax 0, n.toNatClampNeg, fun _ => none), mm_up h.2.2.1 h.2.2.2.2.1.1 (fun _ => 0), h.2.2.2.1, (h.2.2.2.2.1.1 + 1, h.2.2.2.2.1.2 + n.toNatClampNeg), 0)) else none
    | _ => none
  | 65 => mm_call m r L st h (mm_a ax 0) (mm_a ax 1) []
  | 66 => if mm_isRec h (mm_a ax 2) (st.take (mm_a ax 1)).reverse = true then mm_call m r L st h (mm_a ax 0) (mm_a ax 1) [] else none
  | 67 => mm_callI m r L st h (mm_a ax 0) (mm_a ax 1)
  | 68 => match st with
    | .ref _ :: st => if 1 ≤ mm_rk m ∧ mm_wt st ≤ 8 then mm_go (m, r, L, st, h) else none
    | _ => none
  | 69 => if mm_isRec h (mm_a ax 2) (st.take (mm_a ax 1)).reverse = true then mm_call m r L st h (mm_a ax 0) (mm_a ax 1) (ax.drop 6) else none
  | 70 => if 6 ≤ mm_rk m ∧ mm_wt st ≤ 8 then some (.inr (.inl (.inr (mm_a ax 0), (h.1, h.2.1, h.2.2.1, h.2.2.2.1, h.2.2.2.2.1, h.2.2.2.2.2 + 1)))) else none
  | 71 => mm_go (m, r, L, .long (Int64.ofNat (mm_a ax 0)) :: st, h)
  | 72 => mm_go (m, mm_blk m (mm_a ax 0), L, st, h)
  | 73 => match st with
    | .int b :: .int a :: st => if 1 ≤ mm_rk m ∧ mm_wt st ≤ 8 then mm_go (m, r, L, .int (if a < b then b else a) :: st, h) else none
    | _ => none
  | 74 => match st with
    | .int b :: .int a :: st => if 1 ≤ mm_rk m ∧ mm_wt st ≤ 8 then mm_go (m, r, L, .int (if b < a then b else a) :: st, h) else none
    | _ => none
  | 75 => match st with
    | [.long a] => some (.inr (.inl (.inl (some (.long a)), h)))
    | _ => none
  | 76 => match st with
    | .int b :: .int a :: st => mm_go (m, r, L, .int (a >>> (b &&& 31)) :: st, h)
    | _ => none
  | 77 => mm_go (m, r, L, .long (mm_LC (mm_a ax 0)) :: st, h)
  | 78 => mm_go (m, r, L, .int x :: st, h)
  | _ => none
def mm_step (s : mm_S) : mm_Rq := match s with
  | (m, (_, cd, x, ax) :: r, L, st, h) => mm_op m x ax r L st h cd
  | _ => none
def mm_F (P : mm_P) (s : mm_S) (Q : mm_Q) : Prop := match mm_step s with
  | none => False
  | some (.inl s') => P s' Q
  | some (.inr (.inl q)) => Q q.1 q.2
  | some (.inr (.inr q)) => ∃ (a : mm_R) (h : mm_H), P q.1 (fun b g => b = a ∧ g = h) ∧ match q.2 a h with
    | some s' => P s' Q
    | none => Q a h
/-- the least relation closed under steps -/
def mm_C (s : mm_S) (Q : mm_Q) : Prop := ∀ P : mm_P, (∀ s Q, mm_F P s Q → P s Q) → P s Q
theorem mm_F_mono {P P' : mm_P} (hP : ∀ s Q, P s Q → P' s Q) {s : mm_S} {Q : mm_Q} (h : mm_F P s Q) : mm_F P' s Q := by
  unfold mm_F at h ⊢
  split at h
  · exact h
  · exact hP _ _ h
  · exact h
  · obtain ⟨a, g, h1, h2⟩ := h
    refine ⟨a, g, hP _ _ h1, ?_⟩
    split at h2
    · exact hP _ _ h2
    · exact h2
theorem mm_C_in {s : mm_S} {Q : mm_Q} (h : mm_F mm_C s Q) : mm_C s Q := fun P hP => hP _ _ (mm_F_mono (fun _ _ k => k P hP) h)
theorem mm_C_out {s : mm_S} {Q : mm_Q} (h : mm_C s Q) : mm_F mm_C s Q := h (mm_F mm_C) (fun _ _ k => mm_F_mono (fun _ _ q => mm_C_in q) k)
theorem mm_C_iff {s : mm_S} {Q : mm_Q} : mm_C s Q ↔ mm_F mm_C s Q := ⟨mm_C_out, mm_C_in⟩
theorem mm_C_ind {P : mm_P} (hP : ∀ s Q, mm_F (fun s Q => mm_C s Q ∧ P s Q) s Q → P s Q) {s : mm_S} {Q : mm_Q} (h : mm_C s Q) : P s Q :=
  (h (fun s Q => mm_C s Q ∧ P s Q) (fun s Q k => ⟨mm_C_in (mm_F_mono (fun _ _ q => q.1) k), hP s Q k⟩)).2
theorem mm_C_mono {s : mm_S} {Q Q' : mm_Q} (h : mm_C s Q) (hQ : ∀ a g, Q a g → Q' a g) : mm_C s Q' := by
  refine mm_C_ind (P := fun s Q => ∀ Q' : mm_Q, (∀ a g, Q a g → Q' a g) → mm_C s Q') ?_ h Q' hQ
  intro s Q h Q' hQ
  apply mm_C_in
  unfold mm_F at h ⊢
  split at h
  · exact h
  · exact h.2 Q' hQ
  · exact hQ _ _ h
  · obtain ⟨a, g, h1, h2⟩ := h
    refine ⟨a, g, h1.1, ?_⟩
    split at h2
    · exact h2.2 Q' hQ
    · exact hQ _ _ h2
/-! the steps as equivalences -/
theorem mm_go_iff {s s' : mm_S} {Q : mm_Q} (h : mm_step s = mm_go s') : mm_C s Q ↔ mm_C s' Q := by
  rw [mm_C_iff]; unfold mm_F; rw [h]; exact Iff.rfl
theorem mm_ret_iff {s : mm_S} {Q : mm_Q} {a : mm_R} {g : mm_H} (h : mm_step s = some (.inr (.inl (a, g)))) : mm_C s Q ↔ Q a g := by
  rw [mm_C_iff]; unfold mm_F; rw [h]
theorem mm_call_iff {s e : mm_S} {Q : mm_Q} {k : mm_R → mm_H → Option mm_S} (h : mm_step s = some (.inr (.inr (e, k)))) : mm_C s Q ↔ mm_C e (fun a g => match k a g with
    | some s' => mm_C s' Q
    | none => Q a g) := by
  rw [mm_C_iff]; unfold mm_F; rw [h]
  constructor
  · rintro ⟨a, g, h1, h2⟩
    refine mm_C_mono h1 ?_
    rintro _ _ ⟨rfl, rfl⟩
    exact h2
  · intro h1
    suffices hs : ∃ a g, mm_C e (fun b j => b = a ∧ j = g) ∧ (match k a g with
        | some s' => mm_C s' Q
        | none => Q a g) by exact hs
    refine mm_C_ind (P := fun e R => ∃ a g, mm_C e (fun b j => b = a ∧ j = g) ∧ R a g) ?_ h1
    intro s R h
    unfold mm_F at h
    have hu : ∀ R', mm_C s R' ↔ mm_F mm_C s R' := fun R' => mm_C_iff
    split at h
    · exact h.elim
    · next s' hs' =>
      obtain ⟨-, a, g, h1, h2⟩ := h
      refine ⟨a, g, ?_, h2⟩
      rw [hu]; unfold mm_F; rw [hs']; exact h1
    · next q hs' =>
      refine ⟨q.1, q.2, ?_, h⟩
      rw [hu]; unfold mm_F; rw [hs']; exact ⟨rfl, rfl⟩
    · next q hs' =>
      obtain ⟨a, g, ⟨h1, -⟩, h2⟩ := h
      split at h2
      · next s' hk =>
        obtain ⟨-, a', g', h3, h4⟩ := h2
        refine ⟨a', g', ?_, h4⟩
        rw [hu]; unfold mm_F; rw [hs']
        refine ⟨a, g, h1, ?_⟩
        rw [hk]; exact h3
      · next hk =>
        refine ⟨a, g, ?_, h2⟩
        rw [hu]; unfold mm_F; rw [hs']
        refine ⟨a, g, h1, ?_⟩
        rw [hk]; exact ⟨rfl, rfl⟩
