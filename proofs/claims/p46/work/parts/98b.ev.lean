/-! the constructors: an evaluator over list heaps, and what it says of the small machine -/
section XO
abbrev eRow : Type := Nat × Nat × List (Option Nat)
abbrev eW : Type := List (Nat × Option (Nat × Int32))
abbrev eH : Type := List eRow × eW × Nat
def eSh (T : List eRow) : Nat → mm_Sh := fun a => ((T.getD a (100, 0, [])).1, (T.getD a (100, 0, [])).2.1, fun k => (T.getD a (100, 0, [])).2.2.getD k none)
def eI : eW → Nat → Nat → Int32
  | [], _, _ => 0
  | (b, none) :: r, a, k => if a = b then 0 else eI r a k
  | (b, some q) :: r, a, k => if a = b then (if k = q.1 then q.2 else eI r a k) else eI r a k
def eA (sc : Nat × (Nat → Int32)) (o : Int64) (H : eH) : mm_H := (sc, eSh H.1, eI H.2.1, o, (H.1.length, H.2.2), 0)
theorem eI_w (W : eW) (a k : Nat) (v : Int32) : eI ((a, some (k, v)) :: W) = mm_up2 (eI W) a k v := by
  funext b j
  rfl
theorem eI_n (W : eW) (a : Nat) : eI ((a, none) :: W) = mm_up (eI W) a (fun _ => 0) := by
  funext b j
  unfold mm_up
  show (if b = a then 0 else eI W b j) = _
  by_cases h : b = a
  · rw [if_pos h, if_pos h]
  · rw [if_neg h, if_neg h]
def eSet (b : Nat) : Nat → List (Option Nat) → List (Option Nat)
  | 0, [] => [some b]
  | 0, _ :: t => some b :: t
  | k + 1, [] => none :: eSet b k []
  | k + 1, x :: t => x :: eSet b k t
theorem eSet_at (b : Nat) (k : Nat) : ∀ (l : List (Option Nat)) (j : Nat), (eSet b k l).getD j none = if j = k then some b else l.getD j none := by
  induction k with
  | zero =>
    intro l j
    cases l with
    | nil =>
      cases j with
      | zero => rfl
      | succ j => rfl
    | cons x t =>
      cases j with
      | zero => rfl
      | succ j => rfl
  | succ k ih =>
    intro l j
    cases l with
    | nil =>
      cases j with
      | zero => rfl
      | succ j =>
        show (eSet b k []).getD j none = _
        rw [ih]
        by_cases h : j = k
        · rw [if_pos h, if_pos (by omega)]
        · rw [if_neg h, if_neg (by omega)]; rfl
    | cons x t =>
      cases j with
      | zero => rfl
      | succ j =>
        show (eSet b k t).getD j none = _
        rw [ih]
        by_cases h : j = k
        · rw [if_pos h, if_pos (by omega)]
        · rw [if_neg h, if_neg (by omega)]; rfl
def eUpd (k b : Nat) : Nat → List eRow → List eRow
  | _, [] => []
  | 0, r :: t => (r.1, r.2.1, eSet b k r.2.2) :: t
  | a + 1, r :: t => r :: eUpd k b a t
theorem eUpd_len (k b : Nat) : ∀ (T : List eRow) (a : Nat), (eUpd k b a T).length = T.length := by
  intro T
  induction T with
  | nil => intro a; cases a <;> rfl
  | cons r t ih =>
    intro a
    cases a with
    | zero => rfl
    | succ a => show (eUpd k b a t).length + 1 = _; rw [ih]; rfl
theorem eUpd_at (k b : Nat) : ∀ (T : List eRow) (a : Nat), a < T.length → ∀ j, (eUpd k b a T).getD j (100, 0, []) = if j = a then ((T.getD a (100, 0, [])).1, (T.getD a (100, 0, [])).2.1, eSet b k (T.getD a (100, 0, [])).2.2) else T.getD j (100, 0, []) := by
  intro T
  induction T with
  | nil => intro a h; exact absurd h (Nat.not_lt_zero a)
  | cons r t ih =>
    intro a h j
    cases a with
    | zero =>
      cases j with
      | zero => rfl
      | succ j => rfl
    | succ a =>
      cases j with
      | zero => rfl
      | succ j =>
        show (eUpd k b a t).getD j (100, 0, []) = _
        rw [ih a (Nat.lt_of_succ_lt_succ h)]
        by_cases e : j = a
        · rw [if_pos e, if_pos (by omega)]; rfl
        · rw [if_neg e, if_neg (by omega)]; rfl
theorem eSh_upd (T : List eRow) {a : Nat} (k b : Nat) (h : a < T.length) : eSh (eUpd k b a T) = mm_up (eSh T) a ((eSh T a).1, (eSh T a).2.1, mm_up (eSh T a).2.2 k (some b)) := by
  funext j
  unfold mm_up
  by_cases e : j = a
  · subst e
    rw [if_pos rfl]
    unfold eSh
    rw [eUpd_at k b T j h, if_pos rfl]
    have e2 : (fun i => (eSet b k (T.getD j (100, 0, [])).2.2).getD i none) = fun i => if i = k then some b else (T.getD j (100, 0, [])).2.2.getD i none := by
      funext i
      exact eSet_at _ _ _ _
    show (_, _, fun i => (eSet b k (T.getD j (100, 0, [])).2.2).getD i none) = _
    rw [e2]
  · rw [if_neg e]
    unfold eSh
    rw [eUpd_at k b T a h, if_neg e]
theorem app_at (T : List eRow) (r : eRow) (j : Nat) : (T ++ [r]).getD j (100, 0, []) = if j = T.length then r else T.getD j (100, 0, []) := by
  induction T generalizing j with
  | nil =>
    cases j with
    | zero => rfl
    | succ j => rfl
  | cons x t ih =>
    cases j with
    | zero => rfl
    | succ j =>
      show (t ++ [r]).getD j (100, 0, []) = _
      rw [ih]
      by_cases e : j = t.length
      · rw [if_pos e, if_pos (by rw [e]; rfl)]
      · rw [if_neg e, if_neg (show ¬ j + 1 = (x :: t).length from fun h => e (Nat.succ.inj h))]; rfl
theorem eSh_app (T : List eRow) (c n : Nat) : eSh (T ++ [(c, n, [])]) = mm_up (eSh T) T.length (c, n, fun _ => none) := by
  funext j
  unfold mm_up eSh
  rw [app_at]
  by_cases e : j = T.length
  · rw [if_pos e, if_pos e]; rfl
  · rw [if_neg e, if_neg e]
def eP (cd : Nat) : Bool := [0, 1, 2, 3, 4, 8, 9, 11, 25, 37, 44, 68, 72].contains cd
def eM (h : mm_H) : mm_Rq → mm_Rq
  | some (.inl s) => some (.inl (s.1, s.2.1, s.2.2.1, s.2.2.2.1, h))
  | some (.inr (.inl q)) => some (.inr (.inl (q.1, h)))
  | some (.inr (.inr q)) => some (.inr (.inr q))
  | none => none
theorem eP_h {cd : Nat} (hcd : eP cd = true) {m : Nat} {x : Int32} {ax : List Nat} {r : List mm_Op} {L : mm_L} {st : List Value} (h h0 : mm_H) : mm_op m x ax r L st h cd = eM h (mm_op m x ax r L st h0 cd) := by
  have hm : cd = 0 ∨ cd = 1 ∨ cd = 2 ∨ cd = 3 ∨ cd = 4 ∨ cd = 8 ∨ cd = 9 ∨ cd = 11 ∨ cd = 25 ∨ cd = 37 ∨ cd = 44 ∨ cd = 68 ∨ cd = 72 := by
    simpa [eP] using hcd
  rcases hm with rfl | rfl | rfl | rfl | rfl | rfl | rfl | rfl | rfl | rfl | rfl | rfl | rfl
  · rfl
  · rfl
  · simp only [mm_op]
    generalize mm_lI L (mm_a ax 0) = y
    cases y <;> rfl
  · simp only [mm_op]
    cases st with
    | nil => rfl
    | cons v st =>
      cases v with
      | int v =>
        dsimp only
        generalize mm_st1 L (mm_a ax 0) (.int v) = y
        cases y <;> rfl
      | _ => rfl
  · simp only [mm_op]
    generalize mm_lA L (mm_a ax 0) = y
    cases y <;> rfl
  · simp only [mm_op]
    generalize mm_lI L (mm_a ax 0) = y
    cases y with
    | none => rfl
    | some v =>
      dsimp only
      generalize mm_st1 L (mm_a ax 0) (.int (v + x)) = y
      cases y <;> rfl
  · simp only [mm_op]
    cases st with
    | nil => rfl
    | cons v st =>
      cases v with
      | int v =>
        cases st with
        | nil => rfl
        | cons w st => cases w <;> rfl
      | _ => rfl
  · simp only [mm_op]
    cases st with
    | nil => rfl
    | cons v st =>
      cases v with
      | int v =>
        cases st with
        | nil => rfl
        | cons w st => cases w <;> rfl
      | _ => rfl
  · simp only [mm_op]
    cases st with
    | nil => rfl
    | cons v st =>
      dsimp only
      by_cases e : v.category = 1
      · rw [if_pos e, if_pos e]; rfl
      · rw [if_neg e, if_neg e]; rfl
  · simp only [mm_op]
    cases st with
    | nil => rfl
    | cons v st =>
      cases v with
      | int v =>
        cases st with
        | nil => rfl
        | cons w st =>
          cases w with
          | int w =>
            dsimp only
            by_cases e : w < v
            · rw [if_pos e, if_pos e]; rfl
            · rw [if_neg e, if_neg e]; rfl
          | _ => rfl
      | _ => rfl
  · simp only [mm_op]
    cases st <;> rfl
  · simp only [mm_op]
    cases st with
    | nil => rfl
    | cons v st =>
      cases v with
      | ref v =>
        dsimp only
        by_cases e : 1 ≤ mm_rk m ∧ mm_wt st ≤ 8
        · rw [if_pos e, if_pos e]; rfl
        · rw [if_neg e, if_neg e]; rfl
      | _ => rfl
  · rfl
def eZ : mm_H := ((0, fun _ => 0), fun _ => (100, 0, fun _ => none), fun _ _ => 0, 0, (0, 0), 0)
/-- what a call asks -/
def eCk (m mid n : Nat) (st : List Value) : Bool := decide (mm_rk mid + 1 ≤ mm_rk m ∧ n ≤ st.length ∧ mm_wt (st.drop n) ≤ 8 ∧ mm_wt (st.take n).reverse ≤ mm_mxL mid)
def eRec (T : List eRow) (c : Nat) (args : List Value) : Bool := match args with
  | .ref a :: _ => (T.getD a (100, 0, [])).1 == c && decide (a < T.length)
  | _ => false
def ev : Nat → Nat → List mm_Op → mm_L → List Value → eH → Option (Option Value × eH)
  | 0, _, _, _, _, _ => none
  | f + 1, m, ops, L, st, H => match ops with
    | [] => none
    | (_, cd, x, ax) :: r =>
      if eP cd = true then (match mm_op m x ax r L st eZ cd with
        | some (.inl s) => ev f s.1 s.2.1 s.2.2.1 s.2.2.2.1 H
        | some (.inr (.inl (.inl v, _))) => some (v, H)
        | _ => none)
      else if cd = 46 then (match st with
        | .ref a :: st => if (H.1.getD a (100, 0, [])).1 = mm_a ax 0 ∧ a < H.1.length then (match (H.1.getD a (100, 0, [])).2.2.getD (mm_a ax 1) none with
          | some b => ev f m r L (.ref b :: st) H
          | none => none) else none
        | _ => none)
      else if cd = 47 then (match st with
        | .int v :: .ref a :: st => if (H.1.getD a (100, 0, [])).1 = mm_a ax 0 ∧ a < H.1.length then ev f m r L st (H.1, (a, some (mm_a ax 1, v)) :: H.2.1, H.2.2) else none
        | _ => none)
      else if cd = 49 then (match st with
        | .ref b :: .ref a :: st => if (H.1.getD a (100, 0, [])).1 = mm_a ax 0 ∧ a < H.1.length then ev f m r L st (eUpd (mm_a ax 1) b a H.1, H.2.1, H.2.2) else none
        | _ => none)
      else if cd = 51 then (match st with
        | .int v :: .int i :: .ref a :: st => if ((H.1.getD a (100, 0, [])).1 = 10 ∧ a < H.1.length) ∧ mm_in i (H.1.getD a (100, 0, [])).2.1 = true then ev f m r L st (H.1, (a, some (i.toNatClampNeg, v)) :: H.2.1, H.2.2) else none
        | _ => none)
      else if cd = 59 then (match st with
        | .ref b :: .int i :: .ref a :: st => if (((H.1.getD a (100, 0, [])).1 = 13 ∧ (H.1.getD b (100, 0, [])).1 = 4 ∨ (H.1.getD a (100, 0, [])).1 = 14 ∧ (H.1.getD b (100, 0, [])).1 = 3) ∧ a < H.1.length ∧ b < H.1.length) ∧ mm_in i (H.1.getD a (100, 0, [])).2.1 = true then ev f m r L st (eUpd i.toNatClampNeg b a H.1, H.2.1, H.2.2) else none
        | _ => none)
      else if cd = 62 then (if mm_a ax 0 < 6 then ev f m r L (.ref H.1.length :: st) (H.1 ++ [(mm_a ax 0, mm_nf (mm_a ax 0), [])], (H.1.length, none) :: H.2.1, H.2.2 + mm_nf (mm_a ax 0)) else none)
      else if cd = 63 then (match st with
        | .int n :: st => if 0 ≤ n ∧ n.toNatClampNeg < 4096 ∧ (mm_a ax 0 = 10 ∨ mm_a ax 0 = 11 ∨ mm_a ax 0 = 12) then ev f m r L (.ref H.1.length :: st) (H.1 ++ [(mm_a ax 0, n.toNatClampNeg, [])], (H.1.length, none) :: H.2.1, H.2.2 + n.toNatClampNeg) else none
        | _ => none)
      else if cd = 64 then (match st with
        | .int n :: st => if 0 ≤ n ∧ n.toNatClampNeg < 4096 ∧ (mm_a ax 0 = 13 ∨ mm_a ax 0 = 14) then ev f m r L (.ref H.1.length :: st) (H.1 ++ [(mm_a ax 0, n.toNatClampNeg, [])], (H.1.length, none) :: H.2.1, H.2.2 + n.toNatClampNeg) else none
        | _ => none)
      else if cd = 65 ∨ cd = 66 ∨ cd = 67 then (if eCk m (mm_a ax 0) (mm_a ax 1) st = true ∧ (cd = 66 → eRec H.1 (mm_a ax 2) (st.take (mm_a ax 1)).reverse = true) ∧ (cd = 67 → mm_isRf (st.take (mm_a ax 1)).reverse = true) then (match ev f (mm_a ax 0) (mm_blk (mm_a ax 0) 0) (mm_pad (mm_ent (st.take (mm_a ax 1)).reverse) (mm_mxL (mm_a ax 0))) [] H with
        | some (v, H') => ev f m r L (v.toList ++ st.drop (mm_a ax 1)) H'
        | none => none) else none)
      else none
theorem ev_sound {sc : Nat × (Nat → Int32)} {o : Int64} (f : Nat) : ∀ {m : Nat} {ops : List mm_Op} {L : mm_L} {st : List Value} {H : eH} {v : Option Value} {H' : eH}, ev f m ops L st H = some (v, H') → ∀ {Q : mm_Q}, Q (.inl v) (eA sc o H') → mm_C (m, ops, L, st, eA sc o H) Q := by
  induction f with
  | zero => intro m ops L st H v H' h; cases h
  | succ f ih =>
    intro m ops L st H v H' h Q hQ
    cases ops with
    | nil => cases h
    | cons op r =>
      obtain ⟨pc, cd, x, ax⟩ := op
      have stp : ∀ g : mm_H, mm_step (m, (pc, cd, x, ax) :: r, L, st, g) = mm_op m x ax r L st g cd := fun _ => rfl
      unfold ev at h
      dsimp only at h
      by_cases h0 : eP cd = true
      · rw [if_pos h0] at h
        have e := eP_h h0 (m := m) (x := x) (ax := ax) (r := r) (L := L) (st := st) (eA sc o H) eZ
        revert h e
        generalize mm_op m x ax r L st eZ cd = y
        intro h e
        cases y with
        | none => cases h
        | some y =>
          cases y with
          | inl s =>
            exact (mm_go_iff ((stp _).trans e)).mpr (ih h hQ)
          | inr y =>
            cases y with
            | inl q =>
              obtain ⟨q1, q2⟩ := q
              cases q1 with
              | inl w =>
                cases Option.some.inj h
                exact (mm_ret_iff ((stp _).trans e)).mpr hQ
              | inr w => cases h
            | inr q => cases h
      rw [if_neg h0] at h
      by_cases h1 : cd = 46
      · subst h1
        rw [if_pos rfl] at h
        cases st with
        | nil => cases h
        | cons w st =>
          cases w with
          | ref a =>
            dsimp only at h
            by_cases c : (H.1.getD a (100, 0, [])).1 = mm_a ax 0 ∧ a < H.1.length
            · rw [if_pos c] at h
              cases hb : (H.1.getD a (100, 0, [])).2.2.getD (mm_a ax 1) none with
              | none => rw [hb] at h; cases h
              | some b =>
                rw [hb] at h
                refine (mm_go_iff (s' := (m, r, L, .ref b :: st, eA sc o H)) ?_).mpr (ih h hQ)
                rw [stp]
                show (if (H.1.getD a (100, 0, [])).1 = mm_a ax 0 ∧ a < H.1.length then (match (H.1.getD a (100, 0, [])).2.2.getD (mm_a ax 1) none with
                  | some b => mm_go (m, r, L, .ref b :: st, eA sc o H)
                  | none => none) else none) = _
                rw [if_pos c, hb]
            · rw [if_neg c] at h; cases h
          | _ => cases h
      rw [if_neg h1] at h
      by_cases h2 : cd = 47
      · subst h2
        rw [if_pos rfl] at h
        cases st with
        | nil => cases h
        | cons w st =>
          cases w with
          | int w =>
            cases st with
            | nil => cases h
            | cons a st =>
              cases a with
              | ref a =>
                dsimp only at h
                by_cases c : (H.1.getD a (100, 0, [])).1 = mm_a ax 0 ∧ a < H.1.length
                · rw [if_pos c] at h
                  have k := ih h hQ
                  unfold eA at k
                  dsimp only at k
                  rw [eI_w] at k
                  refine (mm_go_iff ?_).mpr k
                  rw [stp]
                  show (if (H.1.getD a (100, 0, [])).1 = mm_a ax 0 ∧ a < H.1.length then _ else none) = _
                  rw [if_pos c]
                  rfl
                · rw [if_neg c] at h; cases h
              | _ => cases h
          | _ => cases h
      rw [if_neg h2] at h
      by_cases h3 : cd = 49
      · subst h3
        rw [if_pos rfl] at h
        cases st with
        | nil => cases h
        | cons w st =>
          cases w with
          | ref b =>
            cases st with
            | nil => cases h
            | cons a st =>
              cases a with
              | ref a =>
                dsimp only at h
                by_cases c : (H.1.getD a (100, 0, [])).1 = mm_a ax 0 ∧ a < H.1.length
                · rw [if_pos c] at h
                  have k := ih h hQ
                  unfold eA at k
                  dsimp only at k
                  rw [eSh_upd _ _ _ c.2, eUpd_len] at k
                  refine (mm_go_iff ?_).mpr k
                  rw [stp]
                  show (if (H.1.getD a (100, 0, [])).1 = mm_a ax 0 ∧ a < H.1.length then _ else none) = _
                  rw [if_pos c]
                  rfl
                · rw [if_neg c] at h; cases h
              | _ => cases h
          | _ => cases h
      rw [if_neg h3] at h
      by_cases h4 : cd = 51
      · subst h4
        rw [if_pos rfl] at h
        cases st with
        | nil => cases h
        | cons w st =>
          cases w with
          | int w =>
            cases st with
            | nil => cases h
            | cons i st =>
              cases i with
              | int i =>
                cases st with
                | nil => cases h
                | cons a st =>
                  cases a with
                  | ref a =>
                    dsimp only at h
                    by_cases c : ((H.1.getD a (100, 0, [])).1 = 10 ∧ a < H.1.length) ∧ mm_in i (H.1.getD a (100, 0, [])).2.1 = true
                    · rw [if_pos c] at h
                      have k := ih h hQ
                      unfold eA at k
                      dsimp only at k
                      rw [eI_w] at k
                      refine (mm_go_iff ?_).mpr k
                      rw [stp]
                      show (if (H.1.getD a (100, 0, [])).1 = 10 ∧ a < H.1.length then (if mm_in i (H.1.getD a (100, 0, [])).2.1 = true then _ else none) else none) = _
                      rw [if_pos c.1, if_pos c.2]
                      rfl
                    · rw [if_neg c] at h; cases h
                  | _ => cases h
              | _ => cases h
          | _ => cases h
      rw [if_neg h4] at h
      by_cases h5 : cd = 59
      · subst h5
        rw [if_pos rfl] at h
        cases st with
        | nil => cases h
        | cons w st =>
          cases w with
          | ref b =>
            cases st with
            | nil => cases h
            | cons i st =>
              cases i with
              | int i =>
                cases st with
                | nil => cases h
                | cons a st =>
                  cases a with
                  | ref a =>
                    dsimp only at h
                    by_cases c : (((H.1.getD a (100, 0, [])).1 = 13 ∧ (H.1.getD b (100, 0, [])).1 = 4 ∨ (H.1.getD a (100, 0, [])).1 = 14 ∧ (H.1.getD b (100, 0, [])).1 = 3) ∧ a < H.1.length ∧ b < H.1.length) ∧ mm_in i (H.1.getD a (100, 0, [])).2.1 = true
                    · rw [if_pos c] at h
                      have k := ih h hQ
                      unfold eA at k
                      dsimp only at k
                      rw [eSh_upd _ _ _ c.1.2.1, eUpd_len] at k
                      refine (mm_go_iff ?_).mpr k
                      rw [stp]
                      show (if ((H.1.getD a (100, 0, [])).1 = 13 ∧ (H.1.getD b (100, 0, [])).1 = 4 ∨ (H.1.getD a (100, 0, [])).1 = 14 ∧ (H.1.getD b (100, 0, [])).1 = 3) ∧ a < H.1.length ∧ b < H.1.length then (if mm_in i (H.1.getD a (100, 0, [])).2.1 = true then _ else none) else none) = _
                      rw [if_pos c.1, if_pos c.2]
                      rfl
                    · rw [if_neg c] at h; cases h
                  | _ => cases h
              | _ => cases h
          | _ => cases h
      rw [if_neg h5] at h
      by_cases h6 : cd = 62
      · subst h6
        rw [if_pos rfl] at h
        by_cases c : mm_a ax 0 < 6
        · rw [if_pos c] at h
          have k := ih h hQ
          unfold eA at k
          dsimp only at k
          rw [eSh_app, eI_n, List.length_append] at k
          refine (mm_go_iff ?_).mpr k
          rw [stp]
          exact if_pos ⟨rfl, c⟩
        · rw [if_neg c] at h; cases h
      rw [if_neg h6] at h
      by_cases h7 : cd = 63
      · subst h7
        rw [if_pos rfl] at h
        cases st with
        | nil => cases h
        | cons w st =>
          cases w with
          | int n =>
            dsimp only at h
            by_cases c : 0 ≤ n ∧ n.toNatClampNeg < 4096 ∧ (mm_a ax 0 = 10 ∨ mm_a ax 0 = 11 ∨ mm_a ax 0 = 12)
            · rw [if_pos c] at h
              have k := ih h hQ
              unfold eA at k
              dsimp only at k
              rw [eSh_app, eI_n, List.length_append] at k
              refine (mm_go_iff ?_).mpr k
              rw [stp]
              have c2 : (0 : Nat) = 0 ∧ 0 ≤ n ∧ n.toNatClampNeg < 4096 ∧ (mm_a ax 0 = 10 ∨ mm_a ax 0 = 11 ∨ mm_a ax 0 = 12) := by
                refine ⟨rfl, c.1, c.2.1, ?_⟩
                rcases c.2.2 with e | e | e
                · exact Or.inl e
                · exact Or.inr (Or.inl e)
                · exact Or.inr (Or.inr e)
              show (if (0 : Nat) = 0 ∧ 0 ≤ n ∧ n.toNatClampNeg < 4096 ∧ (mm_a ax 0 = 10 ∨ mm_a ax 0 = 11 ∨ mm_a ax 0 = 12) then _ else none) = _
              rw [if_pos c2]
              rfl
            · rw [if_neg c] at h; cases h
          | _ => cases h
      rw [if_neg h7] at h
      by_cases h8 : cd = 64
      · subst h8
        rw [if_pos rfl] at h
        cases st with
        | nil => cases h
        | cons w st =>
          cases w with
          | int n =>
            dsimp only at h
            by_cases c : 0 ≤ n ∧ n.toNatClampNeg < 4096 ∧ (mm_a ax 0 = 13 ∨ mm_a ax 0 = 14)
            · rw [if_pos c] at h
              have k := ih h hQ
              unfold eA at k
              dsimp only at k
              rw [eSh_app, eI_n, List.length_append] at k
              refine (mm_go_iff ?_).mpr k
              rw [stp]
              show (if (0 : Nat) = 0 ∧ 0 ≤ n ∧ n.toNatClampNeg < 4096 ∧ (mm_a ax 0 = 13 ∨ mm_a ax 0 = 14) then _ else none) = _
              rw [if_pos ⟨rfl, c⟩]
              rfl
            · rw [if_neg c] at h; cases h
          | _ => cases h
      rw [if_neg h8] at h
      by_cases h9 : cd = 65 ∨ cd = 66 ∨ cd = 67
      · rw [if_pos h9] at h
        by_cases c : eCk m (mm_a ax 0) (mm_a ax 1) st = true ∧ (cd = 66 → eRec H.1 (mm_a ax 2) (st.take (mm_a ax 1)).reverse = true) ∧ (cd = 67 → mm_isRf (st.take (mm_a ax 1)).reverse = true)
        · rw [if_pos c] at h
          obtain ⟨c1, c2, c3⟩ := c
          have c1 : mm_rk (mm_a ax 0) + 1 ≤ mm_rk m ∧ mm_a ax 1 ≤ st.length ∧ mm_wt (st.drop (mm_a ax 1)) ≤ 8 ∧ mm_wt (st.take (mm_a ax 1)).reverse ≤ mm_mxL (mm_a ax 0) := of_decide_eq_true c1
          cases he : ev f (mm_a ax 0) (mm_blk (mm_a ax 0) 0) (mm_pad (mm_ent (st.take (mm_a ax 1)).reverse) (mm_mxL (mm_a ax 0))) [] H with
          | none => rw [he] at h; cases h
          | some q =>
            obtain ⟨w, H1⟩ := q
            rw [he] at h
            have k := ih h hQ
            rcases h9 with rfl | rfl | rfl
            · refine (mm_call_iff (e := mm_entry (mm_a ax 0) (st.take (mm_a ax 1)).reverse (eA sc o H)) (k := mm_backH m r L (st.drop (mm_a ax 1)) []) ?_).mpr (ih he k)
              rw [stp]
              exact if_pos c1
            · refine (mm_call_iff (e := mm_entry (mm_a ax 0) (st.take (mm_a ax 1)).reverse (eA sc o H)) (k := mm_backH m r L (st.drop (mm_a ax 1)) []) ?_).mpr (ih he k)
              rw [stp]
              have c4 : mm_isRec (eA sc o H) (mm_a ax 2) (st.take (mm_a ax 1)).reverse = true := c2 rfl
              show (if mm_isRec (eA sc o H) (mm_a ax 2) (st.take (mm_a ax 1)).reverse = true then _ else none) = _
              rw [if_pos c4]
              exact if_pos c1
            · refine (mm_call_iff (e := mm_entry (mm_a ax 0) (st.take (mm_a ax 1)).reverse (eA sc o H)) (k := mm_backI m r L (st.drop (mm_a ax 1))) ?_).mpr (ih he k)
              rw [stp]
              exact if_pos ⟨c1.1, c1.2.1, c1.2.2.1, c1.2.2.2, c3 rfl⟩
        · rw [if_neg c] at h; cases h
      · rw [if_neg h9] at h; cases h
end XO
