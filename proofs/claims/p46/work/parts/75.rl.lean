/-! the text, on both sides -/
section XG
variable {T T' : Nat → Int32} {L : Nat}
theorem dg_ag (ag : ∀ j, j < L → T j = T' j) (p : Nat) (lo hi : Int32) : dg T L p lo hi = dg T' L p lo hi := by
  unfold dg
  by_cases h : p < L
  · rw [ag p h]
  · have e1 : ¬ (p < L ∧ ¬ T p - 48 < lo ∧ ¬ hi < T p - 48) := fun g => h g.1
    have e2 : ¬ (p < L ∧ ¬ T' p - 48 < lo ∧ ¬ hi < T' p - 48) := fun g => h g.1
    rw [decide_eq_false e1, decide_eq_false e2]
theorem pe_key_ag (ag : ∀ j, j < L → T j = T' j) (p : Nat) : pe_key T L p = pe_key T' L p := by
  unfold pe_key
  rw [dg_ag ag, dg_ag ag]
theorem pe_rule_ag (ag : ∀ j, j < L → T j = T' j) (p : Nat) : pe_rule T L p = pe_rule T' L p := by
  unfold pe_rule
  rw [dg_ag ag]
theorem pe_tick_ag (ag : ∀ j, j < L → T j = T' j) (p : Nat) : pe_tick T L p = pe_tick T' L p := by
  unfold pe_tick
  rw [dg_ag ag]
  by_cases h : dg T' L p 0 9 = true
  · rw [if_pos h, if_pos h, ag p (dg_p h).1, dg_ag ag]
  · rw [if_neg h, if_neg h]
theorem pe_force_ag (ag : ∀ j, j < L → T j = T' j) (p : Nat) : pe_force T L p = pe_force T' L p := by
  unfold pe_force
  rw [dg_ag ag]
  by_cases h : dg T' L p 0 1 = true
  · rw [if_pos h, if_pos h, ag p (dg_p h).1, dg_ag ag]
    by_cases h2 : dg T' L (p + 1) 0 (if T' p - 48 = 1 then 0 else 9) = true
    · rw [if_pos h2, if_pos h2, ag (p + 1) (dg_p h2).1, dg_ag ag]
    · rw [if_neg h2, if_neg h2]
  · rw [if_neg h, if_neg h]
theorem pe_cmd_ag (ag : ∀ j, j < L → T j = T' j) {p : Nat} (hpL : p < L) : pe_cmd T L p = pe_cmd T' L p := by
  unfold pe_cmd
  rw [ag p hpL, pe_key_ag ag, pe_force_ag ag, pe_tick_ag ag, pe_rule_ag ag]
theorem pe_all_ag (ag : ∀ j, j < L → T j = T' j) (n : Nat) : ∀ p, pe_all T L n p = pe_all T' L n p := by
  induction n with
  | zero => intro p; rfl
  | succ n ih =>
    intro p
    unfold pe_all
    by_cases h : p < L
    · rw [if_pos h, if_pos h, pe_cmd_ag ag h, ag p h, ih]
    · rw [if_neg h, if_neg h]
theorem pe_err_ag (ag : ∀ j, j < L → T j = T' j) : pe_err T L = pe_err T' L := by
  unfold pe_err
  by_cases h : 0 < L
  · rw [ag 0 h, pe_all_ag ag]
  · rw [if_neg (fun g => h g.1), if_neg (fun g => h g.1)]
theorem sc_cmd_ag (ag : ∀ j, j < L → T j = T' j) {p : Nat} (hpL : p < L) (hL2 : L ≤ 120) (hv : pe_cmd T L p = -1) (I : Nat → Nat → Int32) : sc_cmd I T p = sc_cmd I T' p := by
  unfold pe_cmd at hv
  unfold sc_cmd
  rw [ag p hpL] at hv ⊢
  have ck : ∀ x, x + 1 < L → cm_key T x = cm_key T' x := fun x h => by unfold cm_key; rw [ag _ h, ag x (by omega)]
  by_cases h1 : T' p = 112
  · rw [if_pos h1] at hv
    have hk : pe_key T L (p + 1) = -1 := Classical.byContradiction fun h => by rw [if_neg h] at hv; exact h hv
    rw [if_pos hk] at hv
    obtain ⟨b1, -⟩ := pe_key_ok' (by omega) hk
    obtain ⟨-, -, f3⟩ := pe_force_ok (by omega) hv
    have b2 := (dg_p f3).1
    have cf : cm_force T (p + 3) = cm_force T' (p + 3) := by unfold cm_force; rw [ag _ b2, ag (p + 3 + 1) (by omega), ag (p + 3) (by omega)]
    rw [if_pos h1, if_pos h1, ck _ b1, cf]
  rw [if_neg h1] at hv
  rw [if_neg h1, if_neg h1]
  by_cases h2 : T' p = 114
  · rw [if_pos h2] at hv
    obtain ⟨b1, -⟩ := pe_key_ok' (by omega) hv
    rw [if_pos h2, if_pos h2, ck _ b1]
  rw [if_neg h2] at hv
  rw [if_neg h2, if_neg h2]
  by_cases h3 : T' p = 116
  · rw [if_pos h3] at hv
    have b1 := (tick_num hv (by omega)).1
    rw [if_pos h3, if_pos h3, ck _ b1]
  rw [if_neg h3] at hv
  rw [if_neg h3, if_neg h3]
  by_cases h4 : T' p = 115
  · rw [if_pos h4] at hv
    have b1 := (dg_p (pe_rule_ok (by omega) hv)).1
    rw [if_pos h4, if_pos h4, ag _ b1]
  rw [if_neg h4, if_neg h4]
theorem sc_play_ag (ag : ∀ j, j < L → T j = T' j) (hL2 : L ≤ 120) (n : Nat) : ∀ (p : Nat) (I : Nat → Nat → Int32) (l : Int32), pe_all T L n p = -1 → sc_play T L n p I l = sc_play T' L n p I l := by
  induction n with
  | zero => intro p I l _; rfl
  | succ n ih =>
    intro p I l hv
    unfold pe_all at hv
    unfold sc_play
    by_cases h : p < L
    · rw [if_pos h] at hv
      have hv1 : pe_cmd T L p = -1 := Classical.byContradiction fun g => by rw [if_neg g] at hv; exact g hv
      rw [if_pos hv1] at hv
      rw [if_pos h, if_pos h, sc_cmd_ag ag h hL2 hv1, ih _ _ _ hv, ag p h]
    · rw [if_neg h, if_neg h]
/-! one text -/
theorem tkey_pe {p : Nat} (hpp : p ≤ 200) : (pe_key T L p = -1 ∧ tkey T L (p, true) = (cm_key T p, p + 2, true)) ∨ (¬ pe_key T L p = -1 ∧ (tkey T L (p, true)).2.2 = false ∧ pe_key T L p = nI (tkey T L (p, true)).2.1) := by
  unfold pe_key tkey
  by_cases h1 : dg T L p 0 5 = true
  · rw [if_pos h1, td_y h1]
    dsimp only
    by_cases h2 : dg T L (p + 1) 0 9 = true
    · rw [if_pos h2, td_y h2]
      exact Or.inl ⟨rfl, rfl⟩
    · rw [if_neg h2, td_n h2]
      exact Or.inr ⟨neN (by omega), rfl, rfl⟩
  · rw [if_neg h1, td_n h1]
    dsimp only
    rw [td_f]
    exact Or.inr ⟨neN (by omega), rfl, rfl⟩
theorem tforce_f (p : Nat) : (tforce T L (p, false)).2 = (p, false) := by
  unfold tforce tf3
  have e1 : tf1 T L (p, false) = (0, p, false) := td_f
  have e2 : tf2 T L (p, false) = (0, p, false) := by
    unfold tf2
    rw [e1]
    exact td_f
  rw [e1, e2]
  dsimp only
  rw [td_f]
theorem tforce_pe {p : Nat} (hpp : p ≤ 200) : (pe_force T L p = -1 ∧ tforce T L (p, true) = (cm_force T p, p + 3, true)) ∨ (¬ pe_force T L p = -1 ∧ (tforce T L (p, true)).2.2 = false ∧ pe_force T L p = nI (tforce T L (p, true)).2.1) := by
  unfold pe_force tforce
  by_cases h1 : dg T L p 0 1 = true
  · have e1 : tf1 T L (p, true) = (T p - 48, p + 1, true) := td_y h1
    by_cases h2 : dg T L (p + 1) 0 (if T p - 48 = 1 then 0 else 9) = true
    · have e2 : tf2 T L (p, true) = (T (p + 1) - 48, p + 1 + 1, true) := by
        unfold tf2
        rw [e1]
        exact td_y h2
      by_cases h3 : dg T L (p + 1 + 1) (if (T p - 48) + (T (p + 1) - 48) = 0 then 1 else 0) (if T p - 48 = 1 then 0 else 9) = true
      · have e3 : tf3 T L (p, true) = (T (p + 1 + 1) - 48, p + 1 + 1 + 1, true) := by
          unfold tf3
          rw [e1, e2]
          exact td_y h3
        rw [if_pos h1, if_pos h2, if_pos h3, e1, e2, e3]
        exact Or.inl ⟨rfl, rfl⟩
      · have e3 : (tf3 T L (p, true)).2 = (p + 1 + 1, false) := by
          unfold tf3
          rw [e1, e2]
          dsimp only
          rw [td_n h3]
        rw [if_pos h1, if_pos h2, if_neg h3, e3]
        exact Or.inr ⟨neN (by omega), rfl, rfl⟩
    · have e2 : (tf2 T L (p, true)).2 = (p + 1, false) := by
        unfold tf2
        rw [e1]
        dsimp only
        rw [td_n h2]
      have e3 : (tf3 T L (p, true)).2 = (p + 1, false) := by
        unfold tf3
        rw [e2, td_f]
      rw [if_pos h1, if_neg h2, e3]
      exact Or.inr ⟨neN (by omega), rfl, rfl⟩
  · have e1 : (tf1 T L (p, true)).2 = (p, false) := by
      unfold tf1
      rw [td_n h1]
    have e2 : (tf2 T L (p, true)).2 = (p, false) := by
      unfold tf2
      rw [e1, td_f]
    have e3 : (tf3 T L (p, true)).2 = (p, false) := by
      unfold tf3
      rw [e2, td_f]
    rw [if_neg h1, e3]
    exact Or.inr ⟨neN (by omega), rfl, rfl⟩
theorem ttick_pe {p : Nat} (hpp : p ≤ 200) : (pe_tick T L (p + 1) = -1 ∧ 10 * (ttick1 T L p).1 + (ttick2 T L p).1 = cm_key T (p + 1) ∧ (ttick2 T L p).2 = (p + 3, true)) ∨ (¬ pe_tick T L (p + 1) = -1 ∧ (ttick2 T L p).2.2 = false ∧ pe_tick T L (p + 1) = nI (ttick2 T L p).2.1) := by
  unfold pe_tick
  by_cases h1 : dg T L (p + 1) 0 9 = true
  · have e1 : ttick1 T L p = (T (p + 1) - 48, p + 1 + 1, true) := td_y h1
    by_cases h2 : dg T L (p + 1 + 1) (if T (p + 1) - 48 = 0 then 1 else 0) 9 = true
    · have e2 : ttick2 T L p = (T (p + 1 + 1) - 48, p + 1 + 1 + 1, true) := by
        unfold ttick2
        rw [e1]
        exact td_y h2
      rw [if_pos h1, if_pos h2, e1, e2]
      exact Or.inl ⟨rfl, rfl, rfl⟩
    · have e2 : (ttick2 T L p).2 = (p + 1 + 1, false) := by
        unfold ttick2
        rw [e1]
        dsimp only
        rw [td_n h2]
      rw [if_pos h1, if_neg h2, e2]
      exact Or.inr ⟨neN (by omega), rfl, rfl⟩
  · have e1 : (ttick1 T L p).2 = (p + 1, false) := by
      unfold ttick1
      rw [td_n h1]
    have e2 : (ttick2 T L p).2 = (p + 1, false) := by
      unfold ttick2
      rw [e1, td_f]
    rw [if_neg h1, e2]
    exact Or.inr ⟨neN (by omega), rfl, rfl⟩
theorem tr_pe {p : Nat} (hpp : p ≤ 200) : (pe_rule T L (p + 1) = -1 ∧ tr1 T L p = (T (p + 1) - 48, p + 2, true)) ∨ (¬ pe_rule T L (p + 1) = -1 ∧ (tr1 T L p).2.2 = false ∧ pe_rule T L (p + 1) = nI (tr1 T L p).2.1) := by
  unfold pe_rule tr1
  by_cases h1 : dg T L (p + 1) 0 3 = true
  · rw [if_pos h1, td_y h1]
    exact Or.inl ⟨rfl, rfl⟩
  · rw [if_neg h1, td_n h1]
    exact Or.inr ⟨neN (by omega), rfl, rfl⟩
theorem force_num {p : Nat} (h1 : dg T L p 0 1 = true) (h2 : dg T L (p + 1) 0 (if T p - 48 = 1 then 0 else 9) = true) (h3 : dg T L (p + 1 + 1) (if (T p - 48) + (T (p + 1) - 48) = 0 then 1 else 0) (if T p - 48 = 1 then 0 else 9) = true) : ∃ s, 1 ≤ s ∧ s ≤ 100 ∧ cm_force T p = nI s := by
  obtain ⟨j, hj, e1⟩ := dg_j h1 (Or.inl rfl) (n := 1) (by omega) rfl
  unfold cm_force
  rw [e1] at h2 h3 ⊢
  have e100 : (100 : Int32) = nI 100 := rfl
  have e10 : (10 : Int32) = nI 10 := rfl
  by_cases hj1 : j = 1
  · subst hj1
    rw [if_pos (show nI 1 = (1 : Int32) from rfl)] at h2 h3
    obtain ⟨i, hi, e2⟩ := dg_j h2 (Or.inl rfl) (n := 0) (by omega) rfl
    have hi0 : i = 0 := by omega
    subst hi0
    rw [e2, if_neg (show ¬ nI 1 + nI 0 = (0 : Int32) by decide)] at h3
    obtain ⟨u, hu, e3⟩ := dg_j h3 (Or.inl rfl) (n := 0) (by omega) rfl
    have hu0 : u = 0 := by omega
    subst hu0
    rw [e2, e3]
    exact ⟨100, by omega, by omega, by decide⟩
  · have hj0 : j = 0 := by omega
    subst hj0
    rw [if_neg (show ¬ nI 0 = (1 : Int32) by decide)] at h2 h3
    obtain ⟨i, hi, e2⟩ := dg_j h2 (Or.inl rfl) (n := 9) (by omega) rfl
    rw [e2] at h3 ⊢
    obtain ⟨u, hu, e3⟩ := dg_j h3 (by split; exact Or.inr rfl; exact Or.inl rfl) (n := 9) (by omega) rfl
    obtain ⟨-, h4, -⟩ := dg_p h3
    rw [e3] at h4 ⊢
    refine ⟨10 * i + u, ?_, by omega, ?_⟩
    · by_cases hi0 : i = 0
      · subst hi0
        rw [if_pos (show nI 0 + nI 0 = (0 : Int32) by decide), show (1 : Int32) = nI 1 from rfl, nJ_lt (by omega) (by omega)] at h4
        omega
      · omega
    · rw [e100, e10, nJ_mul, nJ_mul, nI_add, nI_add]
      congr 1
      omega
/-- a command, on both sides -/
theorem rc_pe {p : Nat} (hpL : p < L) (hL2 : L ≤ 120) (q : Nat → Int32) (l : Int32) : (pe_cmd T L p = -1 ∧ (rc T L p q l).1 = (p + pc_ln (T p), true)) ∨ (¬ pe_cmd T L p = -1 ∧ (rc T L p q l).1.2 = false ∧ pe_cmd T L p = nI (rc T L p q l).1.1) := by
  unfold pe_cmd rc pc_ln
  by_cases h1 : T p = 112
  · rw [if_pos h1, if_pos h1, if_pos h1]
    rcases tkey_pe (T := T) (L := L) (p := p + 1) (by omega) with ⟨a1, a2⟩ | ⟨a1, a2, a3⟩
    · have k1 : tk1 T L p = (cm_key T (p + 1), p + 1 + 2, true) := a2
      rw [if_pos a1]
      have k2 : tk2 T L p = tforce T L (p + 3, true) := by unfold tk2; rw [k1]
      rw [k2]
      rcases tforce_pe (T := T) (L := L) (p := p + 3) (by omega) with ⟨b1, b2⟩ | ⟨b1, b2, b3⟩
      · rw [b2]
        refine Or.inl ⟨b1, ?_⟩
        rw [if_pos rfl]
        split <;> rfl
      · rw [if_neg (by rw [b2]; decide)]
        exact Or.inr ⟨b1, b2, b3⟩
    · rw [if_neg a1]
      have k1 : (tk1 T L p).2 = ((tkey T L (p + 1, true)).2.1, false) := by
        show (tkey T L (p + 1, true)).2 = _
        rw [← a2]
      have k2 : (tk2 T L p).2 = ((tkey T L (p + 1, true)).2.1, false) := by
        unfold tk2
        rw [k1]
        exact tforce_f _
      rw [if_neg (by rw [k2]; exact Bool.false_ne_true)]
      refine Or.inr ⟨a1, ?_, ?_⟩
      · show (tk2 T L p).2.2 = false
        rw [k2]
      · show _ = nI (tk2 T L p).2.1
        rw [k2]
        exact a3
  rw [if_neg h1, if_neg h1, if_neg h1]
  by_cases h2 : T p = 114
  · rw [if_pos h2, if_pos h2, if_pos h2]
    rcases tkey_pe (T := T) (L := L) (p := p + 1) (by omega) with ⟨a1, a2⟩ | ⟨a1, a2, a3⟩
    · have k1 : tk1 T L p = (cm_key T (p + 1), p + 1 + 2, true) := a2
      rw [k1]
      refine Or.inl ⟨a1, ?_⟩
      rw [if_pos rfl]
      split <;> rfl
    · have k0 : (tk1 T L p).2.2 = false := a2
      rw [if_neg (by rw [k0]; decide)]
      exact Or.inr ⟨a1, a2, a3⟩
  rw [if_neg h2, if_neg h2, if_neg h2]
  by_cases h3 : T p = 116
  · rw [if_pos h3, if_pos h3, if_pos h3]
    rcases ttick_pe (T := T) (L := L) (p := p) (by omega) with ⟨a1, -, a2⟩ | ⟨a1, a2, a3⟩
    · rw [if_pos (by rw [a2])]
      exact Or.inl ⟨a1, a2⟩
    · rw [if_neg (by rw [a2]; decide)]
      exact Or.inr ⟨a1, a2, a3⟩
  rw [if_neg h3, if_neg h3, if_neg h3]
  by_cases h4 : T p = 115
  · rw [if_pos h4, if_pos h4, if_pos h4]
    rcases tr_pe (T := T) (L := L) (p := p) (by omega) with ⟨a1, a2⟩ | ⟨a1, a2, a3⟩
    · rw [a2, if_pos rfl]
      exact Or.inl ⟨a1, rfl⟩
    · rw [if_neg (by rw [a2]; decide)]
      exact Or.inr ⟨a1, a2, a3⟩
  rw [if_neg h4, if_neg h4, if_neg h4]
  by_cases h5 : T p = 100
  · rw [if_pos h5, if_pos (Or.inl h5)]
    exact Or.inl ⟨rfl, rfl⟩
  rw [if_neg h5]
  by_cases h6 : T p = 117
  · rw [if_pos h6, if_pos (Or.inr h6)]
    exact Or.inl ⟨rfl, rfl⟩
  · rw [if_neg h6, if_neg (fun g => g.elim h5 h6)]
    exact Or.inr ⟨neN (by omega), rfl, rfl⟩
theorem ra_f (n : Nat) {s : (Nat × Bool) × (Nat → Int32) × Int32} (h : ¬ (s.1.2 = true ∧ s.1.1 < L)) : ra T L n s = s := by
  cases n with
  | zero => rfl
  | succ n =>
    unfold ra
    rw [if_neg h]
theorem ra_pe (hL2 : L ≤ 120) (n : Nat) : ∀ (m p : Nat) (q : Nat → Int32) (l : Int32), L ≤ p + n → L ≤ p + m → pe_all T L n p = if (ra T L m ((p, true), q, l)).1.2 = true then -1 else nI (ra T L m ((p, true), q, l)).1.1 := by
  induction n with
  | zero =>
    intro m p q l h1 h2
    rw [ra_f (s := ((p, true), q, l)) m (fun g => by have g2 : p < L := g.2; omega)]
    rfl
  | succ n ih =>
    intro m p q l h1 h2
    unfold pe_all
    by_cases h : p < L
    · obtain ⟨m, rfl⟩ : ∃ k, m = k + 1 := ⟨m - 1, by omega⟩
      rw [if_pos h]
      unfold ra
      rw [if_pos (show (((p, true), q, l) : (Nat × Bool) × (Nat → Int32) × Int32).1.2 = true ∧ (((p, true), q, l) : (Nat × Bool) × (Nat → Int32) × Int32).1.1 < L from ⟨rfl, h⟩)]
      dsimp only
      rcases rc_pe h hL2 q l with ⟨a1, a2⟩ | ⟨a1, a2, a3⟩
      · rw [if_pos a1]
        have e : rc T L p q l = ((p + pc_ln (T p), true), (rc T L p q l).2.1, (rc T L p q l).2.2) := by rw [← a2]
        have hl := (pc_ln_c (T p)).2.1
        rw [e]
        exact ih m _ _ _ (by omega) (by omega)
      · rw [if_neg a1, ra_f m (fun g => by rw [a2] at g; exact absurd g.1 (by decide)), a2, if_neg (by decide)]
        exact a3
    · rw [if_neg h, ra_f (s := ((p, true), q, l)) m (fun g => h g.2)]
      rfl
theorem err_pe (hL2 : L ≤ 120) (q : Nat → Int32) : pe_err T L = if (rd_all T L q).1.2 = true then -1 else nI (rd_all T L q).1.1 := by
  unfold pe_err rd_all rd_0
  by_cases h : 0 < L ∧ T 0 = 86
  · rw [if_pos h, if_pos h]
    exact ra_pe hL2 120 130 1 q 0 (by omega) (by omega)
  · rw [if_neg h, if_neg h, ra_f (s := ((0, false), q, 0)) 130 (fun g => by cases g.1)]
    rfl
/-- a command that is valid, done on both sides -/
theorem R_cmd {B : Nat} {I : Nat → Nat → Int32} {q : Nat → Int32} (h : SX 0 0 B I 3 q) (hB : B < 2 ^ 30) {p : Nat} (hpL : p < L) (hL2 : L ≤ 120) (hv : pe_cmd T L p = -1) (l : Int32) : SX 0 0 (B + 600) (sc_cmd I T p).2 3 (rc T L p q l).2.1 ∧ (rc T L p q l).2.2 = if (sc_cmd I T p).1 = 0 then l + 1 else l := by
  unfold pe_cmd at hv
  unfold sc_cmd rc
  have z0 : (0 : Int32) = 0 := rfl
  have z1 : ¬ (1 : Int32) = 0 := by decide
  by_cases h1 : T p = 112
  · rw [if_pos h1] at hv
    rw [if_pos h1, if_pos h1]
    have hk : pe_key T L (p + 1) = -1 := Classical.byContradiction fun h => by rw [if_neg h] at hv; exact h hv
    rw [if_pos hk] at hv
    obtain ⟨b1, k, hk1, ek⟩ := pe_key_ok' (by omega) hk
    obtain ⟨f1, f2, f3⟩ := pe_force_ok (by omega) hv
    obtain ⟨s, hs1, hs2, es⟩ := force_num f1 f2 f3
    have k1 : tk1 T L p = (cm_key T (p + 1), p + 1 + 2, true) := by
      rcases tkey_pe (T := T) (L := L) (p := p + 1) (by omega) with ⟨-, a2⟩ | ⟨a1, -⟩
      · exact a2
      · exact absurd hk a1
    have k2 : tk2 T L p = (cm_force T (p + 3), p + 3 + 3, true) := by
      unfold tk2
      rw [k1]
      rcases tforce_pe (T := T) (L := L) (p := p + 3) (by omega) with ⟨-, a2⟩ | ⟨a1, -⟩
      · exact a2
      · exact absurd hv a1
    rw [k2, if_pos rfl, k1]
    dsimp only
    rw [ek, es, (cK hk1).2.1]
    have hdn := R_dn h hk1
    by_cases c : 0 < q (30 + 2 * k)
    · rw [if_pos c, if_pos (by rw [hdn]; exact c)]
      exact ⟨SX_B h (by omega), (if_pos z0).symm⟩
    · rw [if_neg c, if_neg (by rw [hdn]; exact c)]
      exact ⟨SX_B (R_strike h hB hk1 hs1 hs2).2 (by omega), (if_neg z1).symm⟩
  rw [if_neg h1] at hv
  rw [if_neg h1, if_neg h1]
  by_cases h2 : T p = 114
  · rw [if_pos h2] at hv
    rw [if_pos h2, if_pos h2]
    obtain ⟨b1, k, hk1, ek⟩ := pe_key_ok' (by omega) hv
    have k1 : tk1 T L p = (cm_key T (p + 1), p + 1 + 2, true) := by
      rcases tkey_pe (T := T) (L := L) (p := p + 1) (by omega) with ⟨-, a2⟩ | ⟨a1, -⟩
      · exact a2
      · exact absurd hv a1
    rw [k1, if_pos rfl]
    dsimp only
    rw [ek, (cK hk1).2.1]
    have hdn := R_dn h hk1
    by_cases c : 0 < q (30 + 2 * k)
    · rw [if_pos c, if_pos (by rw [hdn]; exact c)]
      exact ⟨SX_B (R_release h hk1).2 (by omega), (if_neg z1).symm⟩
    · rw [if_neg c, if_neg (by rw [hdn]; exact c)]
      exact ⟨SX_B h (by omega), (if_pos z0).symm⟩
  rw [if_neg h2] at hv
  rw [if_neg h2, if_neg h2]
  by_cases h3 : T p = 116
  · rw [if_pos h3] at hv
    rw [if_pos h3, if_pos h3]
    obtain ⟨-, k, hk1, hk2, ek⟩ := tick_num hv (by omega)
    rcases ttick_pe (T := T) (L := L) (p := p) (by omega) with ⟨-, a1, a2⟩ | ⟨a1, -⟩
    · rw [if_pos (by rw [a2]), a1, ek, nI_clamp (show k < 2 ^ 31 by omega)]
      exact ⟨SX_B (R_run k 0 h) (by omega), (if_neg z1).symm⟩
    · exact absurd hv a1
  rw [if_neg h3] at hv
  rw [if_neg h3, if_neg h3]
  by_cases h4 : T p = 115
  · rw [if_pos h4] at hv
    rw [if_pos h4, if_pos h4]
    have hr := pe_rule_ok (by omega) hv
    obtain ⟨n, hn, en⟩ := dg_j hr (Or.inl rfl) (n := 3) (by omega) rfl
    rcases tr_pe (T := T) (L := L) (p := p) (by omega) with ⟨-, a2⟩ | ⟨a1, -⟩
    · rw [a2, if_pos rfl]
      dsimp only
      rw [en]
      refine ⟨?_, (if_neg z1).symm⟩
      obtain ⟨g4, g5, g6, g7, g8, gs⟩ := h.2.2
      refine SX_B (SX_g h (B' := B) (dt' := 0) (dp' := 0) ?_ (fun x hx => mm_up_n _ _ (by omega))) (by omega)
      have h4 : n = 0 ∨ n = 1 ∨ n = 2 ∨ n = 3 := by omega
      simp +decide only [GR, mm_up_s, mm_up_n, not_false_eq_true]
      refine ⟨g4, g5, g6, ⟨trivial, ?_⟩, g8, gs⟩
      rcases h4 with e4 | e4 | e4 | e4 <;> rw [e4]
      · exact Or.inl rfl
      · exact Or.inr (Or.inl rfl)
      · exact Or.inr (Or.inr (Or.inl rfl))
      · exact Or.inr (Or.inr (Or.inr rfl))
    · exact absurd hv a1
  rw [if_neg h4] at hv
  rw [if_neg h4, if_neg h4]
  by_cases h5 : T p = 100
  · rw [if_pos h5, if_pos h5]
    exact ⟨SX_B (R_pedal h (Or.inr rfl)).2 (by omega), (if_neg z1).symm⟩
  rw [if_neg h5, if_neg h5]
  by_cases h6 : T p = 117
  · rw [if_pos h6]
    exact ⟨SX_B (R_pedal h (Or.inl rfl)).2 (by omega), (if_neg z1).symm⟩
  · rw [if_neg (fun g => g.elim h5 h6)] at hv
    exact absurd hv (neN (by omega))
theorem R_play (hL2 : L ≤ 120) (n : Nat) : ∀ {B : Nat} {I : Nat → Nat → Int32} {q : Nat → Int32} (m p : Nat) (l : Int32), SX 0 0 B I 3 q → B + 600 * n < 2 ^ 30 → pe_all T L n p = -1 → L ≤ p + n → L ≤ p + m → SX 0 0 (B + 600 * n) (sc_play T L n p I l).2 3 (ra T L m ((p, true), q, l)).2.1 ∧ (sc_play T L n p I l).1 = (ra T L m ((p, true), q, l)).2.2 ∧ ∀ y, ¬ (3 ≤ y ∧ y < 14) → (sc_play T L n p I l).2 y = I y := by
  induction n with
  | zero =>
    intro B I q m p l h _ _ h1 h2
    rw [ra_f (s := ((p, true), q, l)) m (fun g => by have g2 : p < L := g.2; omega)]
    exact ⟨h, rfl, fun _ _ => rfl⟩
  | succ n ih =>
    intro B I q m p l h hB hv h1 h2
    unfold pe_all at hv
    unfold sc_play
    by_cases c : p < L
    · obtain ⟨m, rfl⟩ : ∃ k, m = k + 1 := ⟨m - 1, by omega⟩
      rw [if_pos c] at hv
      have hv1 : pe_cmd T L p = -1 := Classical.byContradiction fun g => by rw [if_neg g] at hv; exact g hv
      rw [if_pos hv1] at hv
      rw [if_pos c]
      unfold ra
      rw [if_pos (show (((p, true), q, l) : (Nat × Bool) × (Nat → Int32) × Int32).1.2 = true ∧ (((p, true), q, l) : (Nat × Bool) × (Nat → Int32) × Int32).1.1 < L from ⟨rfl, c⟩)]
      dsimp only
      rcases rc_pe c hL2 q l with ⟨-, a2⟩ | ⟨a1, -⟩
      · obtain ⟨r1, r2⟩ := R_cmd h (by omega) c hL2 hv1 l
        have e : rc T L p q l = ((p + pc_ln (T p), true), (rc T L p q l).2.1, (rc T L p q l).2.2) := by rw [← a2]
        have hl := (pc_ln_c (T p)).2.1
        rw [e, r2]
        obtain ⟨i1, i2, i3⟩ := ih m (p + pc_ln (T p)) (if (sc_cmd I T p).1 = 0 then l + 1 else l) r1 (by omega) hv (by omega) (by omega)
        rw [show B + 600 + 600 * n = B + 600 * (n + 1) by omega] at i1
        exact ⟨i1, i2, fun y hy => by rw [i3 y hy, sc_cmd_o _ _ _ hy]⟩
      · exact absurd hv1 a1
    · rw [if_neg c, ra_f (s := ((p, true), q, l)) m (fun g => c g.2)]
      exact ⟨SX_B h (by omega), rfl, fun _ _ => rfl⟩
end XG
