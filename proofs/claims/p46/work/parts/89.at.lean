/-! steps of a walk over one object -/
section XT9
variable {B0 B m m' k mid t0 : Nat} {I0 I : Nat → Nat → Int32} {t nx c : Nat} {A A' : A46} {a : Value} {args : List Value} {r q : Nat → Int32} {P S : Nat → Nat → Int32} {u T : Nat → Int32} {L : Nat}
def AT (B0 : Nat) (I0 : Nat → Nat → Int32) (t0 m : Nat) (I : Nat → Nat → Int32) (t nx : Nat) (A : A46) : Prop := OB (B0 + 1000 * m) I nx A ∧ (∀ x, 206 ≤ x → I x = I0 x) ∧ t0 ≤ t ∧ t ≤ t0 + m
theorem AT_0 {o : Int64} (h : OB B0 I nx A) : AT B0 I t 0 I t nx A := ⟨h, fun _ _ => rfl, Nat.le_refl _, Nat.le_refl _⟩
theorem AT_m (h : AT B0 I0 t0 m I t nx A) (hm : m ≤ m') : AT B0 I0 t0 m' I t nx A := ⟨OB_B h.1 (by omega), h.2.1, h.2.2.1, by have := h.2.2.2; omega⟩
theorem DO_st {sc : Nat × (Nat → Int32)} {o : Int64} {Q : mm_Q} (hd : DO k mid args A a A') (hm : m + k = m') (hs : AT B0 I0 t0 m I t nx A) (hB : B0 + 1000 * m' < 2 ^ 29) (hK : ∀ I' t' nx', AT B0 I0 t0 m' I' t' nx' A' → Q (.inl (some a)) (hp sc I' o t')) : mm_C (mm_entry mid (.ref 0 :: args) (hp sc I o t)) Q := by
  obtain ⟨h1, h2, h3, h4⟩ := hs
  refine hd sc _ I nx o t Q h1 (by omega) fun I' nx' t' g1 g2 g3 g4 => ?_
  refine hK I' t' nx' ⟨?_, fun x hx => by rw [g2 x hx, h2 x hx], by omega, by omega⟩
  rw [← hm, show B0 + 1000 * (m + k) = B0 + 1000 * m + 1000 * k by omega]
  exact g1
theorem AT_do (hK : ∀ (sc : Nat × (Nat → Int32)) (B : Nat) (I : Nat → Nat → Int32) (nx : Nat) (o : Int64) (t : Nat) (Q : mm_Q), AT B I t 0 I t nx A → B + 1000 * k < 2 ^ 29 → (∀ I' t' nx', AT B I t k I' t' nx' A' → Q (.inl (some a)) (hp sc I' o t')) → mm_C (mm_entry mid (.ref 0 :: args) (hp sc I o t)) Q) : DO k mid args A a A' := by
  intro sc B I nx o t Q h hB hQ
  refine hK sc B I nx o t Q ⟨h, fun _ _ => rfl, Nat.le_refl _, Nat.le_refl _⟩ hB fun I' t' nx' g => ?_
  exact hQ I' nx' t' g.1 g.2.1 g.2.2.1 g.2.2.2
theorem DO_undo9 {c d : Nat} (hc : c = d + 1) (hq : P d = q) : DO 1 122 [] (r, c, P, u, S, L, T) (.long (nI d).toInt64) (q, d, P, u, S, L, T) := by
  subst hc
  subst hq
  exact DO_undo
/-- a press, with what holds behind it -/
theorem press_pack {k s : Nat} (h : SX 0 0 B I 3 r) (hK : KV B r) (hE : B + 2 < 2 ^ 30) (hk : k < 60) (hs1 : 1 ≤ s) (hs : s ≤ 100) (hu : ¬ 0 < r (30 + 2 * k)) (c : Nat) (P S : Nat → Nat → Int32) (u T : Nat → Int32) (L : Nat) :
    ∃ q, DO 1 116 [.int (nI k), .int (nI s)] (r, c, P, u, S, L, T) (.long (mo_for r k).toInt64) (q, pc1 c, psh c P r, u, S, L, T) ∧ 0 < q (30 + 2 * k) ∧ mo_voice q (nI k) = mo_for r k ∧
    ((∃ j, j < 6 ∧ mo_how r k = 0 ∧ mo_for r k = nI j ∧ q 158 = r 158 ∧ q 160 = r 160 ∧ q 161 = r 161 ∧ q (5 * j) = 1 ∧ q (5 * j + 3) = r (5 * j + 3)) ∨
     (∃ j, j < 6 ∧ mo_how r k = 1 ∧ mo_for r k = nI j ∧ q 158 = r 158 + 1 ∧ q 160 = r 160 ∧ q 161 = r 161 ∧ q (5 * j) = 1 ∧ q (5 * j + 3) = 0) ∨
     (∃ j, j < 6 ∧ mo_how r k = 2 ∧ mo_for r k = nI j ∧ q 158 = r 158 + 1 ∧ q 160 = r 160 + 1 ∧ q 161 = r 161 ∧ q (5 * j) = 1 ∧ q (5 * j + 3) = 0) ∨
     (mo_how r k = 3 ∧ mo_for r k = -1 ∧ q 158 = r 158 ∧ q 160 = r 160 ∧ q 161 = r 161 + 1 ∧ mo_lt q = nI k)) := by
  obtain ⟨f1, f2, f3, f4⟩ := press_fact (s := s) (SX_inv h) hK hE hk hu
  have hd := DO_press (c := c) (P := P) (S := S) (u := u) (T := T) (L := L) hk hs1 hs hu
  rw [f3] at hd f2
  exact ⟨_, hd, f1, f2, f4⟩
theorem im {n d : Nat} (hn : n < 2 ^ 31) (hd : d < 2 ^ 31) (h0 : 0 < d) : nI n - nI n / nI d * nI d = nI (n % d) := by
  rw [nJ_div hn hd h0, nJ_mul]
  have h1 := Nat.div_add_mod n d
  have h2 : nI n = nI (n % d) + nI (n / d * d) := by
    rw [nI_add]
    congr 1
    rw [Nat.mul_comm (n / d) d]
    omega
  conv => lhs; lhs; rw [h2]
  rw [Int32.add_sub_cancel]
end XT9
