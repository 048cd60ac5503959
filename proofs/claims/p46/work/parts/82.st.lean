/-! undo, the slots, the text, what would be -/
section XB9
variable {B B' : Nat} {I I' : Nat → Nat → Int32} {nx : Nat} {A : A46} {r q : Nat → Int32}
variable {c : Nat} {P S : Nat → Nat → Int32} {u T : Nat → Int32} {L : Nat}
theorem rgx_last {nx c : Nat} (hn : nx ≤ 14) (hc : c + 1 ≤ 14) : ∃ j, j < 14 ∧ (nx + 13) % 14 = j ∧ rgx nx (c + 1) c = j := ⟨(nx + 13) % 14, Nat.mod_lt _ (by omega), rfl, by unfold rgx; omega⟩
theorem OB_undo {j : Nat} (h : OB B I nx (r, c + 1, P, u, S, L, T)) (hj : j < 14) (hnj : (nx + 13) % 14 = j) : OB B (pa_back I j) j (P c, c, P, u, S, L, T) := by
  obtain ⟨a1, ⟨p1, p2, p3, p4, p6⟩, a3, a4⟩ := h
  have p2 : c + 1 ≤ 14 := p2
  have p6 : ∀ i, i < c + 1 → SK B I (16 + 11 * rgx nx (c + 1) i) (P i) := p6
  have b0 : ∀ x, ¬ x = 14 → ¬ (3 ≤ x ∧ x < 14) → pa_back I j x = I x := fun x h1 h2 => by
    unfold pa_back
    rw [sy_copy_o _ (by omega), mm_up_n _ _ h1]
  have e14 : pa_back I j 14 = mm_up (mm_up (I 14) 1 (nI j)) 2 (I 14 2 - 1) := by
    unfold pa_back
    rw [sy_copy_o _ (by omega), mm_up_s]
  have ex : rgx nx (c + 1) c = j := by unfold rgx; omega
  have r1 := p6 c (by omega)
  rw [ex] at r1
  have r2 : SX 0 0 B (mm_up I 14 (mm_up (mm_up (I 14) 1 (nI j)) 2 (I 14 2 - 1))) (16 + 11 * j) (P c) := SX_pl r1.1 (fun x b1 b2 => mm_up_n _ _ (by omega))
  refine ⟨⟨R_copy (fun i k h1 h2 => by omega) r2 (fun _ _ => rfl), r1.2⟩, ⟨by omega, by show c ≤ 14; omega, ?_, ?_, fun i hi => ?_⟩, fun s hs => OBs_pl hs (a3 s hs) (Nat.le_refl _) (by rw [b0 171 (by omega) (by omega)]) (fun x x1 x2 => b0 x (by omega) (by omega)), OBt_pl a4 (by rw [b0 1 (by omega) (by omega)]) (b0 2 (by omega) (by omega))⟩
  · rw [e14, mm_up_n _ _ (by decide), mm_up_s]
  · show pa_back I j 14 2 = nI c
    rw [e14, mm_up_s, show I 14 2 = nI (c + 1) from p4, nI_pred]
  · have hi : i < c := hi
    show SK B (pa_back I j) (16 + 11 * rgx j c i) (P i)
    have ex : rgx j c i = rgx nx (c + 1) i := by unfold rgx; omega
    rw [ex]
    have hl := rgx_lt nx (c + 1) i
    exact SK_pl (p6 i (by omega)) (fun x b1 b2 => b0 x (by omega) (by omega))
theorem DO_undo : DO 1 122 [] (r, c + 1, P, u, S, L, T) (.long (nI c).toInt64) (P c, c, P, u, S, L, T) := by
  intro sc B I nx o t Q h hB hK
  have hp9 := h.2.1
  obtain ⟨j, hj, hnj, hx⟩ := rgx_last hp9.1 (show c + 1 ≤ 14 from hp9.2.1)
  have hU := OB_undo h hj hnj
  have hs : SK B I (16 + 11 * j) (P c) := by
    have := hp9.2.2.2.2 c (show c < c + 1 by omega)
    rw [show (r, c + 1, P, u, S, L, T).2.1 = c + 1 from rfl, hx] at this
    exact this
  have hn : (if 0 < I 14 1 then I 14 1 - 1 else 13) = nI j := by
    rw [hp9.2.2.1]
    have h14 : nx ≤ 14 := hp9.1
    by_cases e : nx = 0
    · subst e
      rw [if_neg (by decide), ← hnj]
      rfl
    · obtain ⟨m, rfl⟩ : ∃ m, nx = m + 1 := ⟨nx - 1, by omega⟩
      rw [if_pos (show (0 : Int32) < nI (m + 1) from nI_lt (a := 0) (b := m + 1) (by omega) (by omega)), nI_pred]
      congr 1
      omega
  have h0 : ¬ I 14 2 = 0 := by
    rw [show I 14 2 = nI (c + 1) from hp9.2.2.2.1]
    exact nI_ne0 (by omega) (by have : c + 1 ≤ 14 := hp9.2.1; omega)
  refine (w122_ok (fun Q => by rw [c89 hj h0 hn hs.1.2.2.2.1.2 hs.1.2.2.2.2.1.2])).mpr ?_
  rw [show pa_back I j 14 2 = nI c from hU.2.1.2.2.2.1]
  exact hK _ j _ (OB_B hU (by omega)) (fun x hx9 => by
    unfold pa_back
    rw [sy_copy_o _ (by omega), mm_up_n _ _ (by omega)]) (Nat.le_refl _) (by omega)
theorem e122x {sc : Nat × (Nat → Int32)} {o : Int64} {t : Nat} {Q : mm_Q} (h : OB B I nx (r, 0, P, u, S, L, T)) : mm_C (mm_entry 122 [.ref 0] (hp sc I o t)) Q ↔ Q (.inl (some (.long (mm_LC 2)))) (hp sc I o (t + 1)) :=
  w122_t2 fun Q => c89_0 h.2.1.2.2.2.1
theorem OB_save {s : Nat} (h : OB B I nx (r, c, P, u, S, L, T)) (hs : s < 2) : OB B (sy_save I s) nx (r, c, P, mm_up u s 1, mm_up S s r, L, T) := by
  obtain ⟨a1, a2, a3, a4⟩ := h
  have b0 : ∀ x, ¬ x = 171 → ¬ (184 + 11 * s ≤ x ∧ x < 184 + 11 * s + 11) → sy_save I s x = I x := fun x h1 h2 => by
    unfold sy_save
    rw [mm_up_n _ _ h1, sy_copy_o _ h2]
  have e171 : sy_save I s 171 = mm_up (I 171) s 1 := by
    unfold sy_save
    rw [mm_up_s, sy_copy_o _ (by omega)]
  have r1 : SX 0 0 B (sy_copy I (184 + 11 * s) 3) (184 + 11 * s) r := R_copy (fun i k h1 h2 => by omega) a1.1 (fun _ _ => rfl)
  have r2 : SX 0 0 B (sy_save I s) (184 + 11 * s) r := SX_pl r1 (fun x b1 b2 => by
    unfold sy_save
    rw [mm_up_n _ _ (by omega)])
  refine ⟨SK_pl a1 fun x x1 x2 => b0 x (by omega) (by omega), OBp_pl a2 (Nat.le_refl _) fun x x1 x2 => b0 x (by omega) (by omega), fun k hk => ?_, OBt_pl a4 (by rw [b0 1 (by omega) (by omega)]) (b0 2 (by omega) (by omega))⟩
  show OBs B (sy_save I s) k (mm_up u s 1 k) (mm_up S s r k)
  by_cases e : k = s
  · subst e
    rw [mm_up_s, mm_up_s]
    exact ⟨⟨by rw [e171, mm_up_s], Or.inr rfl⟩, ⟨r2.2.2.2.1.2, r2.2.2.2.2.1.2⟩, fun _ => ⟨r2, a1.2⟩⟩
  · rw [mm_up_n _ _ e, mm_up_n _ _ e]
    obtain ⟨c1, c2, c3⟩ := a3 k hk
    have ec : ∀ x, 184 + 11 * k ≤ x → x < 184 + 11 * k + 11 → sy_save I s x = I x := fun x b1 b2 => b0 x (by omega) (by omega)
    exact ⟨by rw [e171, mm_up_n _ _ e]; exact c1, by rw [ec _ (by omega) (by omega)]; exact c2, fun g => SK_pl (c3 g) ec⟩
theorem DO_save {s : Nat} (hs : s < 2) : DO 1 129 [.int (nI s)] (r, c, P, u, S, L, T) (.long (mo_use r).toInt64) (r, c, P, mm_up u s 1, mm_up S s r, L, T) := by
  intro sc B I nx o t Q h hB hK
  have hU := OB_save h hs
  have b5 := SX_b5 h.1.1
  refine (w129_ok (fun Q => by rw [c99 b5.1 b5.2, if_pos ⟨nI_pos (by omega), nI_lt (b := 2) hs (by omega)⟩, nI_clamp (show s < 2 ^ 31 by omega)])).mpr ?_
  rw [R_cnt hU.1.1]
  exact hK _ nx _ (OB_B hU (by omega)) (fun x hx => by
    unfold sy_save
    rw [mm_up_n _ _ (by omega), sy_copy_o _ (by omega)]) (Nat.le_refl _) (by omega)
theorem OB_rest {s : Nat} (h : OB B I nx (r, c, P, u, S, L, T)) (hs : s < 2) (hu : u s = 1) : OB B (sy_rest I s) 0 (S s, 0, P, u, S, L, T) := by
  obtain ⟨a1, a2, a3, a4⟩ := h
  have b0 : ∀ x, ¬ x = 14 → ¬ (3 ≤ x ∧ x < 14) → sy_rest I s x = I x := fun x h1 h2 => by
    unfold sy_rest
    rw [mm_up_n _ _ h1, sy_copy_o _ (by omega)]
  have e14 : sy_rest I s 14 = mm_up (mm_up (I 14) 1 0) 2 0 := by
    unfold sy_rest
    rw [mm_up_s, sy_copy_o _ (by omega)]
  have r1 : SK B I (184 + 11 * s) (S s) := (a3 s hs).2.2 hu
  have r2 : SX 0 0 B (sy_copy I 3 (184 + 11 * s)) 3 (S s) := R_copy (fun i k h1 h2 => by omega) r1.1 (fun _ _ => rfl)
  refine ⟨⟨SX_pl r2 (fun x b1 b2 => by
    unfold sy_rest
    rw [mm_up_n _ _ (by omega)]), r1.2⟩, ⟨by omega, by show 0 ≤ 14; omega, ?_, ?_, fun i hi => absurd hi (Nat.not_lt_zero i)⟩, fun k hk => OBs_pl hk (a3 k hk) (Nat.le_refl _) (by rw [b0 171 (by omega) (by omega)]) (fun x x1 x2 => b0 x (by omega) (by omega)), OBt_pl a4 (by rw [b0 1 (by omega) (by omega)]) (b0 2 (by omega) (by omega))⟩
  · rw [e14, mm_up_n _ _ (by decide), mm_up_s]; rfl
  · rw [e14, mm_up_s]; rfl
theorem DO_rest {s : Nat} (hs : s < 2) (hu : u s = 1) : DO 1 130 [.int (nI s)] (r, c, P, u, S, L, T) (.long (mo_use (S s)).toInt64) (S s, 0, P, u, S, L, T) := by
  intro sc B I nx o t Q h hB hK
  have hU := OB_rest h hs hu
  have h3 := h.2.2.1
  have e1 : ¬ I 171 s = 0 := by
    rw [(h3 s hs).1.1, show (r, c, P, u, S, L, T).2.2.2.1 s = 1 from hu]
    decide
  refine (w130_ok (fun Q => by rw [c100 (fun k hk => (h3 k hk).2.1.1) (fun k hk => (h3 k hk).2.1.2), if_pos ⟨nI_pos (by omega), nI_lt (b := 2) hs (by omega)⟩, nI_clamp (show s < 2 ^ 31 by omega), if_pos e1])).mpr ?_
  rw [R_cnt hU.1.1]
  exact hK _ 0 _ (OB_B hU (by omega)) (fun x hx => by
    unfold sy_rest
    rw [mm_up_n _ _ (by omega), sy_copy_o _ (by omega)]) (Nat.le_refl _) (by omega)
theorem DO_rest_x {s : Nat} (hs : s < 2) (hu : u s = 0) : DO 1 130 [.int (nI s)] (r, c, P, u, S, L, T) (.long (mm_LC 2)) (r, c, P, u, S, L, T) := by
  intro sc B I nx o t Q h hB hK
  have h3 := h.2.2.1
  have e1 : ¬ ¬ I 171 s = 0 := fun g => g (by
    rw [(h3 s hs).1.1]
    exact hu)
  refine (w130_t2 (fun Q => by rw [c100 (fun k hk => (h3 k hk).2.1.1) (fun k hk => (h3 k hk).2.1.2), if_pos ⟨nI_pos (by omega), nI_lt (b := 2) hs (by omega)⟩, nI_clamp (show s < 2 ^ 31 by omega), if_neg e1])).mpr ?_
  exact hK _ nx _ (OB_B h (by omega)) (fun _ _ => rfl) (by omega) (by omega)
theorem sy_look_o (n : Nat) : ∀ (J : Nat → Nat → Int32) (c : Int32) {x : Nat}, ¬ (172 ≤ x ∧ x < 172 + 11) → (sy_look n J c).2 x = J x := by
  induction n with
  | zero => intro J c x _; rfl
  | succ n ih =>
    intro J c x hx
    unfold sy_look
    rw [ih _ _ hx, fr_tick _ hx]
theorem DO_loudest {n : Nat} (h1 : 1 ≤ n) (h2 : n ≤ 200) : DO 1 127 [.int (nI n)] (r, c, P, u, S, L, T) (.long (mo_look n r 0).1.toInt64) (r, c, P, u, S, L, T) := by
  intro sc B I nx o t Q h hB hK
  have b5 := SX_b5 h.1.1
  have hJ : ∀ x, ¬ (172 ≤ x ∧ x < 184) → (sy_look n (sy_copy I 172 3) 0).2 x = I x := fun x hx => by rw [sy_look_o _ _ _ (by omega), sy_copy_o _ (by omega)]
  have ht : SX 0 0 B (sy_copy I 172 3) 172 r := R_copy (fun i k h1 h2 => by omega) h.1.1 (fun _ _ => rfl)
  refine (w127_ok (fun Q => by rw [c95 b5.1 b5.2, if_pos ⟨nI_nlt (a := n) (b := 1) h1 (by omega), nI_nlt (a := 200) (b := n) h2 (by omega)⟩, nI_clamp (show n < 2 ^ 31 by omega)])).mpr ?_
  rw [R_look n 0 ht]
  exact hK _ nx _ (OB_pl h (by omega) fun x _ x2 => hJ x x2) (fun x hx => hJ x (by omega)) (Nat.le_refl _) (by omega)
noncomputable def mo_simul (c1 c2 m : Nat) (r : Nat → Int32) (x : Int64) : Int32 := 10000 * ((itr (mo_st c1 c2) m (r, x)).1 158 - r 158) + mo_loud (itr (mo_st c1 c2) m (r, x)).1
end XB9
