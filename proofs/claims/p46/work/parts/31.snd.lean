/-! calls with handlers, and the closure -/
section MMH
variable {l : Launch} {D : mm_D} {base b : Nat} {sc : Nat × (Nat → Int32)}
def mm_hnd2 : List Nat → Nat → Option (Nat × Nat)
  | e :: k :: b :: _ :: r, E => if e = E then some (k, b) else mm_hnd2 r E
  | _, _ => none
theorem mm_hnd_2 {ax : List Nat} {E : Nat} {v : Nat × Nat} (h : mm_hnd ax E = some v) : mm_hnd2 ax E = some v := by
  rcases ax with _ | ⟨e, _ | ⟨k, _ | ⟨b, _ | ⟨t, r⟩⟩⟩⟩ <;> try (simp [mm_hnd] at h; done)
  by_cases he : e = E
  · simp only [mm_hnd, if_pos he] at h
    simp only [mm_hnd2, if_pos he]
    exact h
  simp only [mm_hnd2, if_neg he]
  rcases r with _ | ⟨e1, _ | ⟨k1, _ | ⟨b1, _ | ⟨t1, r⟩⟩⟩⟩ <;> try (simp [mm_hnd, he] at h; done)
  by_cases he1 : e1 = E
  · simp only [mm_hnd, if_neg he, if_pos he1] at h
    simp only [mm_hnd2, if_pos he1]
    exact h
  simp only [mm_hnd2, if_neg he1]
  rcases r with _ | ⟨e2, _ | ⟨k2, _ | ⟨b2, _ | ⟨t2, r⟩⟩⟩⟩ <;> try (simp [mm_hnd, he, he1] at h; done)
  by_cases he2 : e2 = E
  · simp only [mm_hnd, if_neg he, if_neg he1, if_pos he2] at h
    simp only [mm_hnd2, if_pos he2]
    exact h
  · simp [mm_hnd, he, he1, he2] at h
theorem mm_rows {m pc : Nat} : ∀ (hh : List (Nat × Nat × Nat × Nat)) (hs : List Nat), mm_hok m pc hh hs = true → ∀ (E k b2 : Nat), mm_hnd2 hs E = some (k, b2) →
    ∃ (pre : List ExceptionTableEntry) (x : ExceptionTableEntry) (suf : List ExceptionTableEntry), tableOf hh = pre ++ x :: suf ∧ (∀ z ∈ pre, ∃ E', E' < 3 ∧ E' ≠ E ∧ z.catchType = mm_ct E') ∧ covers x pc = true ∧ x.catchType = mm_ct E ∧ mm_hrow m E k b2 x.handlerPc = true := by
  intro hh
  induction hh with
  | nil =>
    intro hs h E k b2 h2
    cases hs with
    | nil => simp [mm_hnd2] at h2
    | cons a r => simp [mm_hok] at h
  | cons q hh ih =>
    intro hs h E k b2 h2
    obtain ⟨st, en, tg, ct⟩ := q
    rcases hs with _ | ⟨e, _ | ⟨k9, _ | ⟨b9, _ | ⟨t, hs⟩⟩⟩⟩ <;> try (simp [mm_hok] at h; done)
    simp only [mm_hok, Bool.and_eq_true, decide_eq_true_eq, beq_iff_eq] at h
    obtain ⟨⟨⟨⟨⟨h3, h4⟩, h5⟩, h6⟩, h7⟩, h8⟩ := h
    by_cases he : e = E
    · subst he
      simp only [mm_hnd2, if_pos] at h2
      cases h2
      refine ⟨[], ⟨st, en, tg, ct⟩, tableOf hh, rfl, (fun z hz => by cases hz), ?_, h6, (by rw [h5]; exact h7)⟩
      simp [covers, h3, h4]
    · simp only [mm_hnd2, if_neg he] at h2
      obtain ⟨pre, x, suf, g1, g2, g3, g4, g5⟩ := ih hs h8 E k b2 h2
      refine ⟨⟨st, en, tg, ct⟩ :: pre, x, suf, ?_, ?_, g3, g4, g5⟩
      · show ⟨st, en, tg, ct⟩ :: tableOf hh = _
        rw [g1]; rfl
      · intro z hz
        rcases List.mem_cons.mp hz with rfl | hz
        · refine ⟨e, ?_, he, h6⟩
          simp only [mm_hrow, Bool.and_eq_true, decide_eq_true_eq] at h7
          exact h7.1.2
        · exact g2 z hz
theorem mm_hW : ∀ E, E < 3 → Cond.castable (mm_exc E) (mm_exc E) ∈ mm_nw ∧ Cond.classLink "StolenVoicesLaw" (mm_ct E) (mm_exc E) ∈ mm_TB ∧ mm_ct E ≠ 0 := by decide +kernel
theorem mm_hC : ∀ m, m < 141 → mm_hh m ≠ [] → mm_cls m = "StolenVoicesLaw" := by decide +kernel
theorem mm_Lr.kill {ls' : Array Slot} {L : mm_L} {i x : Nat} (h : lv_has ls' L.length ((i, Value.ref x) :: (mm_prs base b L).filter (fun q => !(q.1 == i) && !(q.1 + 1 == i && q.2.category == 2)))) : mm_Lr base b ls' (mm_kill L i) := by
  refine ⟨?_, h.2.1, fun k w hk => ?_⟩
  · unfold mm_kill; split <;> simp [h.1]
  · have hki : k ≠ i := by
      rintro rfl
      unfold mm_kill at hk
      split at hk
      · by_cases hl : k < L.length
        · rw [List.getElem?_set_self (by simpa using hl)] at hk; cases hk
        · rw [List.getElem?_eq_none (by simp; omega)] at hk; cases hk
      · by_cases hl : k < L.length
        · rw [List.getElem?_set_self hl] at hk; cases hk
        · rw [List.getElem?_eq_none (by simp; omega)] at hk; cases hk
    have hk2 : L[k]? = some (some w) ∧ ¬ (k + 1 = i ∧ w.category = 2) := by
      unfold mm_kill at hk
      rw [List.getElem?_set_ne (Ne.symm hki)] at hk
      split at hk
      · next hj =>
        by_cases hk1 : k = i - 1
        · subst hk1
          by_cases hl : i - 1 < L.length
          · rw [List.getElem?_set_self hl] at hk; cases hk
          · rw [List.getElem?_eq_none (by simp; omega)] at hk; cases hk
        · rw [List.getElem?_set_ne (Ne.symm hk1)] at hk
          exact ⟨hk, fun h9 => hk1 (by omega)⟩
      · next hj =>
        refine ⟨hk, fun h9 => hj ?_⟩
        have h8 : i - 1 = k := by omega
        rw [h8]
        cases w with
        | long x => simp [mm_isJ, hk]
        | double x => simp [mm_isJ, hk]
        | _ => cases h9.2
    refine h.2.2 (k, mm_tr base b w) (List.mem_cons_of_mem _ (List.mem_filter.mpr ⟨mm_prs_mem.mpr ⟨w, hk2.1, rfl⟩, ?_⟩))
    simp only [Bool.and_eq_true, Bool.not_eq_true', beq_eq_false_iff_ne, Bool.and_eq_false_iff, ne_eq]
    refine ⟨hki, ?_⟩
    by_cases h2 : k + 1 = i
    · right
      intro hcat
      rw [mm_tr_cat] at hcat
      exact hk2.2 ⟨h2, hcat⟩
    · left
      exact h2
theorem mm_kill_len {L : mm_L} {k : Nat} : (mm_kill L k).length = L.length := by unfold mm_kill; split <;> simp
theorem mm_z69 {m pc : Nat} {x : Int32} {ax : List Nat} {r : List mm_Op} {L : mm_L} {st : List Value} {h : mm_H} {Q : mm_Q} (hF : mm_F (fun s Q => mm_C s Q ∧ mm_PP l D base b sc s Q) (m, (pc, 69, x, ax) :: r, L, st, h) Q) : mm_W l D base b sc (m, (pc, 69, x, ax) :: r, L, st, h) Q := by
  intro p e R s0 M args below meth c Qc XC n0 w0 H locs cells slots ls C hQ hv hR hS hL hn hc hs
  obtain ⟨hok, hnx⟩ := mm_vl_c hv
  have hok2 : (mm_dec m pc (.invokevirtual (mm_a ax 3)) 3 && mm_wL (mm_a ax 4) (.methodLink (mm_cls m) (mm_a ax 3) (mm_y (mm_a ax 0))) && decide (mm_a ax 0 < 140) && (mm_kd (mm_a ax 0) == 1) && (mm_np (mm_a ax 0) + 1 == mm_a ax 1) && decide ((mm_cl (mm_a ax 2)).1 = mm_cls (mm_a ax 0)) && decide (mm_a ax 2 < 6) && (mm_hh (mm_a ax 0)).isEmpty && mm_hok m pc (mm_hh m) (ax.drop 6)) = true := hok
  simp only [Bool.and_eq_true, decide_eq_true_eq, beq_iff_eq, List.isEmpty_iff] at hok2
  obtain ⟨⟨⟨⟨⟨⟨⟨⟨o1, o2⟩, o3⟩, o4⟩, o5⟩, o7⟩, o8⟩, o9⟩, o6⟩ := hok2
  have hF2 := hF
  simp only [mm_F, mm_step, mm_op, mm_call] at hF2
  by_cases hrec : mm_isRec h (mm_a ax 2) (st.take (mm_a ax 1)).reverse = true
  case neg =>
    rw [if_neg hrec] at hF2
    exact hF2.elim
  rw [if_pos hrec] at hF2
  by_cases hc9 : mm_rk (mm_a ax 0) + 1 ≤ mm_rk m ∧ mm_a ax 1 ≤ st.length ∧ mm_wt (st.drop (mm_a ax 1)) ≤ 8 ∧ mm_wt (st.take (mm_a ax 1)).reverse ≤ mm_mxL (mm_a ax 0)
  case neg =>
    rw [if_neg hc9] at hF2
    exact hF2.elim
  rw [if_pos hc9] at hF2
  obtain ⟨a9, g9, ⟨-, hpp⟩, hct⟩ := hF2
  have hle : mm_n h ≤ mm_n g9 ∧ mm_w h ≤ mm_w g9 := by
    obtain ⟨r9, g8, ⟨e1, e2⟩, q1, q2⟩ := hpp.1
    rw [← e2]; exact ⟨q1, q2⟩
  have hc : cells + n0 = mm_n h := hc
  have hs : slots + w0 = mm_w h := hs
  have hL : mm_Lr base b ls L := hL
  have hn : L.length = mm_mxL m := hn
  have hmet := mm_met o3 hpp.2 hc9.2.2.2 (n := mm_n g9 - mm_n h) (w := mm_w g9 - mm_w h) (by rintro r9 g8 ⟨-, e2⟩; rw [e2]; omega)
  have hd : mm_hd r = pc + 3 := (hnx rfl).1
  cases a9 with
  | inl v =>
    have hk : mm_PP l D base b sc (m, r, L, v.toList ++ st.drop (mm_a ax 1), g9) Q := hct.2
    have hG := mm_PPb hQ hk
    have hG : mm_n g9 ≤ n0 + R.cells ∧ mm_w g9 ≤ w0 + R.slots := hG
    refine mm_after (mm_runV C hR hS (hL.1.trans hn) (mm_dec_ok o1) (mm_wk_in o2) o3 o4 o5 o7 o8 o9 hrec hc9 hmet ⟨by omega, by omega⟩) hS ?_ ?_
    · rintro v2 g H1 locs1 ⟨e1, e2⟩ hR1 hS1
      cases e1
      rw [e2] at hR1
      exact mm_goon C hQ hL hn (hnx rfl).2 hd (by omega) (by omega) hk hR1 hS1
    · rintro k g H1 locs1 q ce ⟨e1, e2⟩
      cases e1
  | inr E =>
    simp only [mm_backH] at hct
    cases hnd : mm_hnd (ax.drop 6) E with
    | none =>
      rw [hnd] at hct
      by_cases hem : (ax.drop 6).isEmpty = true
      · simp only [hem, if_true] at hct
        have hk : Q (.inr E) g9 := hct
        have hG := hQ.2.2 _ _ hk
        have hhn : mm_hh m = [] := by
          rw [List.isEmpty_iff.mp hem] at o6
          cases hhm : mm_hh m with
          | nil => rfl
          | cons a t => rw [hhm] at o6; simp [mm_hok] at o6
        refine mm_after (mm_runV C hR hS (hL.1.trans hn) (mm_dec_ok o1) (mm_wk_in o2) o3 o4 o5 o7 o8 o9 hrec hc9 hmet ⟨by omega, by omega⟩) hS ?_ ?_
        · rintro v2 g H1 locs1 ⟨e1, e2⟩
          cases e1
        · rintro k g H1 locs1 q ce ⟨e1, e2⟩ hR1 hS1 h1 h2 h3
          cases e1
          rw [e2] at hR1
          exact mm_leave C hQ hhn (by omega) (by omega) hk hR1 hS1 h1 h2 h3
      · simp only [hem, if_false] at hct
        exact (mm_stuck hct.1).elim
    | some kb =>
      obtain ⟨k2, b2⟩ := kb
      rw [hnd] at hct
      have hk : mm_PP l D base b sc (m, mm_blk m b2, mm_kill L k2, [], g9) Q := hct.2
      have hG := mm_PPb hQ hk
      have hG : mm_n g9 ≤ n0 + R.cells ∧ mm_w g9 ≤ w0 + R.slots := hG
      obtain ⟨pre, row, suf, g1, g2, g3, g4, g5⟩ := mm_rows (mm_hh m) (ax.drop 6) o6 E k2 b2 (mm_hnd_2 hnd)
      simp only [mm_hrow, Bool.and_eq_true, decide_eq_true_eq, beq_iff_eq] at g5
      obtain ⟨⟨⟨⟨t1, t2⟩, t3⟩, t4⟩, t5⟩ := g5
      obtain ⟨⟨hx, hb, hrt, hlk, hml, hown⟩, hxt, hts, hnm, hEF, hm, hfr, hlo⟩ := id C
      have hm : m < 141 := hm
      have hcl := mm_hC m hm (by intro h9; rw [h9] at g1; simp [tableOf] at g1)
      have hW := mm_hW E t4
      refine mm_after (mm_runV C hR hS (hL.1.trans hn) (mm_dec_ok o1) (mm_wk_in o2) o3 o4 o5 o7 o8 o9 hrec hc9 hmet ⟨by omega, by omega⟩) hS ?_ ?_
      · rintro v2 g H1 locs1 ⟨e1, e2⟩
        cases e1
      · rintro k g H1 locs1 q ce ⟨e1, e2⟩ hR1 hS1 h1 h2 h3
        cases e1
        rw [e2] at hR1
        have hown : s0.vm.findClass (mm_cls m) = some M.cls := hown
        rw [hcl] at hown
        refine vx_catch (E := mm_exc E) (name := mm_exc E) hown pre row suf (by rw [hxt]; exact g1) (fun z hz => ?_) g3 (by rw [g4]; exact hW.2.2) (by rw [g4]; exact hts _ hW.2.1) (va_tabs rfl rfl (hEF.2.2.2.1 _ hW.1)) h1 h2 h3 ?_
        · obtain ⟨E', f1, f2, f3⟩ := g2 z hz
          exact Or.inr ⟨by rw [f3]; exact (mm_hW E' f1).2.2, mm_exc E', by rw [f3]; exact hts _ (mm_hW E' f1).2.1, hEF.2.2.2.2.2.1 E t4 E' f1 (Ne.symm f2)⟩
        · have kk := fun ls' hls => hk.2 p e R s0 M args below meth c Qc XC n0 w0 H1 locs1 (cells + (mm_n g9 - mm_n h)) (slots + (mm_w g9 - mm_w h)) ls' C hQ (mm_vb hm t3) hR1 hS1 hls (mm_kill_len.trans hn) (by show _ = mm_n g9; omega) (by show _ = mm_w g9; omega)
          have e0 : mm_hd (m, mm_blk m b2, mm_kill L k2, ([] : List Value), g9).2.1 = row.handlerPc + (if k2 < 4 then 1 else 2) := t2
          rw [e0] at kk
          have hkl : k2 < L.length := by omega
          by_cases h4 : k2 < 4
          · rw [if_pos h4] at kk
            simp only [mm_ld, if_pos h4, if_true, dif_pos h4] at t1
            exact lv_astore_n hx hb (mm_dec_ok t1) rfl hL.has hkl rfl (fun ls' hls => kk ls' (mm_Lr.kill hls))
          · rw [if_neg h4] at kk
            simp only [mm_ld, if_neg h4] at t1
            exact lv_astore hx hb (mm_dec_ok t1) hL.has hkl rfl (fun ls' hls => kk ls' (mm_Lr.kill hls))
end MMH
