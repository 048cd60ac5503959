/-! a method's contract out of its run, and calls -/
section MMO
variable {l : Launch} {D : mm_D} {base b : Nat} {sc : Nat × (Nat → Int32)}
theorem mm_wt_cons (v : Value) (r : List Value) : mm_wt (v :: r) = v.category + mm_wt r := by simp [mm_wt]
theorem mm_ent_app (w : Value) (r : List Value) : mm_ent (w :: r) = (if w.category = 2 then [some w, none] else [some w]) ++ mm_ent r := by cases w <;> simp [mm_ent, Value.category]
theorem mm_cat12 (w : Value) : w.category = 1 ∨ w.category = 2 := by cases w <;> simp [Value.category]
theorem mm_ent_len (vs : List Value) : (mm_ent vs).length = mm_wt vs := by
  induction vs with
  | nil => rfl
  | cons v r ih =>
    rw [mm_wt_cons, mm_ent_app, List.length_append, ih]
    rcases mm_cat12 v with h | h <;> simp [h]
theorem mm_sl_app (w : Value) (r : List Value) : lg_sl ((w :: r).map (mm_tr base b)) = (if w.category = 2 then [.val (mm_tr base b w), .second] else [.val (mm_tr base b w)]) ++ lg_sl (r.map (mm_tr base b)) := by simp [lg_sl, mm_tr_cat]
theorem mm_sl_len (vs : List Value) : (lg_sl (vs.map (mm_tr base b))).length = mm_wt vs := by
  induction vs with
  | nil => rfl
  | cons v r ih =>
    rw [mm_wt_cons, mm_sl_app, List.length_append, ih]
    rcases mm_cat12 v with h | h <;> simp [h]
theorem mm_ent_get (vs : List Value) : ∀ (k : Nat) (v : Value), (mm_ent vs)[k]? = some (some v) → (lg_sl (vs.map (mm_tr base b)))[k]? = some (.val (mm_tr base b v)) := by
  induction vs with
  | nil => intro k v hk; simp [mm_ent] at hk
  | cons w r ih =>
    intro k v hk
    rw [mm_sl_app]
    rw [mm_ent_app] at hk
    by_cases hc : w.category = 2
    · rw [if_pos hc] at hk ⊢
      match k, hk with
      | 0, hk => simp at hk; subst hk; simp
      | 1, hk => simp at hk
      | k + 2, hk => simp at hk; simpa using ih k v hk
    · rw [if_neg hc] at hk ⊢
      match k, hk with
      | 0, hk => simp at hk; subst hk; simp
      | k + 1, hk => simp at hk; simpa using ih k v hk
theorem mm_Lr_entry {vs : List Value} {n : Nat} (h : mm_wt vs ≤ n) : mm_Lr base b ((lg_sl (vs.map (mm_tr base b)) ++ List.replicate (n - (lg_sl (vs.map (mm_tr base b))).length) Slot.unset).toArray) (mm_pad (mm_ent vs) n) := by
  have h2 := lv_entry (vs.map (mm_tr base b)) (n := n) (by rw [mm_sl_len]; exact h)
  refine ⟨?_, h2.2.1, fun k v hk => ?_⟩
  · simp [mm_pad, mm_sl_len, mm_ent_len]
  · unfold mm_pad at hk
    by_cases hk2 : k < (mm_ent vs).length
    · rw [List.getElem?_append_left hk2] at hk
      have h3 := mm_ent_get (base := base) (b := b) vs k v hk
      have h4 : k < (lg_sl (vs.map (mm_tr base b))).length := by rw [mm_sl_len, ← mm_ent_len]; exact hk2
      rw [List.getElem?_toArray, List.getElem?_append_left h4]
      exact h3
    · rw [List.getElem?_append_right (by omega), List.getElem?_replicate] at hk
      split at hk <;> cases hk
theorem mm_pad_len {vs : List Value} {n : Nat} (h : mm_wt vs ≤ n) : (mm_pad (mm_ent vs) n).length = n := by
  simp only [mm_pad, List.length_append, List.length_replicate, mm_ent_len]
  omega
theorem mm_h0 : ∀ m, m < 141 → mm_hd (mm_blk m 0) = 0 ∧ 0 < mm_nbk m := by decide +kernel
def mm_Pc (D : mm_D) (base b : Nat) (sc : Nat × (Nat → Int32)) (h : mm_H) (vs : List Value) : Array Value → State → Prop := fun a U => a = (vs.map (mm_tr base b)).toArray ∧ mm_Rep D base sc h U.heap ∧ mm_EF D base b sc U
def mm_Qc (D : mm_D) (base b : Nat) (sc : Nat × (Nat → Int32)) (Q : mm_Q) : Array Value → State → Outcome → State → Prop := fun _ st o t => ∃ v g, Q (.inl v) g ∧ o = .returned (v.map (mm_tr base b)) ∧ mm_Rep D base sc g t.heap ∧ va_F (fun q => base ≤ q) st t
def mm_XC (D : mm_D) (base : Nat) (sc : Nat × (Nat → Int32)) (Q : mm_Q) : String → State → State → Prop := fun E st t => ∃ k g, Q (.inr k) g ∧ E = mm_exc k ∧ mm_Rep D base sc g t.heap ∧ va_F (fun q => base ≤ q) st t
theorem mm_EF_b {U : State} (h : mm_EF D base b sc U) : base ≤ U.heap.size := h.2.2.2.2.2.2.2.2.1
theorem mm_Pc_blind {h : mm_H} {vs : List Value} : FrameBlind (mm_Pc D base b sc h vs) := by
  rintro a U g mk ⟨h1, h2, h3⟩
  exact ⟨h1, h2, h3.moved (State.WarmedH.refl U) (by show base ≤ U.heap.size; exact mm_EF_b h3) (fun _ _ => rfl)⟩
theorem mm_ws_in {m : Nat} (hm : m < 140) : ∀ w ∈ mm_ws m, w ∈ mm_TB := by
  intro w hw
  rcases List.mem_cons.mp hw with rfl | h
  · have h1 : lw_tbl[(mm_wi m).getD 0 0]? = some (mm_cw m) := mm_ck_all m hm
    have h2 := mm_mok_all m hm
    simp only [mm_mok, Bool.and_eq_true] at h2
    exact List.mem_filter.mpr ⟨List.mem_of_getElem? h1, h2.1.1.1.1.1.2⟩
  · exact h
theorem mm_rm {m : Nat} {n w : Nat} : (headSpec (mm_ws m) ⟨mm_rk m, 36 * mm_rk m, n, w⟩).room = ⟨mm_rk m, 36 * mm_rk m, n, w⟩ := rfl
theorem mm_met {m : Nat} (hm : m < 140) {vs : List Value} {h : mm_H} {Q : mm_Q} (hw : mm_W l D base b sc (mm_entry m vs h) Q) (hl : mm_wt vs ≤ mm_mxL m) {n w : Nat} (hQ : ∀ r g, Q r g → mm_n g ≤ mm_n h + n ∧ mm_w g ≤ mm_w h + w) :
    vx_Met l (mm_y m) (mm_ws m) { frames := mm_rk m, locals := 36 * mm_rk m, cells := n, slots := w } (mm_Pc D base b sc h vs) (mm_Qc D base b sc Q) (mm_XC D base sc Q) n w (fun q => base ≤ q) := by
  have hmk := mm_mok_all m hm
  simp only [mm_mok, Bool.and_eq_true] at hmk
  have hpl : plainName (mm_y m).cls = true := hmk.2
  have key : ∀ p e s M args below meth c s₁, BodyLoose p l (mm_y m) (headSpec (mm_ws m) { frames := mm_rk m, locals := 36 * mm_rk m, cells := n, slots := w }) (mm_cc m) (mm_mxL m) (mm_rt m) e s M args below meth c s₁ → c.maxLocals = mm_mxL m → c.exceptionTable.toList = tableOf (mm_hh m) → mm_Pc D base b sc h vs args s →
      W p l e (headSpec (mm_ws m) { frames := mm_rk m, locals := 36 * mm_rk m, cells := n, slots := w }).room s M args below meth c s.heap [] 0 0 (vx_MQ below (mm_Qc D base b sc Q) (mm_XC D base sc Q) args s n w (fun q => base ≤ q)) (entryFrame M args (mm_mxL m)) := by
    intro p e s M args below meth c s₁ B hml hxt hP
    obtain ⟨rfl, hR, hEF⟩ := hP
    have hts := atoms_spec (ws := mm_ws m) B.pre
    rw [lg_entry_eq]
    have k := hw p e { frames := mm_rk m, locals := 36 * mm_rk m, cells := n, slots := w } s M _ below meth c (mm_Qc D base b sc Q) (mm_XC D base sc Q) (mm_n h) (mm_w h) s.heap [] 0 0 _
      ⟨⟨B.exec, B.bytes, B.returns, B.notSynchronized, hml, findClass_of_methodNamed B.named⟩, hxt, fun w9 h9 => hts w9 (List.mem_cons_of_mem _ h9), (name_of_methodNamed B.named B.method).1, hEF, (by show m < 141; omega), Nat.le_refl _, Nat.le_refl _⟩
      ⟨fun v g q t h1 h2 _ => ⟨v, g, q, rfl, h1, h2⟩, fun E g q t h1 h2 _ => ⟨E, g, q, rfl, h1, h2⟩, hQ⟩
      (mm_vb (by show m < 141; omega) (mm_h0 m (by omega)).2) hR ⟨Nat.le_refl _, fun _ _ _ => rfl, fun _ h9 => nomatch h9⟩ (mm_Lr_entry hl) (mm_pad_len hl) (Nat.zero_add _) (Nat.zero_add _)
    have e0 : mm_hd (mm_entry m vs h).2.1 = 0 := (mm_h0 m (by omega)).1
    rw [e0] at k
    exact k
  cases hh : mm_hh m with
  | nil =>
    refine vx_ofW (ws' := mm_TB) hpl (by unfold mm_ws mm_cw; rw [hh]) fun p e s M args below meth c s₁ B hml ht hP => ?_
    refine key p e s M args below meth c s₁ B hml ?_ hP
    rw [hh]
    exact List.eq_nil_iff_forall_not_mem.mpr ht
  | cons x y =>
    refine vx_ofWH (ws' := mm_TB) (hh := x :: y) hpl (by unfold mm_ws mm_cw; rw [hh]) fun p e s M args below meth c s₁ B hml hP => ?_
    refine key p e s M args below meth c s₁ B hml ?_ hP
    have h9 := atoms_spec (ws := mm_ws m) B.pre (mm_cw m) List.mem_cons_self
    unfold mm_cw at h9
    rw [hh] at h9 ⊢
    exact vx_table (x := mm_y m) B h9
theorem mm_met_ret {m : Nat} {vs : List Value} {h : mm_H} {Q : mm_Q} {n w : Nat} {rm : Room} (hm : vx_Met l (mm_y m) (mm_ws m) rm (mm_Pc D base b sc h vs) (mm_Qc D base b sc Q) (mm_XC D base sc Q) n w (fun q => base ≤ q)) (hn : ∀ k g, ¬ Q (.inr k) g) :
    Met l (mm_y m) (mm_ws m) rm (mm_Pc D base b sc h vs) (mm_Qc D base b sc Q) n w (fun q => base ≤ q) := by
  refine MetFree.imp hm fun a s o t hq => ?_
  rcases hq with hq | ⟨q, -, E, ce, L, ⟨k, g, h1, -⟩, -⟩
  · exact hq
  · exact absurd h1 (hn k g)
theorem mm_goodIn {ws : List Cond} (h : ∀ w ∈ ws, w ∈ mm_TB) : GoodIn mm_TB ws := fun w hw => ⟨h w hw, good_of_word (mm_TB_good (h w hw))⟩
/-- behind a call -/
theorem mm_after {p : Program} {e : Env} {R : Room} {s0 : State} {M : MethodId} {args : Array Value} {below : List Frame} {meth : Method} {c : Code} {H : Heap} {locs : List Loc} {cells slots mc ms pc : Nat} {ls : Array Slot} {st0 rest : List Value} {Qf : State → Prop} {Q1 : mm_Q}
    {a : Array Value} (hr : vx_Run p l e R s0 M args below meth c H locs cells slots mc ms (F0 M pc ls st0) rest (mm_Qc D base b sc Q1 a) (mm_XC D base sc Q1) (fun q => base ≤ q)) (hS : va_S (fun q => base ≤ q) s0.heap H locs)
    (kk : ∀ v g H1 locs1, Q1 (.inl v) g → mm_Rep D base sc g H1 → va_S (fun q => base ≤ q) s0.heap H1 locs1 → W p l e R s0 M args below meth c H1 locs1 (cells + mc) (slots + ms) Qf (F0 M (pc + 3) ls ((v.map (mm_tr base b)).toList ++ rest)))
    (kx : ∀ k g H1 locs1 (q : Nat) (ce : Cell), Q1 (.inr k) g → mm_Rep D base sc g H1 → va_S (fun q => base ≤ q) s0.heap H1 locs1 → H1[q]? = some ce → ce.vm = .none → s0.vm.findClass (mm_exc k) = some ce.cls → vx_W p l e R s0 M args below meth c H1 locs1 (cells + mc) (slots + ms) Qf (F0 M pc ls rest) q) :
    W p l e R s0 M args below meth c H locs cells slots Qf (F0 M pc ls st0) := by
  intro T hT X
  rcases hr T hT X with ⟨v, st₀, t, T', L, h0, X', hL, e1, e2, ⟨v2, g, hq, hv, hR1, hF⟩, st⟩ | ⟨q, st₀, t, T', L, E, ce, h0, X', hL, e1, e2, ⟨k, g, hq, rfl, hR1, hF⟩, hce, hcv, hcl, st⟩
  · cases hv
    obtain ⟨k1, k2, k3⟩ := vx_keep h0 e1 hS (fun _ _ h9 => h9) (fun _ h9 => h9) hL hF
    obtain ⟨t2, a1, b1⟩ := kk v2 g T'.heap (locs ++ L) hq (by rw [e1]; exact hR1) k3 T' rfl X'
    exact ⟨t2, st t2 a1, b1⟩
  · obtain ⟨k1, k2, k3⟩ := vx_keep h0 e1 hS (fun _ _ h9 => h9) (fun _ h9 => h9) hL hF
    obtain ⟨t2, a1, b1⟩ := kx k g T'.heap (locs ++ L) q ce hq (by rw [e1]; exact hR1) k3 (by rw [e1]; exact hce) hcv hcl T' rfl X'
    exact ⟨t2, st.trans a1, b1⟩
section
variable {p : Program} {e : Env} {R : Room} {s0 : State} {M : MethodId} {args : Array Value} {below : List Frame} {meth : Method} {c : Code} {H : Heap} {locs : List Loc} {cells slots n0 w0 pc m n mid idx wi : Nat} {ls : Array Slot} {r : List mm_Op} {L : mm_L} {st : List Value} {h g9 : mm_H} {Q : mm_Q} {a9 : mm_R}
variable {Qc : Array Value → State → Outcome → State → Prop} {XC : String → State → State → Prop}
theorem mm_pre (hEF : mm_EF D base b sc s0) (hR : mm_Rep D base sc h H) (hS : va_S (fun q => base ≤ q) s0.heap H locs) (vs : List Value) {U : State} (hU : U.heap = H) (hW : s0.WarmedH U.vm) : mm_Pc D base b sc h vs (vs.map (mm_tr base b)).toArray U :=
  ⟨rfl, by rw [hU]; exact hR, hEF.moved hW (by rw [hU]; exact Nat.le_trans (mm_EF_b hEF) hS.1) (fun q hq => by rw [hU]; exact hS.2.1 q (Nat.lt_of_lt_of_le hq (mm_EF_b hEF)) (by show ¬ base ≤ q; omega))⟩
theorem mm_stk (n : Nat) (st : List Value) : st.map (mm_tr base b) = ((st.take n).reverse.map (mm_tr base b)).reverse ++ (st.drop n).map (mm_tr base b) := by
  rw [← List.map_reverse, List.reverse_reverse, ← List.map_append, List.take_append_drop]
theorem mm_fits {m mid : Nat} {R : Room} (hm : mid < 140) (h1 : mm_rk mid + 1 ≤ mm_rk m) (h2 : mm_rk m ≤ R.frames) (h3 : 36 * mm_rk m ≤ R.locals) : mm_rk mid + 1 ≤ R.frames ∧ 8 + (mm_mxL mid + 11) + 36 * mm_rk mid ≤ R.locals := by
  have h2 := mm_mok_all mid hm
  simp only [mm_mok, Bool.and_eq_true, decide_eq_true_eq] at h2
  have h4 := h2.1.2
  omega
theorem mm_sig {mid : Nat} (hm : mid < 140) : (mm_y mid).cls ≠ "java/lang/invoke/MethodHandle" ∧ (mm_y mid).cls ≠ "java/lang/invoke/VarHandle" ∧ (parseMethodDescriptor (mm_y mid).desc).map (fun d => d.parameters.length) = some (mm_np mid) := by
  have h2 := mm_mok_all mid hm
  simp only [mm_mok, Bool.and_eq_true, decide_eq_true_eq] at h2
  exact ⟨h2.1.1.1.1.2, h2.1.1.1.2, h2.1.1.2⟩
theorem mm_iniW {mid : Nat} (hm : mid < 140) : Cond.initialized (mm_cls mid) ∈ mm_TB := by
  have h2 := mm_mok_all mid hm
  simp only [mm_mok, Bool.and_eq_true, decide_eq_true_eq] at h2
  exact mm_wk_in h2.1.1.1.1.1.1.2
theorem mm_runS (C : mm_Cx D base b sc m p R s0 M args meth c) (hR : mm_Rep D base sc h H) (hS : va_S (fun q => base ≤ q) s0.heap H locs) (hsz : ls.size = mm_mxL m)
    (hdg : decode (mm_cc m) pc = .ok (.invokestatic idx, 3)) (hlk : Cond.methodLink (mm_cls m) idx (mm_y mid) ∈ mm_TB) (hm : mid < 140) (hkd : mm_kd mid = 0) (hnp : mm_np mid = n)
    (hc9 : mm_rk mid + 1 ≤ mm_rk m ∧ n ≤ st.length ∧ mm_wt (st.drop n) ≤ 8 ∧ mm_wt (st.take n).reverse ≤ mm_mxL mid) {Q1 : mm_Q} {mc ms : Nat}
    (hM : vx_Met l (mm_y mid) (mm_ws mid) { frames := mm_rk mid, locals := 36 * mm_rk mid, cells := mc, slots := ms } (mm_Pc D base b sc h (st.take n).reverse) (mm_Qc D base b sc Q1) (mm_XC D base sc Q1) mc ms (fun q => base ≤ q)) (hf : cells + mc ≤ R.cells ∧ slots + ms ≤ R.slots) :
    vx_Run p l e R s0 M args below meth c H locs cells slots mc ms (F0 M pc ls (st.map (mm_tr base b))) ((st.drop n).map (mm_tr base b)) (mm_Qc D base b sc Q1 ((st.take n).reverse.map (mm_tr base b)).toArray) (mm_XC D base sc Q1) (fun q => base ≤ q) := by
  obtain ⟨⟨hx, hb, hrt, hlk9, hml, hown⟩, hxt, hts, hnm, hEF, hm9, hfr, hlo⟩ := C
  have h2 := mm_mok_all mid hm
  simp only [mm_mok, hkd, Bool.and_eq_true, decide_eq_true_eq] at h2
  have hst := mm_wk_in h2.1.1.1.1.1.1.1
  have hG : GoodIn mm_TB (va_wsS (mm_cls m) idx (mm_y mid) (mm_ws mid)) := mm_goodIn fun w hw => by
    unfold va_wsS at hw
    rcases List.mem_append.mp hw with hw | hw
    · rcases List.mem_cons.mp hw with rfl | hw
      · exact hlk
      rcases List.mem_cons.mp hw with rfl | hw
      · exact hst
      rcases List.mem_cons.mp hw with rfl | hw
      · exact mm_iniW hm
      · cases hw
    · exact mm_ws_in hm w hw
  have hlen : ((st.take n).reverse.map (mm_tr base b)).length = mm_np mid := by simp; omega
  have hwt : 2 * (F0 M pc ls (st.map (mm_tr base b))).monitorRoom + (((st.drop n).map (mm_tr base b)).map fun v => v.category).sum ≤ 8 := by
    show 2 * 0 + _ ≤ 8
    rw [mm_tr_wt]; omega
  cases hh : mm_hh mid with
  | nil => exact vx_runS (S := ⟨hx, hb, hml, hown, hts⟩) (maxL := mm_mxL mid) (ret := mm_rt mid) (bytes := mm_cc mid) hM (va_cwS (ws' := mm_TB) (mm_np mid) hts hG (by unfold mm_ws mm_cw; rw [hh]) rfl rfl (mm_sig hm) (mm_fits hm hc9.1 hfr hlo)) ⟨mm_Pc_blind, fun U hU hW => mm_pre hEF hR hS _ hU hW⟩ rfl hlen hsz (mm_stk n st) hwt hdg hf
  | cons z zs => exact vx_runSX (S := ⟨hx, hb, hml, hown, hts⟩) (maxL := mm_mxL mid) (ret := mm_rt mid) (bytes := mm_cc mid) (hh := z :: zs) hM (vx_cwSW (ws' := mm_TB) (mm_np mid) hts hG (by unfold mm_ws mm_cw; rw [hh]) rfl rfl (mm_sig hm) (mm_fits hm hc9.1 hfr hlo)) ⟨mm_Pc_blind, fun U hU hW => mm_pre hEF hR hS _ hU hW⟩ rfl hlen hsz (mm_stk n st) hwt hdg hf
theorem mm_runV (C : mm_Cx D base b sc m p R s0 M args meth c) (hR : mm_Rep D base sc h H) (hS : va_S (fun q => base ≤ q) s0.heap H locs) (hsz : ls.size = mm_mxL m) {k9 : Nat}
    (hdg : decode (mm_cc m) pc = .ok (.invokevirtual idx, 3)) (hlk : Cond.methodLink (mm_cls m) idx (mm_y mid) ∈ mm_TB) (hm : mid < 140) (hkd : mm_kd mid = 1) (hnp : mm_np mid + 1 = n) (hcl : (mm_cl k9).1 = mm_cls mid) (hk9 : k9 < 6) (hh : mm_hh mid = []) (hrec : mm_isRec h k9 (st.take n).reverse = true)
    (hc9 : mm_rk mid + 1 ≤ mm_rk m ∧ n ≤ st.length ∧ mm_wt (st.drop n) ≤ 8 ∧ mm_wt (st.take n).reverse ≤ mm_mxL mid) {Q1 : mm_Q} {mc ms : Nat}
    (hM : vx_Met l (mm_y mid) (mm_ws mid) { frames := mm_rk mid, locals := 36 * mm_rk mid, cells := mc, slots := ms } (mm_Pc D base b sc h (st.take n).reverse) (mm_Qc D base b sc Q1) (mm_XC D base sc Q1) mc ms (fun q => base ≤ q)) (hf : cells + mc ≤ R.cells ∧ slots + ms ≤ R.slots) :
    vx_Run p l e R s0 M args below meth c H locs cells slots mc ms (F0 M pc ls (st.map (mm_tr base b))) ((st.drop n).map (mm_tr base b)) (mm_Qc D base b sc Q1 ((st.take n).reverse.map (mm_tr base b)).toArray) (mm_XC D base sc Q1) (fun q => base ≤ q) := by
  obtain ⟨⟨hx, hb, hrt, hlk9, hml, hown⟩, hxt, hts, hnm, hEF, hm9, hfr, hlo⟩ := C
  have h2 := mm_mok_all mid hm
  simp only [mm_mok, hkd, Bool.and_eq_true, decide_eq_true_eq] at h2
  have hin := mm_wk_in h2.1.1.1.1.1.1.1.1
  have hse := mm_wk_in h2.1.1.1.1.1.1.1.2
  have hG : GoodIn mm_TB (wsV (mm_cls m) idx (mm_cls mid) (mm_y mid) (mm_ws mid)) := mm_goodIn fun w hw => by
    unfold wsV at hw
    rcases List.mem_append.mp hw with hw | hw
    · rcases List.mem_cons.mp hw with rfl | hw
      · exact hlk
      rcases List.mem_cons.mp hw with rfl | hw
      · exact hin
      rcases List.mem_cons.mp hw with rfl | hw
      · exact hse
      rcases List.mem_cons.mp hw with rfl | hw
      · exact mm_iniW hm
      · cases hw
    · exact mm_ws_in hm w hw
  have hwt : 2 * (F0 M pc ls (st.map (mm_tr base b))).monitorRoom + (((st.drop n).map (mm_tr base b)).map fun v => v.category).sum ≤ 8 := by
    show 2 * 0 + _ ≤ 8
    rw [mm_tr_wt]; omega
  have hstk := mm_stk (base := base) (b := b) n st
  have hlen9 : ((st.take n).reverse).length = mm_np mid + 1 := by simp; omega
  generalize (st.take n).reverse = vs at hstk hlen9 hrec hM
  match vs, hrec with
  | .ref a :: As, hrec =>
    simp only [mm_isRec, Bool.and_eq_true, beq_iff_eq, decide_eq_true_eq] at hrec
    have hcell := hR.2.2 a hrec.2
    rw [mm_e_o hrec.1 hk9] at hcell
    obtain ⟨r9, hr9, cell, g1, g2, g3, -⟩ := hcell
    have hKn := hEF.1.1 _ _ (mm_cl_at _ hk9)
    have hfc : s0.vm.findClass (mm_cls mid) = some cell.cls := by rw [g2, ← hcl]; exact hKn.2.1
    exact vx_runV (S := ⟨hx, hb, hml, hown, hts⟩) (C := mm_cls mid) (b := base + a) (As := As.map (mm_tr base b)) (maxL := mm_mxL mid) (ret := mm_rt mid) (bytes := mm_cc mid) hM (cwV (ws' := mm_TB) (mm_np mid) hts hG (by unfold mm_ws mm_cw; rw [hh]) rfl rfl ⟨rfl, mm_sig hm⟩ (mm_fits hm hc9.1 hfr hlo))
      ⟨mm_Pc_blind, ⟨cell, g1, by rw [g3]; rfl, hfc⟩, fun U hU hW => mm_pre hEF hR hS (.ref a :: As) hU hW⟩ rfl (by simp at hlen9 ⊢; exact hlen9) hsz (by rw [show (F0 M pc ls (st.map (mm_tr base b))).stack = st.map (mm_tr base b) from rfl, hstk]; simp [mm_tr]) hwt hdg hf
theorem mm_runI (C : mm_Cx D base b sc m p R s0 M args meth c) (hR : mm_Rep D base sc h H) (hS : va_S (fun q => base ≤ q) s0.heap H locs) (hsz : ls.size = mm_mxL m)
    (hdg : decode (mm_cc m) pc = .ok (.invokespecial idx, 3)) (hlk : Cond.methodLink (mm_cls m) idx (mm_y mid) ∈ mm_TB ∨ lw_tbl[14 + wi]? = some (.methodLinkNest (mm_cls m) idx (mm_y mid) "StolenVoices")) (hm : mid < 140) (hkd : mm_kd mid = 2) (hnp : mm_np mid + 1 = n) (hh : mm_hh mid = []) (hrec : mm_isRf (st.take n).reverse = true)
    (hc9 : mm_rk mid + 1 ≤ mm_rk m ∧ n ≤ st.length ∧ mm_wt (st.drop n) ≤ 8 ∧ mm_wt (st.take n).reverse ≤ mm_mxL mid) {Q1 : mm_Q} {mc ms : Nat}
    (hM : Met l (mm_y mid) (mm_ws mid) { frames := mm_rk mid, locals := 36 * mm_rk mid, cells := mc, slots := ms } (mm_Pc D base b sc h (st.take n).reverse) (mm_Qc D base b sc Q1) mc ms (fun q => base ≤ q)) (hf : cells + mc ≤ R.cells ∧ slots + ms ≤ R.slots) :
    vx_Run p l e R s0 M args below meth c H locs cells slots mc ms (F0 M pc ls (st.map (mm_tr base b))) ((st.drop n).map (mm_tr base b)) (mm_Qc D base b sc Q1 ((st.take n).reverse.map (mm_tr base b)).toArray) (mm_XC D base sc Q1) (fun q => base ≤ q) := by
  obtain ⟨⟨hx, hb, hrt, hlk9, hml, hown⟩, hxt, hts, hnm, hEF, hm9, hfr, hlo⟩ := C
  have h2 := mm_mok_all mid hm
  simp only [mm_mok, hkd, Bool.and_eq_true, decide_eq_true_eq] at h2
  have hin := mm_wk_in h2.1.1.1.1.1.1.1.1.1
  have hy1 := h2.1.1.1.1.1.1.1.1.2
  have hrn := h2.1.1.1.1.1.1.1.2
  have hGw : GoodIn mm_TB (mm_ws mid) := mm_goodIn (mm_ws_in hm)
  have hwt : 2 * (F0 M pc ls (st.map (mm_tr base b))).monitorRoom + (((st.drop n).map (mm_tr base b)).map fun v => v.category).sum ≤ 8 := by
    show 2 * 0 + _ ≤ 8
    rw [mm_tr_wt]; omega
  have hstk := mm_stk (base := base) (b := b) n st
  have hlen9 : ((st.take n).reverse).length = mm_np mid + 1 := by simp; omega
  generalize (st.take n).reverse = vs at hstk hlen9 hrec hM
  have hcw : mm_ws mid = Cond.code (mm_y mid) (mm_cc mid) (mm_mxL mid) none :: mm_TB := by unfold mm_ws mm_cw; rw [hh, hrn]
  match vs, hrec with
  | .ref a :: As, hrec =>
    have hv : va_Run p l e R s0 M args below meth c H locs cells slots mc ms (F0 M pc ls (st.map (mm_tr base b))) ((st.drop n).map (mm_tr base b)) (mm_Qc D base b sc Q1 (((.ref a :: As).map (mm_tr base b)).toArray)) (fun q => base ≤ q) := by
      have hp : PreS s0 H (mm_Pc D base b sc h (.ref a :: As)) (.ref (base + a) :: As.map (mm_tr base b)) := ⟨mm_Pc_blind, fun U hU hW => mm_pre hEF hR hS (.ref a :: As) hU hW⟩
      have hl8 : (As.map (mm_tr base b)).length = mm_np mid := by simp at hlen9 ⊢; exact hlen9
      have hs8 : (F0 M pc ls (st.map (mm_tr base b))).stack = (As.map (mm_tr base b)).reverse ++ .ref (base + a) :: (st.drop n).map (mm_tr base b) := by rw [show (F0 M pc ls (st.map (mm_tr base b))).stack = st.map (mm_tr base b) from rfl, hstk]; simp [mm_tr]
      rcases hlk with hlk | hlk
      · exact va_runI (S := ⟨hx, hb, hml, hown, hts⟩) (b := base + a) (maxL := mm_mxL mid) (bytes := mm_cc mid) hM ⟨callB_of (mm_np mid) hts hGw hcw rfl rfl (hts _ (mm_iniW hm)) (hts _ hlk) (mm_sig hm) (mm_fits hm hc9.1 hfr hlo), hy1, hts _ hin⟩ hp rfl hl8 hsz hs8 hwt hdg hf
      · have hnw : Cond.methodLinkNest (mm_cls m) idx (mm_y mid) "StolenVoices" ∈ mm_nw := List.mem_filter.mpr ⟨List.mem_of_getElem? hlk, rfl⟩
        exact va_runIN (S := ⟨hx, hb, hml, hown, hts⟩) (b := base + a) (maxL := mm_mxL mid) (bytes := mm_cc mid) hM ⟨va_cnB (mm_np mid) hts hGw hcw rfl rfl (hEF.2.2.2.1 _ hnw) (hts _ (mm_iniW hm)) (mm_sig hm) (mm_fits hm hc9.1 hfr hlo), hy1, hts _ hin⟩ hp rfl hl8 hsz hs8 hwt hdg hf
    intro T hT X
    obtain ⟨v, st₀, t, T', L, h0, X', hL, e1, e2, hq, st9⟩ := hv T hT X
    exact Or.inl ⟨v, st₀, t, T', L, h0, X', hL, e1, e2, hq, st9⟩
theorem mm_goon (C : mm_Cx D base b sc m p R s0 M args meth c) (hQ : mm_Fin D base b sc s0 args R Q Qc XC n0 w0) (hL : mm_Lr base b ls L) (hn : L.length = mm_mxL m) (hvr : mm_vl m r = true) (hd : mm_hd r = pc + 3) {rest : List Value} {mc ms : Nat} (hc : cells + mc + n0 = mm_n g9) (hs : slots + ms + w0 = mm_w g9)
    {v : Option Value} (hk : mm_PP l D base b sc (m, r, L, v.toList ++ rest, g9) Q) {H1 : Heap} {locs1 : List Loc} (hR1 : mm_Rep D base sc g9 H1) (hS1 : va_S (fun q => base ≤ q) s0.heap H1 locs1) :
    W p l e R s0 M args below meth c H1 locs1 (cells + mc) (slots + ms) (vx_MQ below Qc XC args s0 R.cells R.slots (fun q => base ≤ q)) (F0 M (pc + 3) ls ((v.map (mm_tr base b)).toList ++ rest.map (mm_tr base b))) := by
  have k2 := hk.2 p e R s0 M args below meth c Qc XC n0 w0 H1 locs1 (cells + mc) (slots + ms) ls C hQ hvr hR1 hS1 hL hn hc hs
  have e0 : mm_hd (m, r, L, v.toList ++ rest, g9).2.1 = pc + 3 := hd
  have e1 : (m, r, L, v.toList ++ rest, g9).2.2.2.1.map (mm_tr base b) = (v.map (mm_tr base b)).toList ++ rest.map (mm_tr base b) := by cases v <;> simp
  rw [e0, e1] at k2
  exact k2
theorem mm_PPb {z : mm_S} (hQ : mm_Fin D base b sc s0 args R Q Qc XC n0 w0) (hk : mm_PP l D base b sc z Q) : mm_n z.2.2.2.2 ≤ n0 + R.cells ∧ mm_w z.2.2.2.2 ≤ w0 + R.slots := by
  obtain ⟨ra, ga, hqa, hq1, hq2⟩ := hk.1
  have h9 := hQ.2.2 _ _ hqa
  omega
theorem mm_leave (C : mm_Cx D base b sc m p R s0 M args meth c) (hQ : mm_Fin D base b sc s0 args R Q Qc XC n0 w0) (hh : mm_hh m = []) {rest : List Value} {mc ms : Nat} (hc : cells + mc + n0 = mm_n g9) (hs : slots + ms + w0 = mm_w g9)
    {k : Nat} (hk : Q (.inr k) g9) {H1 : Heap} {locs1 : List Loc} (hR1 : mm_Rep D base sc g9 H1) (hS1 : va_S (fun q => base ≤ q) s0.heap H1 locs1) {q : Nat} {ce : Cell} (h1 : H1[q]? = some ce) (h2 : ce.vm = .none) (h3 : s0.vm.findClass (mm_exc k) = some ce.cls) :
    vx_W p l e R s0 M args below meth c H1 locs1 (cells + mc) (slots + ms) (vx_MQ below Qc XC args s0 R.cells R.slots (fun q => base ≤ q)) (F0 M pc ls rest) q := by
  obtain ⟨⟨hx, hb, hrt, hlk, hml, hown⟩, hxt, hts, hnm, hEF, hm, hfr, hlo⟩ := C
  have h9 := hQ.2.2 _ _ hk
  exact vx_out (E := mm_exc k) (by rw [hxt, hh]; intro x hx; exact absurd hx (by simp [tableOf])) hlk h1 h2 h3 (fun t ht hal => hQ.2.1 _ _ hk t (by rw [ht]; exact hR1) (hS1.F ht) hal) hS1.2.2 (by omega) (by omega)
end
theorem mm_stuck {m : Nat} {L : mm_L} {st : List Value} {h : mm_H} {Q : mm_Q} (hC : mm_C (m, [], L, st, h) Q) : False := mm_C_out hC
theorem mm_z65 {m pc : Nat} {x : Int32} {ax : List Nat} {r : List mm_Op} {L : mm_L} {st : List Value} {h : mm_H} {Q : mm_Q} (hF : mm_F (fun s Q => mm_C s Q ∧ mm_PP l D base b sc s Q) (m, (pc, 65, x, ax) :: r, L, st, h) Q) : mm_W l D base b sc (m, (pc, 65, x, ax) :: r, L, st, h) Q := by
  intro p e R s0 M args below meth c Qc XC n0 w0 H locs cells slots ls C hQ hv hR hS hL hn hc hs
  obtain ⟨hok, hnx⟩ := mm_vl_c hv
  have hok2 : (mm_dec m pc (.invokestatic (mm_a ax 3)) 3 && mm_wL (mm_a ax 4) (.methodLink (mm_cls m) (mm_a ax 3) (mm_y (mm_a ax 0))) && decide (mm_a ax 0 < 140) && (mm_kd (mm_a ax 0) == 0) && (mm_np (mm_a ax 0) == mm_a ax 1) && (mm_hh m).isEmpty) = true := hok
  simp only [Bool.and_eq_true, decide_eq_true_eq, beq_iff_eq, List.isEmpty_iff] at hok2
  obtain ⟨⟨⟨⟨⟨o1, o2⟩, o3⟩, o4⟩, o5⟩, o6⟩ := hok2
  have hF2 := hF
  simp only [mm_F, mm_step, mm_op, mm_call] at hF2
  by_cases hc9 : mm_rk (mm_a ax 0) + 1 ≤ mm_rk m ∧ mm_a ax 1 ≤ st.length ∧ mm_wt (st.drop (mm_a ax 1)) ≤ 8 ∧ mm_wt (st.take (mm_a ax 1)).reverse ≤ mm_mxL (mm_a ax 0)
  case neg =>
    rw [if_neg hc9] at hF2
    exact hF2.elim
  rw [if_pos hc9] at hF2
  obtain ⟨a9, g9, ⟨-, hpp⟩, hct⟩ := hF2
  have hle : mm_n h ≤ mm_n g9 ∧ mm_w h ≤ mm_w g9 := by
    obtain ⟨r9, g8, ⟨e1, e2⟩, q1, q2⟩ := hpp.1
    rw [← e2]; exact ⟨q1, q2⟩
  have hc : cells + n0 = mm_n h := hc
  have hs : slots + w0 = mm_w h := hs
  have hL : mm_Lr base b ls L := hL
  have hn : L.length = mm_mxL m := hn
  have hmet := mm_met o3 hpp.2 hc9.2.2.2 (n := mm_n g9 - mm_n h) (w := mm_w g9 - mm_w h) (by rintro r9 g8 ⟨-, e2⟩; rw [e2]; omega)
  have hd : mm_hd r = pc + 3 := (hnx rfl).1
  cases a9 with
  | inl v =>
    have hk : mm_PP l D base b sc (m, r, L, v.toList ++ st.drop (mm_a ax 1), g9) Q := hct.2
    have hG := mm_PPb hQ hk
    have hG : mm_n g9 ≤ n0 + R.cells ∧ mm_w g9 ≤ w0 + R.slots := hG
    refine mm_after (mm_runS C hR hS (hL.1.trans hn) (mm_dec_ok o1) (mm_wk_in o2) o3 o4 o5 hc9 hmet ⟨by omega, by omega⟩) hS ?_ ?_
    · rintro v2 g H1 locs1 ⟨e1, e2⟩ hR1 hS1
      cases e1
      rw [e2] at hR1
      exact mm_goon C hQ hL hn (hnx rfl).2 hd (by omega) (by omega) hk hR1 hS1
    · rintro k g H1 locs1 q ce ⟨e1, e2⟩
      cases e1
  | inr E =>
    have hk : Q (.inr E) g9 := hct
    have hG := hQ.2.2 _ _ hk
    refine mm_after (mm_runS C hR hS (hL.1.trans hn) (mm_dec_ok o1) (mm_wk_in o2) o3 o4 o5 hc9 hmet ⟨by omega, by omega⟩) hS ?_ ?_
    · rintro v2 g H1 locs1 ⟨e1, e2⟩
      cases e1
    · rintro k g H1 locs1 q ce ⟨e1, e2⟩ hR1 hS1 h1 h2 h3
      cases e1
      rw [e2] at hR1
      exact mm_leave C hQ o6 (by omega) (by omega) hk hR1 hS1 h1 h2 h3
theorem mm_z66 {m pc : Nat} {x : Int32} {ax : List Nat} {r : List mm_Op} {L : mm_L} {st : List Value} {h : mm_H} {Q : mm_Q} (hF : mm_F (fun s Q => mm_C s Q ∧ mm_PP l D base b sc s Q) (m, (pc, 66, x, ax) :: r, L, st, h) Q) : mm_W l D base b sc (m, (pc, 66, x, ax) :: r, L, st, h) Q := by
  intro p e R s0 M args below meth c Qc XC n0 w0 H locs cells slots ls C hQ hv hR hS hL hn hc hs
  obtain ⟨hok, hnx⟩ := mm_vl_c hv
  have hok2 : (mm_dec m pc (.invokevirtual (mm_a ax 3)) 3 && mm_wL (mm_a ax 4) (.methodLink (mm_cls m) (mm_a ax 3) (mm_y (mm_a ax 0))) && decide (mm_a ax 0 < 140) && (mm_kd (mm_a ax 0) == 1) && (mm_np (mm_a ax 0) + 1 == mm_a ax 1) && decide ((mm_cl (mm_a ax 2)).1 = mm_cls (mm_a ax 0)) && decide (mm_a ax 2 < 6) && (mm_hh (mm_a ax 0)).isEmpty && (mm_hh m).isEmpty) = true := hok
  simp only [Bool.and_eq_true, decide_eq_true_eq, beq_iff_eq, List.isEmpty_iff] at hok2
  obtain ⟨⟨⟨⟨⟨⟨⟨⟨o1, o2⟩, o3⟩, o4⟩, o5⟩, o7⟩, o8⟩, o9⟩, o6⟩ := hok2
  have hF2 := hF
  simp only [mm_F, mm_step, mm_op, mm_call] at hF2
  by_cases hrec : mm_isRec h (mm_a ax 2) (st.take (mm_a ax 1)).reverse = true
  case neg =>
    rw [if_neg hrec] at hF2
    exact hF2.elim
  rw [if_pos hrec] at hF2
  by_cases hc9 : mm_rk (mm_a ax 0) + 1 ≤ mm_rk m ∧ mm_a ax 1 ≤ st.length ∧ mm_wt (st.drop (mm_a ax 1)) ≤ 8 ∧ mm_wt (st.take (mm_a ax 1)).reverse ≤ mm_mxL (mm_a ax 0)
  case neg =>
    rw [if_neg hc9] at hF2
    exact hF2.elim
  rw [if_pos hc9] at hF2
  obtain ⟨a9, g9, ⟨-, hpp⟩, hct⟩ := hF2
  have hle : mm_n h ≤ mm_n g9 ∧ mm_w h ≤ mm_w g9 := by
    obtain ⟨r9, g8, ⟨e1, e2⟩, q1, q2⟩ := hpp.1
    rw [← e2]; exact ⟨q1, q2⟩
  have hc : cells + n0 = mm_n h := hc
  have hs : slots + w0 = mm_w h := hs
  have hL : mm_Lr base b ls L := hL
  have hn : L.length = mm_mxL m := hn
  have hmet := mm_met o3 hpp.2 hc9.2.2.2 (n := mm_n g9 - mm_n h) (w := mm_w g9 - mm_w h) (by rintro r9 g8 ⟨-, e2⟩; rw [e2]; omega)
  have hd : mm_hd r = pc + 3 := (hnx rfl).1
  cases a9 with
  | inl v =>
    have hk : mm_PP l D base b sc (m, r, L, v.toList ++ st.drop (mm_a ax 1), g9) Q := hct.2
    have hG := mm_PPb hQ hk
    have hG : mm_n g9 ≤ n0 + R.cells ∧ mm_w g9 ≤ w0 + R.slots := hG
    refine mm_after (mm_runV C hR hS (hL.1.trans hn) (mm_dec_ok o1) (mm_wk_in o2) o3 o4 o5 o7 o8 o9 hrec hc9 hmet ⟨by omega, by omega⟩) hS ?_ ?_
    · rintro v2 g H1 locs1 ⟨e1, e2⟩ hR1 hS1
      cases e1
      rw [e2] at hR1
      exact mm_goon C hQ hL hn (hnx rfl).2 hd (by omega) (by omega) hk hR1 hS1
    · rintro k g H1 locs1 q ce ⟨e1, e2⟩
      cases e1
  | inr E =>
    have hk : Q (.inr E) g9 := hct
    have hG := hQ.2.2 _ _ hk
    refine mm_after (mm_runV C hR hS (hL.1.trans hn) (mm_dec_ok o1) (mm_wk_in o2) o3 o4 o5 o7 o8 o9 hrec hc9 hmet ⟨by omega, by omega⟩) hS ?_ ?_
    · rintro v2 g H1 locs1 ⟨e1, e2⟩
      cases e1
    · rintro k g H1 locs1 q ce ⟨e1, e2⟩ hR1 hS1 h1 h2 h3
      cases e1
      rw [e2] at hR1
      exact mm_leave C hQ o6 (by omega) (by omega) hk hR1 hS1 h1 h2 h3
theorem mm_z67 {m pc : Nat} {x : Int32} {ax : List Nat} {r : List mm_Op} {L : mm_L} {st : List Value} {h : mm_H} {Q : mm_Q} (hF : mm_F (fun s Q => mm_C s Q ∧ mm_PP l D base b sc s Q) (m, (pc, 67, x, ax) :: r, L, st, h) Q) : mm_W l D base b sc (m, (pc, 67, x, ax) :: r, L, st, h) Q := by
  intro p e R s0 M args below meth c Qc XC n0 w0 H locs cells slots ls C hQ hv hR hS hL hn hc hs
  obtain ⟨hok, hnx⟩ := mm_vl_c hv
  have hok2 : (mm_dec m pc (.invokespecial (mm_a ax 3)) 3 && (if mm_a ax 5 = 0 then mm_wL (mm_a ax 4) (.methodLink (mm_cls m) (mm_a ax 3) (mm_y (mm_a ax 0))) else decide (lw_tbl[14 + mm_a ax 4]? = some (.methodLinkNest (mm_cls m) (mm_a ax 3) (mm_y (mm_a ax 0)) "StolenVoices"))) && decide (mm_a ax 0 < 140) && (mm_kd (mm_a ax 0) == 2) && (mm_np (mm_a ax 0) + 1 == mm_a ax 1) && (mm_hh (mm_a ax 0)).isEmpty) = true := hok
  simp only [Bool.and_eq_true, decide_eq_true_eq, beq_iff_eq, List.isEmpty_iff] at hok2
  obtain ⟨⟨⟨⟨⟨o1, o2⟩, o3⟩, o4⟩, o5⟩, o9⟩ := hok2
  have hlk : Cond.methodLink (mm_cls m) (mm_a ax 3) (mm_y (mm_a ax 0)) ∈ mm_TB ∨ lw_tbl[14 + mm_a ax 4]? = some (.methodLinkNest (mm_cls m) (mm_a ax 3) (mm_y (mm_a ax 0)) "StolenVoices") := by
    by_cases h5 : mm_a ax 5 = 0
    · rw [if_pos h5] at o2; exact Or.inl (mm_wk_in o2)
    · rw [if_neg h5] at o2; exact Or.inr (of_decide_eq_true o2)
  have hF2 := hF
  simp only [mm_F, mm_step, mm_op, mm_callI] at hF2
  by_cases hc9 : mm_rk (mm_a ax 0) + 1 ≤ mm_rk m ∧ mm_a ax 1 ≤ st.length ∧ mm_wt (st.drop (mm_a ax 1)) ≤ 8 ∧ mm_wt (st.take (mm_a ax 1)).reverse ≤ mm_mxL (mm_a ax 0) ∧ mm_isRf (st.take (mm_a ax 1)).reverse = true
  case neg =>
    rw [if_neg hc9] at hF2
    exact hF2.elim
  rw [if_pos hc9] at hF2
  obtain ⟨a9, g9, ⟨-, hpp⟩, hct⟩ := hF2
  have hle : mm_n h ≤ mm_n g9 ∧ mm_w h ≤ mm_w g9 := by
    obtain ⟨r9, g8, ⟨e1, e2⟩, q1, q2⟩ := hpp.1
    rw [← e2]; exact ⟨q1, q2⟩
  have hc : cells + n0 = mm_n h := hc
  have hs : slots + w0 = mm_w h := hs
  have hL : mm_Lr base b ls L := hL
  have hn : L.length = mm_mxL m := hn
  have hmet := mm_met o3 hpp.2 hc9.2.2.2.1 (n := mm_n g9 - mm_n h) (w := mm_w g9 - mm_w h) (by rintro r9 g8 ⟨-, e2⟩; rw [e2]; omega)
  have hd : mm_hd r = pc + 3 := (hnx rfl).1
  cases a9 with
  | inl v =>
    have hk : mm_PP l D base b sc (m, r, L, v.toList ++ st.drop (mm_a ax 1), g9) Q := hct.2
    have hG := mm_PPb hQ hk
    have hG : mm_n g9 ≤ n0 + R.cells ∧ mm_w g9 ≤ w0 + R.slots := hG
    have hmet2 := mm_met_ret hmet (by rintro k g ⟨e1, -⟩; cases e1)
    refine mm_after (mm_runI C hR hS (hL.1.trans hn) (mm_dec_ok o1) hlk o3 o4 o5 o9 hc9.2.2.2.2 ⟨hc9.1, hc9.2.1, hc9.2.2.1, hc9.2.2.2.1⟩ hmet2 ⟨by omega, by omega⟩) hS ?_ ?_
    · rintro v2 g H1 locs1 ⟨e1, e2⟩ hR1 hS1
      cases e1
      rw [e2] at hR1
      exact mm_goon C hQ hL hn (hnx rfl).2 hd (by omega) (by omega) hk hR1 hS1
    · rintro k g H1 locs1 q ce ⟨e1, e2⟩
      cases e1
  | inr E => exact (mm_stuck hct.1).elim
end MMO
