/-! the counts never fall; the small machine is sound, whole -/
section MMX
variable {l : Launch} {D : mm_D} {base b : Nat} {sc : Nat × (Nat → Int32)}
def mm_mo (h : mm_H) (q : mm_Rq) : Prop := match q with
  | none => True
  | some (.inl s) => mm_n h ≤ mm_n s.2.2.2.2 ∧ mm_w h ≤ mm_w s.2.2.2.2
  | some (.inr (.inl q)) => mm_n h ≤ mm_n q.2 ∧ mm_w h ≤ mm_w q.2
  | some (.inr (.inr q)) => q.1.2.2.2.2 = h ∧ ∀ a g s, q.2 a g = some s → s.2.2.2.2 = g
theorem mm_mb {m : Nat} {r : List mm_Op} {L : mm_L} {st : List Value} {hs : List Nat} {a : mm_R} {g : mm_H} {s : mm_S} (h : mm_backH m r L st hs a g = some s) : s.2.2.2.2 = g := by
  unfold mm_backH at h
  split at h
  · cases h; rfl
  · split at h
    · cases h; rfl
    · split at h
      · cases h
      · cases h; rfl
theorem mm_mbI {m : Nat} {r : List mm_Op} {L : mm_L} {st : List Value} {a : mm_R} {g : mm_H} {s : mm_S} (h : mm_backI m r L st a g = some s) : s.2.2.2.2 = g := by
  unfold mm_backI at h
  split at h <;> (cases h; rfl)
theorem mm_m0 {m : Nat} {x : Int32} {ax : List Nat} {r : List mm_Op} {L : mm_L} {st : List Value} {h : mm_H} : mm_mo h (mm_op m x ax r L st h 0) := by
  simp only [mm_op, mm_go]
  (repeat' split) <;> first | exact True.intro | exact ⟨Nat.le_refl _, Nat.le_refl _⟩ | (refine ⟨?_, ?_⟩ <;> simp only [mm_n, mm_w] <;> omega)
theorem mm_m1 {m : Nat} {x : Int32} {ax : List Nat} {r : List mm_Op} {L : mm_L} {st : List Value} {h : mm_H} : mm_mo h (mm_op m x ax r L st h 1) := by
  simp only [mm_op, mm_go]
  (repeat' split) <;> first | exact True.intro | exact ⟨Nat.le_refl _, Nat.le_refl _⟩ | (refine ⟨?_, ?_⟩ <;> simp only [mm_n, mm_w] <;> omega)
theorem mm_m2 {m : Nat} {x : Int32} {ax : List Nat} {r : List mm_Op} {L : mm_L} {st : List Value} {h : mm_H} : mm_mo h (mm_op m x ax r L st h 2) := by
  simp only [mm_op, mm_go]
  (repeat' split) <;> first | exact True.intro | exact ⟨Nat.le_refl _, Nat.le_refl _⟩ | (refine ⟨?_, ?_⟩ <;> simp only [mm_n, mm_w] <;> omega)
theorem mm_m3 {m : Nat} {x : Int32} {ax : List Nat} {r : List mm_Op} {L : mm_L} {st : List Value} {h : mm_H} : mm_mo h (mm_op m x ax r L st h 3) := by
  simp only [mm_op, mm_go]
  (repeat' split) <;> first | exact True.intro | exact ⟨Nat.le_refl _, Nat.le_refl _⟩ | (refine ⟨?_, ?_⟩ <;> simp only [mm_n, mm_w] <;> omega)
theorem mm_m4 {m : Nat} {x : Int32} {ax : List Nat} {r : List mm_Op} {L : mm_L} {st : List Value} {h : mm_H} : mm_mo h (mm_op m x ax r L st h 4) := by
  simp only [mm_op, mm_go]
  (repeat' split) <;> first | exact True.intro | exact ⟨Nat.le_refl _, Nat.le_refl _⟩ | (refine ⟨?_, ?_⟩ <;> simp only [mm_n, mm_w] <;> omega)
theorem mm_m5 {m : Nat} {x : Int32} {ax : List Nat} {r : List mm_Op} {L : mm_L} {st : List Value} {h : mm_H} : mm_mo h (mm_op m x ax r L st h 5) := by
  simp only [mm_op, mm_go]
  (repeat' split) <;> first | exact True.intro | exact ⟨Nat.le_refl _, Nat.le_refl _⟩ | (refine ⟨?_, ?_⟩ <;> simp only [mm_n, mm_w] <;> omega)
theorem mm_m6 {m : Nat} {x : Int32} {ax : List Nat} {r : List mm_Op} {L : mm_L} {st : List Value} {h : mm_H} : mm_mo h (mm_op m x ax r L st h 6) := by
  simp only [mm_op, mm_go]
  (repeat' split) <;> first | exact True.intro | exact ⟨Nat.le_refl _, Nat.le_refl _⟩ | (refine ⟨?_, ?_⟩ <;> simp only [mm_n, mm_w] <;> omega)
theorem mm_m7 {m : Nat} {x : Int32} {ax : List Nat} {r : List mm_Op} {L : mm_L} {st : List Value} {h : mm_H} : mm_mo h (mm_op m x ax r L st h 7) := by
  simp only [mm_op, mm_go]
  (repeat' split) <;> first | exact True.intro | exact ⟨Nat.le_refl _, Nat.le_refl _⟩ | (refine ⟨?_, ?_⟩ <;> simp only [mm_n, mm_w] <;> omega)
theorem mm_m8 {m : Nat} {x : Int32} {ax : List Nat} {r : List mm_Op} {L : mm_L} {st : List Value} {h : mm_H} : mm_mo h (mm_op m x ax r L st h 8) := by
  simp only [mm_op, mm_go]
  (repeat' split) <;> first | exact True.intro | exact ⟨Nat.le_refl _, Nat.le_refl _⟩ | (refine ⟨?_, ?_⟩ <;> simp only [mm_n, mm_w] <;> omega)
theorem mm_m9 {m : Nat} {x : Int32} {ax : List Nat} {r : List mm_Op} {L : mm_L} {st : List Value} {h : mm_H} : mm_mo h (mm_op m x ax r L st h 9) := by
  simp only [mm_op, mm_go]
  (repeat' split) <;> first | exact True.intro | exact ⟨Nat.le_refl _, Nat.le_refl _⟩ | (refine ⟨?_, ?_⟩ <;> simp only [mm_n, mm_w] <;> omega)
theorem mm_m10 {m : Nat} {x : Int32} {ax : List Nat} {r : List mm_Op} {L : mm_L} {st : List Value} {h : mm_H} : mm_mo h (mm_op m x ax r L st h 10) := by
  simp only [mm_op, mm_go]
  (repeat' split) <;> first | exact True.intro | exact ⟨Nat.le_refl _, Nat.le_refl _⟩ | (refine ⟨?_, ?_⟩ <;> simp only [mm_n, mm_w] <;> omega)
theorem mm_m11 {m : Nat} {x : Int32} {ax : List Nat} {r : List mm_Op} {L : mm_L} {st : List Value} {h : mm_H} : mm_mo h (mm_op m x ax r L st h 11) := by
  simp only [mm_op, mm_go]
  (repeat' split) <;> first | exact True.intro | exact ⟨Nat.le_refl _, Nat.le_refl _⟩ | (refine ⟨?_, ?_⟩ <;> simp only [mm_n, mm_w] <;> omega)
theorem mm_m12 {m : Nat} {x : Int32} {ax : List Nat} {r : List mm_Op} {L : mm_L} {st : List Value} {h : mm_H} : mm_mo h (mm_op m x ax r L st h 12) := by
  simp only [mm_op, mm_go]
  (repeat' split) <;> first | exact True.intro | exact ⟨Nat.le_refl _, Nat.le_refl _⟩ | (refine ⟨?_, ?_⟩ <;> simp only [mm_n, mm_w] <;> omega)
theorem mm_m13 {m : Nat} {x : Int32} {ax : List Nat} {r : List mm_Op} {L : mm_L} {st : List Value} {h : mm_H} : mm_mo h (mm_op m x ax r L st h 13) := by
  simp only [mm_op, mm_go]
  (repeat' split) <;> first | exact True.intro | exact ⟨Nat.le_refl _, Nat.le_refl _⟩ | (refine ⟨?_, ?_⟩ <;> simp only [mm_n, mm_w] <;> omega)
theorem mm_m14 {m : Nat} {x : Int32} {ax : List Nat} {r : List mm_Op} {L : mm_L} {st : List Value} {h : mm_H} : mm_mo h (mm_op m x ax r L st h 14) := by
  simp only [mm_op, mm_go]
  (repeat' split) <;> first | exact True.intro | exact ⟨Nat.le_refl _, Nat.le_refl _⟩ | (refine ⟨?_, ?_⟩ <;> simp only [mm_n, mm_w] <;> omega)
theorem mm_m15 {m : Nat} {x : Int32} {ax : List Nat} {r : List mm_Op} {L : mm_L} {st : List Value} {h : mm_H} : mm_mo h (mm_op m x ax r L st h 15) := by
  simp only [mm_op, mm_go]
  (repeat' split) <;> first | exact True.intro | exact ⟨Nat.le_refl _, Nat.le_refl _⟩ | (refine ⟨?_, ?_⟩ <;> simp only [mm_n, mm_w] <;> omega)
theorem mm_m16 {m : Nat} {x : Int32} {ax : List Nat} {r : List mm_Op} {L : mm_L} {st : List Value} {h : mm_H} : mm_mo h (mm_op m x ax r L st h 16) := by
  simp only [mm_op, mm_go]
  (repeat' split) <;> first | exact True.intro | exact ⟨Nat.le_refl _, Nat.le_refl _⟩ | (refine ⟨?_, ?_⟩ <;> simp only [mm_n, mm_w] <;> omega)
theorem mm_m17 {m : Nat} {x : Int32} {ax : List Nat} {r : List mm_Op} {L : mm_L} {st : List Value} {h : mm_H} : mm_mo h (mm_op m x ax r L st h 17) := by
  simp only [mm_op, mm_go]
  (repeat' split) <;> first | exact True.intro | exact ⟨Nat.le_refl _, Nat.le_refl _⟩ | (refine ⟨?_, ?_⟩ <;> simp only [mm_n, mm_w] <;> omega)
theorem mm_m18 {m : Nat} {x : Int32} {ax : List Nat} {r : List mm_Op} {L : mm_L} {st : List Value} {h : mm_H} : mm_mo h (mm_op m x ax r L st h 18) := by
  simp only [mm_op, mm_go]
  (repeat' split) <;> first | exact True.intro | exact ⟨Nat.le_refl _, Nat.le_refl _⟩ | (refine ⟨?_, ?_⟩ <;> simp only [mm_n, mm_w] <;> omega)
theorem mm_m19 {m : Nat} {x : Int32} {ax : List Nat} {r : List mm_Op} {L : mm_L} {st : List Value} {h : mm_H} : mm_mo h (mm_op m x ax r L st h 19) := by
  simp only [mm_op, mm_go]
  (repeat' split) <;> first | exact True.intro | exact ⟨Nat.le_refl _, Nat.le_refl _⟩ | (refine ⟨?_, ?_⟩ <;> simp only [mm_n, mm_w] <;> omega)
theorem mm_m20 {m : Nat} {x : Int32} {ax : List Nat} {r : List mm_Op} {L : mm_L} {st : List Value} {h : mm_H} : mm_mo h (mm_op m x ax r L st h 20) := by
  simp only [mm_op, mm_go]
  (repeat' split) <;> first | exact True.intro | exact ⟨Nat.le_refl _, Nat.le_refl _⟩ | (refine ⟨?_, ?_⟩ <;> simp only [mm_n, mm_w] <;> omega)
theorem mm_m21 {m : Nat} {x : Int32} {ax : List Nat} {r : List mm_Op} {L : mm_L} {st : List Value} {h : mm_H} : mm_mo h (mm_op m x ax r L st h 21) := by
  simp only [mm_op, mm_go]
  (repeat' split) <;> first | exact True.intro | exact ⟨Nat.le_refl _, Nat.le_refl _⟩ | (refine ⟨?_, ?_⟩ <;> simp only [mm_n, mm_w] <;> omega)
theorem mm_m22 {m : Nat} {x : Int32} {ax : List Nat} {r : List mm_Op} {L : mm_L} {st : List Value} {h : mm_H} : mm_mo h (mm_op m x ax r L st h 22) := by
  simp only [mm_op, mm_go]
  (repeat' split) <;> first | exact True.intro | exact ⟨Nat.le_refl _, Nat.le_refl _⟩ | (refine ⟨?_, ?_⟩ <;> simp only [mm_n, mm_w] <;> omega)
theorem mm_m23 {m : Nat} {x : Int32} {ax : List Nat} {r : List mm_Op} {L : mm_L} {st : List Value} {h : mm_H} : mm_mo h (mm_op m x ax r L st h 23) := by
  simp only [mm_op, mm_go]
  (repeat' split) <;> first | exact True.intro | exact ⟨Nat.le_refl _, Nat.le_refl _⟩ | (refine ⟨?_, ?_⟩ <;> simp only [mm_n, mm_w] <;> omega)
theorem mm_m24 {m : Nat} {x : Int32} {ax : List Nat} {r : List mm_Op} {L : mm_L} {st : List Value} {h : mm_H} : mm_mo h (mm_op m x ax r L st h 24) := by
  simp only [mm_op, mm_go]
  (repeat' split) <;> first | exact True.intro | exact ⟨Nat.le_refl _, Nat.le_refl _⟩ | (refine ⟨?_, ?_⟩ <;> simp only [mm_n, mm_w] <;> omega)
theorem mm_m25 {m : Nat} {x : Int32} {ax : List Nat} {r : List mm_Op} {L : mm_L} {st : List Value} {h : mm_H} : mm_mo h (mm_op m x ax r L st h 25) := by
  simp only [mm_op, mm_go]
  (repeat' split) <;> first | exact True.intro | exact ⟨Nat.le_refl _, Nat.le_refl _⟩ | (refine ⟨?_, ?_⟩ <;> simp only [mm_n, mm_w] <;> omega)
theorem mm_m26 {m : Nat} {x : Int32} {ax : List Nat} {r : List mm_Op} {L : mm_L} {st : List Value} {h : mm_H} : mm_mo h (mm_op m x ax r L st h 26) := by
  simp only [mm_op, mm_go]
  (repeat' split) <;> first | exact True.intro | exact ⟨Nat.le_refl _, Nat.le_refl _⟩ | (refine ⟨?_, ?_⟩ <;> simp only [mm_n, mm_w] <;> omega)
theorem mm_m27 {m : Nat} {x : Int32} {ax : List Nat} {r : List mm_Op} {L : mm_L} {st : List Value} {h : mm_H} : mm_mo h (mm_op m x ax r L st h 27) := by
  simp only [mm_op, mm_go]
  (repeat' split) <;> first | exact True.intro | exact ⟨Nat.le_refl _, Nat.le_refl _⟩ | (refine ⟨?_, ?_⟩ <;> simp only [mm_n, mm_w] <;> omega)
theorem mm_m28 {m : Nat} {x : Int32} {ax : List Nat} {r : List mm_Op} {L : mm_L} {st : List Value} {h : mm_H} : mm_mo h (mm_op m x ax r L st h 28) := by
  simp only [mm_op, mm_go]
  (repeat' split) <;> first | exact True.intro | exact ⟨Nat.le_refl _, Nat.le_refl _⟩ | (refine ⟨?_, ?_⟩ <;> simp only [mm_n, mm_w] <;> omega)
theorem mm_m29 {m : Nat} {x : Int32} {ax : List Nat} {r : List mm_Op} {L : mm_L} {st : List Value} {h : mm_H} : mm_mo h (mm_op m x ax r L st h 29) := by
  simp only [mm_op, mm_go]
  (repeat' split) <;> first | exact True.intro | exact ⟨Nat.le_refl _, Nat.le_refl _⟩ | (refine ⟨?_, ?_⟩ <;> simp only [mm_n, mm_w] <;> omega)
theorem mm_m30 {m : Nat} {x : Int32} {ax : List Nat} {r : List mm_Op} {L : mm_L} {st : List Value} {h : mm_H} : mm_mo h (mm_op m x ax r L st h 30) := by
  simp only [mm_op, mm_go]
  (repeat' split) <;> first | exact True.intro | exact ⟨Nat.le_refl _, Nat.le_refl _⟩ | (refine ⟨?_, ?_⟩ <;> simp only [mm_n, mm_w] <;> omega)
theorem mm_m31 {m : Nat} {x : Int32} {ax : List Nat} {r : List mm_Op} {L : mm_L} {st : List Value} {h : mm_H} : mm_mo h (mm_op m x ax r L st h 31) := by
  simp only [mm_op, mm_go]
  (repeat' split) <;> first | exact True.intro | exact ⟨Nat.le_refl _, Nat.le_refl _⟩ | (refine ⟨?_, ?_⟩ <;> simp only [mm_n, mm_w] <;> omega)
theorem mm_m32 {m : Nat} {x : Int32} {ax : List Nat} {r : List mm_Op} {L : mm_L} {st : List Value} {h : mm_H} : mm_mo h (mm_op m x ax r L st h 32) := by
  simp only [mm_op, mm_go]
  (repeat' split) <;> first | exact True.intro | exact ⟨Nat.le_refl _, Nat.le_refl _⟩ | (refine ⟨?_, ?_⟩ <;> simp only [mm_n, mm_w] <;> omega)
theorem mm_m33 {m : Nat} {x : Int32} {ax : List Nat} {r : List mm_Op} {L : mm_L} {st : List Value} {h : mm_H} : mm_mo h (mm_op m x ax r L st h 33) := by
  simp only [mm_op, mm_go]
  (repeat' split) <;> first | exact True.intro | exact ⟨Nat.le_refl _, Nat.le_refl _⟩ | (refine ⟨?_, ?_⟩ <;> simp only [mm_n, mm_w] <;> omega)
theorem mm_m34 {m : Nat} {x : Int32} {ax : List Nat} {r : List mm_Op} {L : mm_L} {st : List Value} {h : mm_H} : mm_mo h (mm_op m x ax r L st h 34) := by
  simp only [mm_op, mm_go]
  (repeat' split) <;> first | exact True.intro | exact ⟨Nat.le_refl _, Nat.le_refl _⟩ | (refine ⟨?_, ?_⟩ <;> simp only [mm_n, mm_w] <;> omega)
theorem mm_m35 {m : Nat} {x : Int32} {ax : List Nat} {r : List mm_Op} {L : mm_L} {st : List Value} {h : mm_H} : mm_mo h (mm_op m x ax r L st h 35) := by
  simp only [mm_op, mm_go]
  (repeat' split) <;> first | exact True.intro | exact ⟨Nat.le_refl _, Nat.le_refl _⟩ | (refine ⟨?_, ?_⟩ <;> simp only [mm_n, mm_w] <;> omega)
theorem mm_m36 {m : Nat} {x : Int32} {ax : List Nat} {r : List mm_Op} {L : mm_L} {st : List Value} {h : mm_H} : mm_mo h (mm_op m x ax r L st h 36) := by
  simp only [mm_op, mm_go]
  (repeat' split) <;> first | exact True.intro | exact ⟨Nat.le_refl _, Nat.le_refl _⟩ | (refine ⟨?_, ?_⟩ <;> simp only [mm_n, mm_w] <;> omega)
theorem mm_m37 {m : Nat} {x : Int32} {ax : List Nat} {r : List mm_Op} {L : mm_L} {st : List Value} {h : mm_H} : mm_mo h (mm_op m x ax r L st h 37) := by
  simp only [mm_op, mm_go]
  (repeat' split) <;> first | exact True.intro | exact ⟨Nat.le_refl _, Nat.le_refl _⟩ | (refine ⟨?_, ?_⟩ <;> simp only [mm_n, mm_w] <;> omega)
theorem mm_m38 {m : Nat} {x : Int32} {ax : List Nat} {r : List mm_Op} {L : mm_L} {st : List Value} {h : mm_H} : mm_mo h (mm_op m x ax r L st h 38) := by
  simp only [mm_op, mm_go]
  (repeat' split) <;> first | exact True.intro | exact ⟨Nat.le_refl _, Nat.le_refl _⟩ | (refine ⟨?_, ?_⟩ <;> simp only [mm_n, mm_w] <;> omega)
theorem mm_m39 {m : Nat} {x : Int32} {ax : List Nat} {r : List mm_Op} {L : mm_L} {st : List Value} {h : mm_H} : mm_mo h (mm_op m x ax r L st h 39) := by
  simp only [mm_op, mm_go]
  (repeat' split) <;> first | exact True.intro | exact ⟨Nat.le_refl _, Nat.le_refl _⟩ | (refine ⟨?_, ?_⟩ <;> simp only [mm_n, mm_w] <;> omega)
theorem mm_m40 {m : Nat} {x : Int32} {ax : List Nat} {r : List mm_Op} {L : mm_L} {st : List Value} {h : mm_H} : mm_mo h (mm_op m x ax r L st h 40) := by
  simp only [mm_op, mm_go]
  (repeat' split) <;> first | exact True.intro | exact ⟨Nat.le_refl _, Nat.le_refl _⟩ | (refine ⟨?_, ?_⟩ <;> simp only [mm_n, mm_w] <;> omega)
theorem mm_m41 {m : Nat} {x : Int32} {ax : List Nat} {r : List mm_Op} {L : mm_L} {st : List Value} {h : mm_H} : mm_mo h (mm_op m x ax r L st h 41) := by
  simp only [mm_op, mm_go]
  (repeat' split) <;> first | exact True.intro | exact ⟨Nat.le_refl _, Nat.le_refl _⟩ | (refine ⟨?_, ?_⟩ <;> simp only [mm_n, mm_w] <;> omega)
theorem mm_m42 {m : Nat} {x : Int32} {ax : List Nat} {r : List mm_Op} {L : mm_L} {st : List Value} {h : mm_H} : mm_mo h (mm_op m x ax r L st h 42) := by
  simp only [mm_op, mm_go]
  (repeat' split) <;> first | exact True.intro | exact ⟨Nat.le_refl _, Nat.le_refl _⟩ | (refine ⟨?_, ?_⟩ <;> simp only [mm_n, mm_w] <;> omega)
theorem mm_m43 {m : Nat} {x : Int32} {ax : List Nat} {r : List mm_Op} {L : mm_L} {st : List Value} {h : mm_H} : mm_mo h (mm_op m x ax r L st h 43) := by
  simp only [mm_op, mm_go]
  (repeat' split) <;> first | exact True.intro | exact ⟨Nat.le_refl _, Nat.le_refl _⟩ | (refine ⟨?_, ?_⟩ <;> simp only [mm_n, mm_w] <;> omega)
theorem mm_m44 {m : Nat} {x : Int32} {ax : List Nat} {r : List mm_Op} {L : mm_L} {st : List Value} {h : mm_H} : mm_mo h (mm_op m x ax r L st h 44) := by
  simp only [mm_op, mm_go]
  (repeat' split) <;> first | exact True.intro | exact ⟨Nat.le_refl _, Nat.le_refl _⟩ | (refine ⟨?_, ?_⟩ <;> simp only [mm_n, mm_w] <;> omega)
theorem mm_m45 {m : Nat} {x : Int32} {ax : List Nat} {r : List mm_Op} {L : mm_L} {st : List Value} {h : mm_H} : mm_mo h (mm_op m x ax r L st h 45) := by
  simp only [mm_op, mm_go]
  (repeat' split) <;> first | exact True.intro | exact ⟨Nat.le_refl _, Nat.le_refl _⟩ | (refine ⟨?_, ?_⟩ <;> simp only [mm_n, mm_w] <;> omega)
theorem mm_m46 {m : Nat} {x : Int32} {ax : List Nat} {r : List mm_Op} {L : mm_L} {st : List Value} {h : mm_H} : mm_mo h (mm_op m x ax r L st h 46) := by
  simp only [mm_op, mm_go]
  (repeat' split) <;> first | exact True.intro | exact ⟨Nat.le_refl _, Nat.le_refl _⟩ | (refine ⟨?_, ?_⟩ <;> simp only [mm_n, mm_w] <;> omega)
theorem mm_m47 {m : Nat} {x : Int32} {ax : List Nat} {r : List mm_Op} {L : mm_L} {st : List Value} {h : mm_H} : mm_mo h (mm_op m x ax r L st h 47) := by
  simp only [mm_op, mm_go]
  (repeat' split) <;> first | exact True.intro | exact ⟨Nat.le_refl _, Nat.le_refl _⟩ | (refine ⟨?_, ?_⟩ <;> simp only [mm_n, mm_w] <;> omega)
theorem mm_m48 {m : Nat} {x : Int32} {ax : List Nat} {r : List mm_Op} {L : mm_L} {st : List Value} {h : mm_H} : mm_mo h (mm_op m x ax r L st h 48) := by
  simp only [mm_op, mm_go]
  (repeat' split) <;> first | exact True.intro | exact ⟨Nat.le_refl _, Nat.le_refl _⟩ | (refine ⟨?_, ?_⟩ <;> simp only [mm_n, mm_w] <;> omega)
theorem mm_m49 {m : Nat} {x : Int32} {ax : List Nat} {r : List mm_Op} {L : mm_L} {st : List Value} {h : mm_H} : mm_mo h (mm_op m x ax r L st h 49) := by
  simp only [mm_op, mm_go]
  (repeat' split) <;> first | exact True.intro | exact ⟨Nat.le_refl _, Nat.le_refl _⟩ | (refine ⟨?_, ?_⟩ <;> simp only [mm_n, mm_w] <;> omega)
theorem mm_m50 {m : Nat} {x : Int32} {ax : List Nat} {r : List mm_Op} {L : mm_L} {st : List Value} {h : mm_H} : mm_mo h (mm_op m x ax r L st h 50) := by
  simp only [mm_op, mm_go]
  (repeat' split) <;> first | exact True.intro | exact ⟨Nat.le_refl _, Nat.le_refl _⟩ | (refine ⟨?_, ?_⟩ <;> simp only [mm_n, mm_w] <;> omega)
theorem mm_m51 {m : Nat} {x : Int32} {ax : List Nat} {r : List mm_Op} {L : mm_L} {st : List Value} {h : mm_H} : mm_mo h (mm_op m x ax r L st h 51) := by
  simp only [mm_op, mm_go]
  (repeat' split) <;> first | exact True.intro | exact ⟨Nat.le_refl _, Nat.le_refl _⟩ | (refine ⟨?_, ?_⟩ <;> simp only [mm_n, mm_w] <;> omega)
theorem mm_m52 {m : Nat} {x : Int32} {ax : List Nat} {r : List mm_Op} {L : mm_L} {st : List Value} {h : mm_H} : mm_mo h (mm_op m x ax r L st h 52) := by
  simp only [mm_op, mm_go]
  (repeat' split) <;> first | exact True.intro | exact ⟨Nat.le_refl _, Nat.le_refl _⟩ | (refine ⟨?_, ?_⟩ <;> simp only [mm_n, mm_w] <;> omega)
theorem mm_m53 {m : Nat} {x : Int32} {ax : List Nat} {r : List mm_Op} {L : mm_L} {st : List Value} {h : mm_H} : mm_mo h (mm_op m x ax r L st h 53) := by
  simp only [mm_op, mm_go]
  (repeat' split) <;> first | exact True.intro | exact ⟨Nat.le_refl _, Nat.le_refl _⟩ | (refine ⟨?_, ?_⟩ <;> simp only [mm_n, mm_w] <;> omega)
theorem mm_m54 {m : Nat} {x : Int32} {ax : List Nat} {r : List mm_Op} {L : mm_L} {st : List Value} {h : mm_H} : mm_mo h (mm_op m x ax r L st h 54) := by
  simp only [mm_op, mm_go]
  (repeat' split) <;> first | exact True.intro | exact ⟨Nat.le_refl _, Nat.le_refl _⟩ | (refine ⟨?_, ?_⟩ <;> simp only [mm_n, mm_w] <;> omega)
theorem mm_m55 {m : Nat} {x : Int32} {ax : List Nat} {r : List mm_Op} {L : mm_L} {st : List Value} {h : mm_H} : mm_mo h (mm_op m x ax r L st h 55) := by
  simp only [mm_op, mm_go]
  (repeat' split) <;> first | exact True.intro | exact ⟨Nat.le_refl _, Nat.le_refl _⟩ | (refine ⟨?_, ?_⟩ <;> simp only [mm_n, mm_w] <;> omega)
theorem mm_m56 {m : Nat} {x : Int32} {ax : List Nat} {r : List mm_Op} {L : mm_L} {st : List Value} {h : mm_H} : mm_mo h (mm_op m x ax r L st h 56) := by
  simp only [mm_op, mm_go]
  (repeat' split) <;> first | exact True.intro | exact ⟨Nat.le_refl _, Nat.le_refl _⟩ | (refine ⟨?_, ?_⟩ <;> simp only [mm_n, mm_w] <;> omega)
theorem mm_m57 {m : Nat} {x : Int32} {ax : List Nat} {r : List mm_Op} {L : mm_L} {st : List Value} {h : mm_H} : mm_mo h (mm_op m x ax r L st h 57) := by
  simp only [mm_op, mm_go]
  (repeat' split) <;> first | exact True.intro | exact ⟨Nat.le_refl _, Nat.le_refl _⟩ | (refine ⟨?_, ?_⟩ <;> simp only [mm_n, mm_w] <;> omega)
theorem mm_m58 {m : Nat} {x : Int32} {ax : List Nat} {r : List mm_Op} {L : mm_L} {st : List Value} {h : mm_H} : mm_mo h (mm_op m x ax r L st h 58) := by
  simp only [mm_op, mm_go]
  (repeat' split) <;> first | exact True.intro | exact ⟨Nat.le_refl _, Nat.le_refl _⟩ | (refine ⟨?_, ?_⟩ <;> simp only [mm_n, mm_w] <;> omega)
theorem mm_m59 {m : Nat} {x : Int32} {ax : List Nat} {r : List mm_Op} {L : mm_L} {st : List Value} {h : mm_H} : mm_mo h (mm_op m x ax r L st h 59) := by
  simp only [mm_op, mm_go]
  (repeat' split) <;> first | exact True.intro | exact ⟨Nat.le_refl _, Nat.le_refl _⟩ | (refine ⟨?_, ?_⟩ <;> simp only [mm_n, mm_w] <;> omega)
theorem mm_m60 {m : Nat} {x : Int32} {ax : List Nat} {r : List mm_Op} {L : mm_L} {st : List Value} {h : mm_H} : mm_mo h (mm_op m x ax r L st h 60) := by
  simp only [mm_op, mm_go]
  (repeat' split) <;> first | exact True.intro | exact ⟨Nat.le_refl _, Nat.le_refl _⟩ | (refine ⟨?_, ?_⟩ <;> simp only [mm_n, mm_w] <;> omega)
theorem mm_m61 {m : Nat} {x : Int32} {ax : List Nat} {r : List mm_Op} {L : mm_L} {st : List Value} {h : mm_H} : mm_mo h (mm_op m x ax r L st h 61) := by
  simp only [mm_op, mm_go]
  (repeat' split) <;> first | exact True.intro | exact ⟨Nat.le_refl _, Nat.le_refl _⟩ | (refine ⟨?_, ?_⟩ <;> simp only [mm_n, mm_w] <;> omega)
theorem mm_m62 {m : Nat} {x : Int32} {ax : List Nat} {r : List mm_Op} {L : mm_L} {st : List Value} {h : mm_H} : mm_mo h (mm_op m x ax r L st h 62) := by
  simp only [mm_op, mm_go]
  (repeat' split) <;> first | exact True.intro | exact ⟨Nat.le_refl _, Nat.le_refl _⟩ | (refine ⟨?_, ?_⟩ <;> simp only [mm_n, mm_w] <;> omega)
theorem mm_m63 {m : Nat} {x : Int32} {ax : List Nat} {r : List mm_Op} {L : mm_L} {st : List Value} {h : mm_H} : mm_mo h (mm_op m x ax r L st h 63) := by
  simp only [mm_op, mm_go]
  (repeat' split) <;> first | exact True.intro | exact ⟨Nat.le_refl _, Nat.le_refl _⟩ | (refine ⟨?_, ?_⟩ <;> simp only [mm_n, mm_w] <;> omega)
theorem mm_m64 {m : Nat} {x : Int32} {ax : List Nat} {r : List mm_Op} {L : mm_L} {st : List Value} {h : mm_H} : mm_mo h (mm_op m x ax r L st h 64) := by
  simp only [mm_op, mm_go]
  (repeat' split) <;> first | exact True.intro | exact ⟨Nat.le_refl _, Nat.le_refl _⟩ | (refine ⟨?_, ?_⟩ <;> simp only [mm_n, mm_w] <;> omega)
theorem mm_m65 {m : Nat} {x : Int32} {ax : List Nat} {r : List mm_Op} {L : mm_L} {st : List Value} {h : mm_H} : mm_mo h (mm_op m x ax r L st h 65) := by
  simp only [mm_op, mm_call]
  (repeat' split) <;> first | exact True.intro | exact ⟨rfl, fun a g s hs => @mm_mb m r L (List.drop (mm_a ax 1) st) [] a g s hs⟩
theorem mm_m66 {m : Nat} {x : Int32} {ax : List Nat} {r : List mm_Op} {L : mm_L} {st : List Value} {h : mm_H} : mm_mo h (mm_op m x ax r L st h 66) := by
  simp only [mm_op, mm_call]
  (repeat' split) <;> first | exact True.intro | exact ⟨rfl, fun a g s hs => @mm_mb m r L (List.drop (mm_a ax 1) st) [] a g s hs⟩
theorem mm_m67 {m : Nat} {x : Int32} {ax : List Nat} {r : List mm_Op} {L : mm_L} {st : List Value} {h : mm_H} : mm_mo h (mm_op m x ax r L st h 67) := by
  simp only [mm_op, mm_callI]
  (repeat' split) <;> first | exact True.intro | exact ⟨rfl, fun a g s hs => mm_mbI hs⟩
theorem mm_m68 {m : Nat} {x : Int32} {ax : List Nat} {r : List mm_Op} {L : mm_L} {st : List Value} {h : mm_H} : mm_mo h (mm_op m x ax r L st h 68) := by
  simp only [mm_op, mm_go]
  (repeat' split) <;> first | exact True.intro | exact ⟨Nat.le_refl _, Nat.le_refl _⟩ | (refine ⟨?_, ?_⟩ <;> simp only [mm_n, mm_w] <;> omega)
theorem mm_m69 {m : Nat} {x : Int32} {ax : List Nat} {r : List mm_Op} {L : mm_L} {st : List Value} {h : mm_H} : mm_mo h (mm_op m x ax r L st h 69) := by
  simp only [mm_op, mm_call]
  (repeat' split) <;> first | exact True.intro | exact ⟨rfl, fun a g s hs => @mm_mb m r L (List.drop (mm_a ax 1) st) (List.drop 6 ax) a g s hs⟩
theorem mm_m70 {m : Nat} {x : Int32} {ax : List Nat} {r : List mm_Op} {L : mm_L} {st : List Value} {h : mm_H} : mm_mo h (mm_op m x ax r L st h 70) := by
  simp only [mm_op, mm_go]
  (repeat' split) <;> first | exact True.intro | exact ⟨Nat.le_refl _, Nat.le_refl _⟩ | (refine ⟨?_, ?_⟩ <;> simp only [mm_n, mm_w] <;> omega)
theorem mm_m71 {m : Nat} {x : Int32} {ax : List Nat} {r : List mm_Op} {L : mm_L} {st : List Value} {h : mm_H} : mm_mo h (mm_op m x ax r L st h 71) := by
  simp only [mm_op, mm_go]
  (repeat' split) <;> first | exact True.intro | exact ⟨Nat.le_refl _, Nat.le_refl _⟩ | (refine ⟨?_, ?_⟩ <;> simp only [mm_n, mm_w] <;> omega)
theorem mm_m72 {m : Nat} {x : Int32} {ax : List Nat} {r : List mm_Op} {L : mm_L} {st : List Value} {h : mm_H} : mm_mo h (mm_op m x ax r L st h 72) := by
  simp only [mm_op, mm_go]
  (repeat' split) <;> first | exact True.intro | exact ⟨Nat.le_refl _, Nat.le_refl _⟩ | (refine ⟨?_, ?_⟩ <;> simp only [mm_n, mm_w] <;> omega)
theorem mm_m73 {m : Nat} {x : Int32} {ax : List Nat} {r : List mm_Op} {L : mm_L} {st : List Value} {h : mm_H} : mm_mo h (mm_op m x ax r L st h 73) := by
  simp only [mm_op, mm_go]
  (repeat' split) <;> first | exact True.intro | exact ⟨Nat.le_refl _, Nat.le_refl _⟩ | (refine ⟨?_, ?_⟩ <;> simp only [mm_n, mm_w] <;> omega)
theorem mm_m74 {m : Nat} {x : Int32} {ax : List Nat} {r : List mm_Op} {L : mm_L} {st : List Value} {h : mm_H} : mm_mo h (mm_op m x ax r L st h 74) := by
  simp only [mm_op, mm_go]
  (repeat' split) <;> first | exact True.intro | exact ⟨Nat.le_refl _, Nat.le_refl _⟩ | (refine ⟨?_, ?_⟩ <;> simp only [mm_n, mm_w] <;> omega)
theorem mm_z75 {m pc : Nat} {x : Int32} {ax : List Nat} {r : List mm_Op} {L : mm_L} {st : List Value} {h : mm_H} {Q : mm_Q} (hF : mm_F (mm_PP l D base b sc) (m, (pc, 75, x, ax) :: r, L, st, h) Q) : mm_W l D base b sc (m, (pc, 75, x, ax) :: r, L, st, h) Q := by
  intro p e R s0 M args below meth c Qc XC n0 w0 H locs cells slots ls C hQ hv hR hS hL hn hc hs
  obtain ⟨⟨hx, hb, hrt, hlk, hml, hown⟩, hxt, hts, hnm, hEF, hm, hfr, hlo⟩ := id C
  obtain ⟨hok, hnx⟩ := mm_vl_c hv
  have hok2 : (mm_dec m pc .lreturn 1 && decide (mm_rt m = some .long)) = true := hok
  simp only [Bool.and_eq_true, decide_eq_true_eq] at hok2
  match st, hF with
  | [.long z], hF =>
    have k : Q (.inl (some (.long z))) h := hF
    have hn0 := (hQ.2.2 _ _ k)
    have hc : cells + n0 = mm_n h := hc
    have hs : slots + w0 = mm_w h := hs
    refine W.widen (k := R.cells) (n := R.slots) (by omega) (by omega) ?_
    refine vx_ret ?_
    exact W.lret hx hb (hrt.trans hok2.2) (fun t ht hW => hQ.1 _ _ k t (by rw [ht]; exact hR) (hS.F ht) hW.alike) hS.2.2 (mm_dec_ok hok2.1)
theorem mm_z76 {m pc : Nat} {x : Int32} {ax : List Nat} {r : List mm_Op} {L : mm_L} {st : List Value} {h : mm_H} {Q : mm_Q} (hF : mm_F (mm_PP l D base b sc) (m, (pc, 76, x, ax) :: r, L, st, h) Q) : mm_W l D base b sc (m, (pc, 76, x, ax) :: r, L, st, h) Q := by
  intro p e R s0 M args below meth c Qc XC n0 w0 H locs cells slots ls C hQ hv hR hS hL hn hc hs
  obtain ⟨⟨hx, hb, hrt, hlk, hml, hown⟩, hxt, hts, hnm, hEF, hm, hfr, hlo⟩ := id C
  obtain ⟨hok, hnx⟩ := mm_vl_c hv
  match st, hF with
  | .int y :: .int z :: st, hF =>
    have k : mm_PP l D base b sc (m, r, L, .int (z >>> (y &&& 31)) :: st, h) Q := hF
    have k2 := k.2 p e R s0 M args below meth c Qc XC n0 w0 H locs cells slots ls C hQ (hnx rfl).2 hR hS hL hn hc hs
    rw [show mm_hd r = pc + 1 from (hnx rfl).1] at k2
    exact lv_ishr hx hb (mm_dec_ok hok) k2
theorem mm_z77 {m pc : Nat} {x : Int32} {ax : List Nat} {r : List mm_Op} {L : mm_L} {st : List Value} {h : mm_H} {Q : mm_Q} (hF : mm_F (mm_PP l D base b sc) (m, (pc, 77, x, ax) :: r, L, st, h) Q) : mm_W l D base b sc (m, (pc, 77, x, ax) :: r, L, st, h) Q := by
  intro p e R s0 M args below meth c Qc XC n0 w0 H locs cells slots ls C hQ hv hR hS hL hn hc hs
  obtain ⟨⟨hx, hb, hrt, hlk, hml, hown⟩, hxt, hts, hnm, hEF, hm, hfr, hlo⟩ := id C
  obtain ⟨hok, hnx⟩ := mm_vl_c hv
  have k : mm_PP l D base b sc (m, r, L, .long (mm_LC (mm_a ax 0)) :: st, h) Q := hF
  have k2 := k.2 p e R s0 M args below meth c Qc XC n0 w0 H locs cells slots ls C hQ (hnx rfl).2 hR hS hL hn hc hs
  have hl1 : mm_hd r = pc + 3 := (hnx rfl).1
  have hok : (mm_dec m pc (.ldc2_w (mm_a ax 1)) 3 && mm_wL (mm_a ax 2) (.constantLong (mm_cls m) (mm_a ax 1) (mm_LC (mm_a ax 0)))) = true := hok
  rw [hl1] at k2
  simp only [Bool.and_eq_true] at hok
  exact lv_ldc2 hx hb hown (hts _ (mm_wk_in hok.2)) (mm_dec_ok hok.1) k2
theorem mm_z78 {m pc : Nat} {x : Int32} {ax : List Nat} {r : List mm_Op} {L : mm_L} {st : List Value} {h : mm_H} {Q : mm_Q} (hF : mm_F (mm_PP l D base b sc) (m, (pc, 78, x, ax) :: r, L, st, h) Q) : mm_W l D base b sc (m, (pc, 78, x, ax) :: r, L, st, h) Q := by
  intro p e R s0 M args below meth c Qc XC n0 w0 H locs cells slots ls C hQ hv hR hS hL hn hc hs
  obtain ⟨⟨hx, hb, hrt, hlk, hml, hown⟩, hxt, hts, hnm, hEF, hm, hfr, hlo⟩ := id C
  obtain ⟨hok, hnx⟩ := mm_vl_c hv
  have k : mm_PP l D base b sc (m, r, L, .int x :: st, h) Q := hF
  have k2 := k.2 p e R s0 M args below meth c Qc XC n0 w0 H locs cells slots ls C hQ (hnx rfl).2 hR hS hL hn hc hs
  have hl1 : mm_hd r = pc + 2 := (hnx rfl).1
  have hok : (mm_dec m pc (.ldc (mm_a ax 0)) 2 && mm_wL (mm_a ax 1) (.constant (mm_cls m) (mm_a ax 0) x)) = true := hok
  rw [hl1] at k2
  simp only [Bool.and_eq_true] at hok
  exact lv_ldc hx hb hown (hts _ (mm_wk_in hok.2)) (mm_dec_ok hok.1) k2
theorem mm_m75 {m : Nat} {x : Int32} {ax : List Nat} {r : List mm_Op} {L : mm_L} {st : List Value} {h : mm_H} : mm_mo h (mm_op m x ax r L st h 75) := by
  simp only [mm_op, mm_go]
  (repeat' split) <;> first | exact True.intro | exact ⟨Nat.le_refl _, Nat.le_refl _⟩ | (refine ⟨?_, ?_⟩ <;> simp only [mm_n, mm_w] <;> omega)
theorem mm_m76 {m : Nat} {x : Int32} {ax : List Nat} {r : List mm_Op} {L : mm_L} {st : List Value} {h : mm_H} : mm_mo h (mm_op m x ax r L st h 76) := by
  simp only [mm_op, mm_go]
  (repeat' split) <;> first | exact True.intro | exact ⟨Nat.le_refl _, Nat.le_refl _⟩ | (refine ⟨?_, ?_⟩ <;> simp only [mm_n, mm_w] <;> omega)
theorem mm_m77 {m : Nat} {x : Int32} {ax : List Nat} {r : List mm_Op} {L : mm_L} {st : List Value} {h : mm_H} : mm_mo h (mm_op m x ax r L st h 77) := by
  simp only [mm_op, mm_go]
  (repeat' split) <;> first | exact True.intro | exact ⟨Nat.le_refl _, Nat.le_refl _⟩ | (refine ⟨?_, ?_⟩ <;> simp only [mm_n, mm_w] <;> omega)
theorem mm_m78 {m : Nat} {x : Int32} {ax : List Nat} {r : List mm_Op} {L : mm_L} {st : List Value} {h : mm_H} : mm_mo h (mm_op m x ax r L st h 78) := by
  simp only [mm_op, mm_go]
  (repeat' split) <;> first | exact True.intro | exact ⟨Nat.le_refl _, Nat.le_refl _⟩ | (refine ⟨?_, ?_⟩ <;> simp only [mm_n, mm_w] <;> omega)
theorem mm_mAll {m : Nat} {x : Int32} {ax : List Nat} {r : List mm_Op} {L : mm_L} {st : List Value} {h : mm_H} (cd : Nat) : mm_mo h (mm_op m x ax r L st h cd) := match cd with
  | 0 => mm_m0
  | 1 => mm_m1
  | 2 => mm_m2
  | 3 => mm_m3
  | 4 => mm_m4
  | 5 => mm_m5
  | 6 => mm_m6
  | 7 => mm_m7
  | 8 => mm_m8
  | 9 => mm_m9
  | 10 => mm_m10
  | 11 => mm_m11
  | 12 => mm_m12
  | 13 => mm_m13
  | 14 => mm_m14
  | 15 => mm_m15
  | 16 => mm_m16
  | 17 => mm_m17
  | 18 => mm_m18
  | 19 => mm_m19
  | 20 => mm_m20
  | 21 => mm_m21
  | 22 => mm_m22
  | 23 => mm_m23
  | 24 => mm_m24
  | 25 => mm_m25
  | 26 => mm_m26
  | 27 => mm_m27
  | 28 => mm_m28
  | 29 => mm_m29
  | 30 => mm_m30
  | 31 => mm_m31
  | 32 => mm_m32
  | 33 => mm_m33
  | 34 => mm_m34
  | 35 => mm_m35
  | 36 => mm_m36
  | 37 => mm_m37
  | 38 => mm_m38
  | 39 => mm_m39
  | 40 => mm_m40
  | 41 => mm_m41
  | 42 => mm_m42
  | 43 => mm_m43
  | 44 => mm_m44
  | 45 => mm_m45
  | 46 => mm_m46
  | 47 => mm_m47
  | 48 => mm_m48
  | 49 => mm_m49
  | 50 => mm_m50
  | 51 => mm_m51
  | 52 => mm_m52
  | 53 => mm_m53
  | 54 => mm_m54
  | 55 => mm_m55
  | 56 => mm_m56
  | 57 => mm_m57
  | 58 => mm_m58
  | 59 => mm_m59
  | 60 => mm_m60
  | 61 => mm_m61
  | 62 => mm_m62
  | 63 => mm_m63
  | 64 => mm_m64
  | 65 => mm_m65
  | 66 => mm_m66
  | 67 => mm_m67
  | 68 => mm_m68
  | 69 => mm_m69
  | 70 => mm_m70
  | 71 => mm_m71
  | 72 => mm_m72
  | 73 => mm_m73
  | 74 => mm_m74
  | 75 => mm_m75
  | 76 => mm_m76
  | 77 => mm_m77
  | 78 => mm_m78
  | n + 79 => True.intro
theorem mm_ex {s : mm_S} {Q : mm_Q} (hF : mm_F (mm_PP l D base b sc) s Q) : ∃ r g, Q r g ∧ mm_n s.2.2.2.2 ≤ mm_n g ∧ mm_w s.2.2.2.2 ≤ mm_w g := by
  obtain ⟨m, ops, L, st, h⟩ := s
  match ops, hF with
  | (pc, cd, x, ax) :: r, hF =>
    have hm : mm_mo h (mm_op m x ax r L st h cd) := mm_mAll cd
    have hF2 := hF
    simp only [mm_F, mm_step] at hF2
    show ∃ r g, Q r g ∧ mm_n h ≤ mm_n g ∧ mm_w h ≤ mm_w g
    generalize mm_op m x ax r L st h cd = q at hm hF2
    match q, hm, hF2 with
    | some (.inl s'), hm, hF2 =>
      obtain ⟨r9, g9, h1, h2, h3⟩ := hF2.1
      have hm : mm_n h ≤ mm_n s'.2.2.2.2 ∧ mm_w h ≤ mm_w s'.2.2.2.2 := hm
      exact ⟨r9, g9, h1, by omega, by omega⟩
    | some (.inr (.inl q)), hm, hF2 =>
      have hm : mm_n h ≤ mm_n q.2 ∧ mm_w h ≤ mm_w q.2 := hm
      exact ⟨q.1, q.2, hF2, hm.1, hm.2⟩
    | some (.inr (.inr q)), hm, hF2 =>
      obtain ⟨a9, g9, h1, h2⟩ := hF2
      obtain ⟨r8, g8, ⟨e1, e2⟩, q1, q2⟩ := h1.1
      obtain ⟨hm1, hm2⟩ := (hm : q.1.2.2.2.2 = h ∧ ∀ a g s, q.2 a g = some s → s.2.2.2.2 = g)
      rw [hm1] at q1 q2
      rw [e2] at q1 q2
      cases hk : q.2 a9 g9 with
      | none =>
        rw [hk] at h2
        exact ⟨a9, g9, h2, q1, q2⟩
      | some s' =>
        rw [hk] at h2
        obtain ⟨r9, g7, h3, h4, h5⟩ := h2.1
        have e3 := hm2 a9 g9 s' hk
        rw [e3] at h4 h5
        exact ⟨r9, g7, h3, by omega, by omega⟩
theorem mm_Wall (hl9 : l.stackTraces = false) {m pc : Nat} {x : Int32} {ax : List Nat} {r : List mm_Op} {L : mm_L} {st : List Value} {h : mm_H} {Q : mm_Q} (cd : Nat) (hC : mm_F (fun s Q => mm_C s Q ∧ mm_PP l D base b sc s Q) (m, (pc, cd, x, ax) :: r, L, st, h) Q) (hF : mm_F (mm_PP l D base b sc) (m, (pc, cd, x, ax) :: r, L, st, h) Q) : mm_W l D base b sc (m, (pc, cd, x, ax) :: r, L, st, h) Q := match cd, hC, hF with
  | 0, _, hF => mm_z0 hF
  | 1, _, hF => mm_z1 hF
  | 2, _, hF => mm_z2 hF
  | 3, _, hF => mm_z3 hF
  | 4, _, hF => mm_z4 hF
  | 5, _, hF => mm_z5 hF
  | 6, _, hF => mm_z6 hF
  | 7, _, hF => mm_z7 hF
  | 8, _, hF => mm_z8 hF
  | 9, _, hF => mm_z9 hF
  | 10, _, hF => mm_z10 hF
  | 11, _, hF => mm_z11 hF
  | 12, _, hF => mm_z12 hF
  | 13, _, hF => mm_z13 hF
  | 14, _, hF => mm_z14 hF
  | 15, _, hF => mm_z15 hF
  | 16, _, hF => mm_z16 hF
  | 17, _, hF => mm_z17 hF
  | 18, _, hF => mm_z18 hF
  | 19, _, hF => mm_z19 hF
  | 20, _, hF => mm_z20 hF
  | 21, _, hF => mm_z21 hF
  | 22, _, hF => mm_z22 hF
  | 23, _, hF => mm_z23 hF
  | 24, _, hF => mm_z24 hF
  | 25, _, hF => mm_z25 hF
  | 26, _, hF => mm_z26 hF
  | 27, _, hF => mm_z27 hF
  | 28, _, hF => mm_z28 hF
  | 29, _, hF => mm_z29 hF
  | 30, _, hF => mm_z30 hF
  | 31, _, hF => mm_z31 hF
  | 32, _, hF => mm_z32 hF
  | 33, _, hF => mm_z33 hF
  | 34, _, hF => mm_z34 hF
  | 35, _, hF => mm_z35 hF
  | 36, _, hF => mm_z36 hF
  | 37, _, hF => mm_z37 hF
  | 38, _, hF => mm_z38 hF
  | 39, _, hF => mm_z39 hF
  | 40, _, hF => mm_z40 hF
  | 41, _, hF => mm_z41 hF
  | 42, _, hF => mm_z42 hF
  | 43, _, hF => mm_z43 hF
  | 44, _, hF => mm_z44 hF
  | 45, _, hF => mm_z45 hF
  | 46, _, hF => mm_z46 hF
  | 47, _, hF => mm_z47 hF
  | 48, _, hF => mm_z48 hF
  | 49, _, hF => mm_z49 hF
  | 50, _, hF => mm_z50 hF
  | 51, _, hF => mm_z51 hF
  | 52, _, hF => mm_z52 hF
  | 53, _, hF => mm_z53 hF
  | 54, _, hF => mm_z54 hF
  | 55, _, hF => mm_z55 hF
  | 56, _, hF => mm_z56 hF
  | 57, _, hF => mm_z57 hF
  | 58, _, hF => mm_z58 hF
  | 59, _, hF => mm_z59 hF
  | 60, _, hF => mm_z60 hF
  | 61, _, hF => mm_z61 hF
  | 62, _, hF => mm_z62 hF
  | 63, _, hF => mm_z63 hF
  | 64, _, hF => mm_z64 hF
  | 65, hC, _ => mm_z65 hC
  | 66, hC, _ => mm_z66 hC
  | 67, hC, _ => mm_z67 hC
  | 68, _, hF => mm_z68 hF
  | 69, hC, _ => mm_z69 hC
  | 70, _, hF => mm_z70 hl9 hF
  | 71, _, hF => mm_z71 hF
  | 72, _, hF => mm_z72 hF
  | 73, _, hF => mm_z73 hF
  | 74, _, hF => mm_z74 hF
  | 75, _, hF => mm_z75 hF
  | 76, _, hF => mm_z76 hF
  | 77, _, hF => mm_z77 hF
  | 78, _, hF => mm_z78 hF
  | n + 79, _, hF => (hF : False).elim
theorem mm_sound (hl9 : l.stackTraces = false) {s : mm_S} {Q : mm_Q} (h : mm_C s Q) : mm_PP l D base b sc s Q := by
  refine mm_C_ind (P := mm_PP l D base b sc) ?_ h
  intro s Q hC
  have hF : mm_F (mm_PP l D base b sc) s Q := mm_F_mono (fun _ _ k => k.2) hC
  refine ⟨mm_ex hF, ?_⟩
  obtain ⟨m, ops, L, st, h⟩ := s
  match ops, hC, hF with
  | (pc, cd, x, ax) :: r, hC, hF => exact mm_Wall hl9 cd hC hF
  | [], hC, hF => exact (hF : False).elim
end MMX
