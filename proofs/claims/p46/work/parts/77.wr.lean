/-! the law's wrappers -/
section XH
variable {sc : Nat × (Nat → Int32)} {I : Nat → Nat → Int32} {o : Int64} {t : Nat} {Q : mm_Q}
theorem w108_ok {v : Int32} {A : Int32} {J : Nat → Nat → Int32} (hc : ∀ Q, mm_C (mm_entry 56 [.ref 0, .int v] (hp sc I o t)) Q ↔ Q (.inl (some (.int A))) (hp sc J o t)) : mm_C (mm_entry 108 [.ref 0, .int v] (hp sc I o t)) Q ↔ Q (.inl (some (.long A.toInt64))) (hp sc J o t) := by
  simp +decide only [mM_108.1, mM_108.2.1, mM_108.2.2.1, mM_108.2.2.2, cR, cH, mm_fixA, hc, ↓reduceIte]
theorem w108_t1 {v : Int32} (hc : ∀ Q, mm_C (mm_entry 56 [.ref 0, .int v] (hp sc I o t)) Q ↔ Q (.inr 1) (hp sc I o (t + 1))) : mm_C (mm_entry 108 [.ref 0, .int v] (hp sc I o t)) Q ↔ Q (.inl (some (.long (mm_LC 1)))) (hp sc I o (t + 1)) := by
  have hh : mm_hnd (List.drop 6 [56, 2, 5, 9, 732, 0, 1, 2, 1, 7, 2, 2, 2, 12]) 1 = some (2, 1) := rfl
  have hk : ∀ x : Option Value, mm_kill [some (.ref 0), some (.int v), x] 2 = [some (.ref 0), some (.int v), none] := fun _ => rfl
  simp +decide only [mM_108.1, mM_108.2.1, mM_108.2.2.1, mM_108.2.2.2, cR, cH, mm_fixA, hc, cK_catch hh, hk, ↓reduceIte]
theorem w108_t2 {v : Int32} (hc : ∀ Q, mm_C (mm_entry 56 [.ref 0, .int v] (hp sc I o t)) Q ↔ Q (.inr 2) (hp sc I o (t + 1))) : mm_C (mm_entry 108 [.ref 0, .int v] (hp sc I o t)) Q ↔ Q (.inl (some (.long (mm_LC 2)))) (hp sc I o (t + 1)) := by
  have hh : mm_hnd (List.drop 6 [56, 2, 5, 9, 732, 0, 1, 2, 1, 7, 2, 2, 2, 12]) 2 = some (2, 2) := rfl
  have hk : ∀ x : Option Value, mm_kill [some (.ref 0), some (.int v), x] 2 = [some (.ref 0), some (.int v), none] := fun _ => rfl
  simp +decide only [mM_108.1, mM_108.2.1, mM_108.2.2.1, mM_108.2.2.2, cR, cH, mm_fixA, hc, cK_catch hh, hk, ↓reduceIte]
theorem w109_ok  {A : Int32} {J : Nat → Nat → Int32} (hc : ∀ Q, mm_C (mm_entry 59 [.ref 0] (hp sc I o t)) Q ↔ Q (.inl (some (.int A))) (hp sc J o t)) : mm_C (mm_entry 109 [.ref 0] (hp sc I o t)) Q ↔ Q (.inl (some (.long A.toInt64))) (hp sc J o t) := by
  simp +decide only [mM_109.1, mM_109.2.1, mM_109.2.2, cR, cH, mm_fixA, hc, ↓reduceIte]
theorem w109_t2  (hc : ∀ Q, mm_C (mm_entry 59 [.ref 0] (hp sc I o t)) Q ↔ Q (.inr 2) (hp sc I o (t + 1))) : mm_C (mm_entry 109 [.ref 0] (hp sc I o t)) Q ↔ Q (.inl (some (.long (mm_LC 2)))) (hp sc I o (t + 1)) := by
  have hh : mm_hnd (List.drop 6 [59, 1, 5, 23, 210, 0, 2, 1, 1, 6]) 2 = some (1, 1) := rfl
  have hk : ∀ x : Option Value, mm_kill [some (.ref 0), x] 1 = [some (.ref 0), none] := fun _ => rfl
  simp +decide only [mM_109.1, mM_109.2.1, mM_109.2.2, cR, cH, mm_fixA, hc, cK_catch hh, hk, ↓reduceIte]
theorem w110_ok {v : Int32} {A : Int32} {J : Nat → Nat → Int32} (hc : ∀ Q, mm_C (mm_entry 61 [.ref 0, .int v] (hp sc I o t)) Q ↔ Q (.inl (some (.int A))) (hp sc J o t)) : mm_C (mm_entry 110 [.ref 0, .int v] (hp sc I o t)) Q ↔ Q (.inl (some (.long A.toInt64))) (hp sc J o t) := by
  simp +decide only [mM_110.1, mM_110.2.1, mM_110.2.2, cR, cH, mm_fixA, hc, ↓reduceIte]
theorem w110_t0 {v : Int32} (hc : ∀ Q, mm_C (mm_entry 61 [.ref 0, .int v] (hp sc I o t)) Q ↔ Q (.inr 0) (hp sc I o (t + 1))) : mm_C (mm_entry 110 [.ref 0, .int v] (hp sc I o t)) Q ↔ Q (.inl (some (.long (mm_LC 0)))) (hp sc I o (t + 1)) := by
  have hh : mm_hnd (List.drop 6 [61, 2, 5, 27, 508, 0, 0, 2, 1, 7]) 0 = some (2, 1) := rfl
  have hk : ∀ x : Option Value, mm_kill [some (.ref 0), some (.int v), x] 2 = [some (.ref 0), some (.int v), none] := fun _ => rfl
  simp +decide only [mM_110.1, mM_110.2.1, mM_110.2.2, cR, cH, mm_fixA, hc, cK_catch hh, hk, ↓reduceIte]
theorem w111_ok {v : Int32} {A : Int32} {J : Nat → Nat → Int32} (hc : ∀ Q, mm_C (mm_entry 62 [.ref 0, .int v] (hp sc I o t)) Q ↔ Q (.inl (some (.int A))) (hp sc J o t)) : mm_C (mm_entry 111 [.ref 0, .int v] (hp sc I o t)) Q ↔ Q (.inl (some (.long A.toInt64))) (hp sc J o t) := by
  simp +decide only [mM_111.1, mM_111.2.1, mM_111.2.2, cR, cH, mm_fixA, hc, ↓reduceIte]
theorem w111_t0 {v : Int32} (hc : ∀ Q, mm_C (mm_entry 62 [.ref 0, .int v] (hp sc I o t)) Q ↔ Q (.inr 0) (hp sc I o (t + 1))) : mm_C (mm_entry 111 [.ref 0, .int v] (hp sc I o t)) Q ↔ Q (.inl (some (.long (mm_LC 0)))) (hp sc I o (t + 1)) := by
  have hh : mm_hnd (List.drop 6 [62, 2, 5, 34, 520, 0, 0, 2, 1, 7]) 0 = some (2, 1) := rfl
  have hk : ∀ x : Option Value, mm_kill [some (.ref 0), some (.int v), x] 2 = [some (.ref 0), some (.int v), none] := fun _ => rfl
  simp +decide only [mM_111.1, mM_111.2.1, mM_111.2.2, cR, cH, mm_fixA, hc, cK_catch hh, hk, ↓reduceIte]
theorem w112_ok {v : Int32} {A : Int32} {J : Nat → Nat → Int32} (hc : ∀ Q, mm_C (mm_entry 63 [.ref 0, .int v] (hp sc I o t)) Q ↔ Q (.inl (some (.int A))) (hp sc J o t)) : mm_C (mm_entry 112 [.ref 0, .int v] (hp sc I o t)) Q ↔ Q (.inl (some (.long A.toInt64))) (hp sc J o t) := by
  simp +decide only [mM_112.1, mM_112.2.1, mM_112.2.2, cR, cH, mm_fixA, hc, ↓reduceIte]
theorem w112_t0 {v : Int32} (hc : ∀ Q, mm_C (mm_entry 63 [.ref 0, .int v] (hp sc I o t)) Q ↔ Q (.inr 0) (hp sc I o (t + 1))) : mm_C (mm_entry 112 [.ref 0, .int v] (hp sc I o t)) Q ↔ Q (.inl (some (.long (mm_LC 0)))) (hp sc I o (t + 1)) := by
  have hh : mm_hnd (List.drop 6 [63, 2, 5, 37, 528, 0, 0, 2, 1, 7]) 0 = some (2, 1) := rfl
  have hk : ∀ x : Option Value, mm_kill [some (.ref 0), some (.int v), x] 2 = [some (.ref 0), some (.int v), none] := fun _ => rfl
  simp +decide only [mM_112.1, mM_112.2.1, mM_112.2.2, cR, cH, mm_fixA, hc, cK_catch hh, hk, ↓reduceIte]
theorem w113_ok0 {v : Int32} {J : Nat → Nat → Int32} (hc : ∀ Q, mm_C (mm_entry 64 [.ref 0, .int v] (hp sc I o t)) Q ↔ Q (.inl (some (.int 0))) (hp sc J o t)) : mm_C (mm_entry 113 [.ref 0, .int v] (hp sc I o t)) Q ↔ Q (.inl (some (.long (Int64.ofNat 0)))) (hp sc J o t) := by
  simp +decide only [mM_113.1, mM_113.2.1, mM_113.2.2.1, mM_113.2.2.2.1, mM_113.2.2.2.2, cR, cH, mm_fixA, hc, ↓reduceIte]
theorem w113_ok1 {v : Int32} {J : Nat → Nat → Int32} (hc : ∀ Q, mm_C (mm_entry 64 [.ref 0, .int v] (hp sc I o t)) Q ↔ Q (.inl (some (.int 1))) (hp sc J o t)) : mm_C (mm_entry 113 [.ref 0, .int v] (hp sc I o t)) Q ↔ Q (.inl (some (.long (Int64.ofNat 1)))) (hp sc J o t) := by
  simp +decide only [mM_113.1, mM_113.2.1, mM_113.2.2.1, mM_113.2.2.2.1, mM_113.2.2.2.2, cR, cH, mm_fixA, hc, ↓reduceIte]
theorem w113_t0 {v : Int32} (hc : ∀ Q, mm_C (mm_entry 64 [.ref 0, .int v] (hp sc I o t)) Q ↔ Q (.inr 0) (hp sc I o (t + 1))) : mm_C (mm_entry 113 [.ref 0, .int v] (hp sc I o t)) Q ↔ Q (.inl (some (.long (mm_LC 0)))) (hp sc I o (t + 1)) := by
  have hh : mm_hnd (List.drop 6 [64, 2, 5, 40, 574, 0, 0, 2, 3, 14]) 0 = some (2, 3) := rfl
  have hk : ∀ x : Option Value, mm_kill [some (.ref 0), some (.int v), x] 2 = [some (.ref 0), some (.int v), none] := fun _ => rfl
  simp +decide only [mM_113.1, mM_113.2.1, mM_113.2.2.1, mM_113.2.2.2.1, mM_113.2.2.2.2, cR, cH, mm_fixA, hc, cK_catch hh, hk, ↓reduceIte]
theorem w114_ok0 {v : Int32} {J : Nat → Nat → Int32} (hc : ∀ Q, mm_C (mm_entry 69 [.ref 0, .int v] (hp sc I o t)) Q ↔ Q (.inl (some (.int 0))) (hp sc J o t)) : mm_C (mm_entry 114 [.ref 0, .int v] (hp sc I o t)) Q ↔ Q (.inl (some (.long (Int64.ofNat 0)))) (hp sc J o t) := by
  simp +decide only [mM_114.1, mM_114.2.1, mM_114.2.2.1, mM_114.2.2.2.1, mM_114.2.2.2.2, cR, cH, mm_fixA, hc, ↓reduceIte]
theorem w114_ok1 {v : Int32} {J : Nat → Nat → Int32} (hc : ∀ Q, mm_C (mm_entry 69 [.ref 0, .int v] (hp sc I o t)) Q ↔ Q (.inl (some (.int 1))) (hp sc J o t)) : mm_C (mm_entry 114 [.ref 0, .int v] (hp sc I o t)) Q ↔ Q (.inl (some (.long (Int64.ofNat 1)))) (hp sc J o t) := by
  simp +decide only [mM_114.1, mM_114.2.1, mM_114.2.2.1, mM_114.2.2.2.1, mM_114.2.2.2.2, cR, cH, mm_fixA, hc, ↓reduceIte]
theorem w114_t0 {v : Int32} (hc : ∀ Q, mm_C (mm_entry 69 [.ref 0, .int v] (hp sc I o t)) Q ↔ Q (.inr 0) (hp sc I o (t + 1))) : mm_C (mm_entry 114 [.ref 0, .int v] (hp sc I o t)) Q ↔ Q (.inl (some (.long (mm_LC 0)))) (hp sc I o (t + 1)) := by
  have hh : mm_hnd (List.drop 6 [69, 2, 5, 44, 535, 0, 0, 2, 3, 14]) 0 = some (2, 3) := rfl
  have hk : ∀ x : Option Value, mm_kill [some (.ref 0), some (.int v), x] 2 = [some (.ref 0), some (.int v), none] := fun _ => rfl
  simp +decide only [mM_114.1, mM_114.2.1, mM_114.2.2.1, mM_114.2.2.2.1, mM_114.2.2.2.2, cR, cH, mm_fixA, hc, cK_catch hh, hk, ↓reduceIte]
theorem w115_ok {v : Int32} {A : Int32} {J : Nat → Nat → Int32} (hc : ∀ Q, mm_C (mm_entry 70 [.ref 0, .int v] (hp sc I o t)) Q ↔ Q (.inl (some (.int A))) (hp sc J o t)) : mm_C (mm_entry 115 [.ref 0, .int v] (hp sc I o t)) Q ↔ Q (.inl (some (.long A.toInt64))) (hp sc J o t) := by
  simp +decide only [mM_115.1, mM_115.2.1, mM_115.2.2, cR, cH, mm_fixA, hc, ↓reduceIte]
theorem w115_t0 {v : Int32} (hc : ∀ Q, mm_C (mm_entry 70 [.ref 0, .int v] (hp sc I o t)) Q ↔ Q (.inr 0) (hp sc I o (t + 1))) : mm_C (mm_entry 115 [.ref 0, .int v] (hp sc I o t)) Q ↔ Q (.inl (some (.long (mm_LC 0)))) (hp sc I o (t + 1)) := by
  have hh : mm_hnd (List.drop 6 [70, 2, 5, 47, 582, 0, 0, 2, 1, 7]) 0 = some (2, 1) := rfl
  have hk : ∀ x : Option Value, mm_kill [some (.ref 0), some (.int v), x] 2 = [some (.ref 0), some (.int v), none] := fun _ => rfl
  simp +decide only [mM_115.1, mM_115.2.1, mM_115.2.2, cR, cH, mm_fixA, hc, cK_catch hh, hk, ↓reduceIte]
theorem w116_ok {v : Int32} {w : Int32} {A : Int32} {J : Nat → Nat → Int32} (hc : ∀ Q, mm_C (mm_entry 81 [.ref 0, .int v, .int w] (hp sc I o t)) Q ↔ Q (.inl (some (.int A))) (hp sc J o t)) : mm_C (mm_entry 116 [.ref 0, .int v, .int w] (hp sc I o t)) Q ↔ Q (.inl (some (.long A.toInt64))) (hp sc J o t) := by
  simp +decide only [mM_116.1, mM_116.2.1, mM_116.2.2.1, mM_116.2.2.2.1, mM_116.2.2.2.2, cR, cH, mm_fixA, hc, ↓reduceIte]
theorem w116_t0 {v : Int32} {w : Int32} (hc : ∀ Q, mm_C (mm_entry 81 [.ref 0, .int v, .int w] (hp sc I o t)) Q ↔ Q (.inr 0) (hp sc I o (t + 1))) : mm_C (mm_entry 116 [.ref 0, .int v, .int w] (hp sc I o t)) Q ↔ Q (.inl (some (.long (mm_LC 0)))) (hp sc I o (t + 1)) := by
  have hh : mm_hnd (List.drop 6 [81, 3, 5, 50, 591, 0, 0, 3, 1, 8, 1, 3, 2, 13, 2, 3, 3, 18]) 0 = some (3, 1) := rfl
  have hk : ∀ x : Option Value, mm_kill [some (.ref 0), some (.int v), some (.int w), x] 3 = [some (.ref 0), some (.int v), some (.int w), none] := fun _ => rfl
  simp +decide only [mM_116.1, mM_116.2.1, mM_116.2.2.1, mM_116.2.2.2.1, mM_116.2.2.2.2, cR, cH, mm_fixA, hc, cK_catch hh, hk, ↓reduceIte]
theorem w116_t1 {v : Int32} {w : Int32} (hc : ∀ Q, mm_C (mm_entry 81 [.ref 0, .int v, .int w] (hp sc I o t)) Q ↔ Q (.inr 1) (hp sc I o (t + 1))) : mm_C (mm_entry 116 [.ref 0, .int v, .int w] (hp sc I o t)) Q ↔ Q (.inl (some (.long (mm_LC 1)))) (hp sc I o (t + 1)) := by
  have hh : mm_hnd (List.drop 6 [81, 3, 5, 50, 591, 0, 0, 3, 1, 8, 1, 3, 2, 13, 2, 3, 3, 18]) 1 = some (3, 2) := rfl
  have hk : ∀ x : Option Value, mm_kill [some (.ref 0), some (.int v), some (.int w), x] 3 = [some (.ref 0), some (.int v), some (.int w), none] := fun _ => rfl
  simp +decide only [mM_116.1, mM_116.2.1, mM_116.2.2.1, mM_116.2.2.2.1, mM_116.2.2.2.2, cR, cH, mm_fixA, hc, cK_catch hh, hk, ↓reduceIte]
theorem w116_t2 {v : Int32} {w : Int32} (hc : ∀ Q, mm_C (mm_entry 81 [.ref 0, .int v, .int w] (hp sc I o t)) Q ↔ Q (.inr 2) (hp sc I o (t + 1))) : mm_C (mm_entry 116 [.ref 0, .int v, .int w] (hp sc I o t)) Q ↔ Q (.inl (some (.long (mm_LC 2)))) (hp sc I o (t + 1)) := by
  have hh : mm_hnd (List.drop 6 [81, 3, 5, 50, 591, 0, 0, 3, 1, 8, 1, 3, 2, 13, 2, 3, 3, 18]) 2 = some (3, 3) := rfl
  have hk : ∀ x : Option Value, mm_kill [some (.ref 0), some (.int v), some (.int w), x] 3 = [some (.ref 0), some (.int v), some (.int w), none] := fun _ => rfl
  simp +decide only [mM_116.1, mM_116.2.1, mM_116.2.2.1, mM_116.2.2.2.1, mM_116.2.2.2.2, cR, cH, mm_fixA, hc, cK_catch hh, hk, ↓reduceIte]
theorem w117_ok {v : Int32} {A : Int32} {J : Nat → Nat → Int32} (hc : ∀ Q, mm_C (mm_entry 82 [.ref 0, .int v] (hp sc I o t)) Q ↔ Q (.inl (some (.int A))) (hp sc J o t)) : mm_C (mm_entry 117 [.ref 0, .int v] (hp sc I o t)) Q ↔ Q (.inl (some (.long A.toInt64))) (hp sc J o t) := by
  simp +decide only [mM_117.1, mM_117.2.1, mM_117.2.2.1, mM_117.2.2.2, cR, cH, mm_fixA, hc, ↓reduceIte]
theorem w117_t0 {v : Int32} (hc : ∀ Q, mm_C (mm_entry 82 [.ref 0, .int v] (hp sc I o t)) Q ↔ Q (.inr 0) (hp sc I o (t + 1))) : mm_C (mm_entry 117 [.ref 0, .int v] (hp sc I o t)) Q ↔ Q (.inl (some (.long (mm_LC 0)))) (hp sc I o (t + 1)) := by
  have hh : mm_hnd (List.drop 6 [82, 2, 5, 54, 630, 0, 0, 2, 1, 7, 2, 2, 2, 12]) 0 = some (2, 1) := rfl
  have hk : ∀ x : Option Value, mm_kill [some (.ref 0), some (.int v), x] 2 = [some (.ref 0), some (.int v), none] := fun _ => rfl
  simp +decide only [mM_117.1, mM_117.2.1, mM_117.2.2.1, mM_117.2.2.2, cR, cH, mm_fixA, hc, cK_catch hh, hk, ↓reduceIte]
theorem w117_t2 {v : Int32} (hc : ∀ Q, mm_C (mm_entry 82 [.ref 0, .int v] (hp sc I o t)) Q ↔ Q (.inr 2) (hp sc I o (t + 1))) : mm_C (mm_entry 117 [.ref 0, .int v] (hp sc I o t)) Q ↔ Q (.inl (some (.long (mm_LC 2)))) (hp sc I o (t + 1)) := by
  have hh : mm_hnd (List.drop 6 [82, 2, 5, 54, 630, 0, 0, 2, 1, 7, 2, 2, 2, 12]) 2 = some (2, 2) := rfl
  have hk : ∀ x : Option Value, mm_kill [some (.ref 0), some (.int v), x] 2 = [some (.ref 0), some (.int v), none] := fun _ => rfl
  simp +decide only [mM_117.1, mM_117.2.1, mM_117.2.2.1, mM_117.2.2.2, cR, cH, mm_fixA, hc, cK_catch hh, hk, ↓reduceIte]
theorem w118_ok {v : Int32} {w : Int32} {A : Int32} {J : Nat → Nat → Int32} (hc : ∀ Q, mm_C (mm_entry 84 [.ref 0, .int v, .int w] (hp sc I o t)) Q ↔ Q (.inl (some (.int A))) (hp sc J o t)) : mm_C (mm_entry 118 [.ref 0, .int v, .int w] (hp sc I o t)) Q ↔ Q (.inl (some (.long A.toInt64))) (hp sc J o t) := by
  simp +decide only [mM_118.1, mM_118.2.1, mM_118.2.2, cR, cH, mm_fixA, hc, ↓reduceIte]
theorem w118_t1 {v : Int32} {w : Int32} (hc : ∀ Q, mm_C (mm_entry 84 [.ref 0, .int v, .int w] (hp sc I o t)) Q ↔ Q (.inr 1) (hp sc I o (t + 1))) : mm_C (mm_entry 118 [.ref 0, .int v, .int w] (hp sc I o t)) Q ↔ Q (.inl (some (.long (mm_LC 1)))) (hp sc I o (t + 1)) := by
  have hh : mm_hnd (List.drop 6 [84, 3, 5, 57, 639, 0, 1, 3, 1, 8]) 1 = some (3, 1) := rfl
  have hk : ∀ x : Option Value, mm_kill [some (.ref 0), some (.int v), some (.int w), x] 3 = [some (.ref 0), some (.int v), some (.int w), none] := fun _ => rfl
  simp +decide only [mM_118.1, mM_118.2.1, mM_118.2.2, cR, cH, mm_fixA, hc, cK_catch hh, hk, ↓reduceIte]
theorem w119_ok {v : Int32} {w : Int32} {A : Int32} {J : Nat → Nat → Int32} (hc : ∀ Q, mm_C (mm_entry 85 [.ref 0, .int v, .int w] (hp sc I o t)) Q ↔ Q (.inl (some (.int A))) (hp sc J o t)) : mm_C (mm_entry 119 [.ref 0, .int v, .int w] (hp sc I o t)) Q ↔ Q (.inl (some (.long A.toInt64))) (hp sc J o t) := by
  simp +decide only [mM_119.1, mM_119.2.1, mM_119.2.2, cR, cH, mm_fixA, hc, ↓reduceIte]
theorem w119_t1 {v : Int32} {w : Int32} (hc : ∀ Q, mm_C (mm_entry 85 [.ref 0, .int v, .int w] (hp sc I o t)) Q ↔ Q (.inr 1) (hp sc I o (t + 1))) : mm_C (mm_entry 119 [.ref 0, .int v, .int w] (hp sc I o t)) Q ↔ Q (.inl (some (.long (mm_LC 1)))) (hp sc I o (t + 1)) := by
  have hh : mm_hnd (List.drop 6 [85, 3, 5, 60, 646, 0, 1, 3, 1, 8]) 1 = some (3, 1) := rfl
  have hk : ∀ x : Option Value, mm_kill [some (.ref 0), some (.int v), some (.int w), x] 3 = [some (.ref 0), some (.int v), some (.int w), none] := fun _ => rfl
  simp +decide only [mM_119.1, mM_119.2.1, mM_119.2.2, cR, cH, mm_fixA, hc, cK_catch hh, hk, ↓reduceIte]
theorem w120_ok {v : Int32} {A : Int32} {J : Nat → Nat → Int32} (hc : ∀ Q, mm_C (mm_entry 86 [.ref 0, .int v] (hp sc I o t)) Q ↔ Q (.inl (some (.int A))) (hp sc J o t)) : mm_C (mm_entry 120 [.ref 0, .int v] (hp sc I o t)) Q ↔ Q (.inl (some (.long A.toInt64))) (hp sc J o t) := by
  simp +decide only [mM_120.1, mM_120.2.1, mM_120.2.2, cR, cH, mm_fixA, hc, ↓reduceIte]
theorem w120_t1 {v : Int32} (hc : ∀ Q, mm_C (mm_entry 86 [.ref 0, .int v] (hp sc I o t)) Q ↔ Q (.inr 1) (hp sc I o (t + 1))) : mm_C (mm_entry 120 [.ref 0, .int v] (hp sc I o t)) Q ↔ Q (.inl (some (.long (mm_LC 1)))) (hp sc I o (t + 1)) := by
  have hh : mm_hnd (List.drop 6 [86, 2, 5, 63, 653, 0, 1, 2, 1, 7]) 1 = some (2, 1) := rfl
  have hk : ∀ x : Option Value, mm_kill [some (.ref 0), some (.int v), x] 2 = [some (.ref 0), some (.int v), none] := fun _ => rfl
  simp +decide only [mM_120.1, mM_120.2.1, mM_120.2.2, cR, cH, mm_fixA, hc, cK_catch hh, hk, ↓reduceIte]
theorem w121_ok {v : Int32} {A : Int32} {J : Nat → Nat → Int32} (hc : ∀ Q, mm_C (mm_entry 88 [.ref 0, .int v] (hp sc I o t)) Q ↔ Q (.inl (some (.int A))) (hp sc J o t)) : mm_C (mm_entry 121 [.ref 0, .int v] (hp sc I o t)) Q ↔ Q (.inl (some (.long A.toInt64))) (hp sc J o t) := by
  simp +decide only [mM_121.1, mM_121.2.1, mM_121.2.2, cR, cH, mm_fixA, hc, ↓reduceIte]
theorem w121_t1 {v : Int32} (hc : ∀ Q, mm_C (mm_entry 88 [.ref 0, .int v] (hp sc I o t)) Q ↔ Q (.inr 1) (hp sc I o (t + 1))) : mm_C (mm_entry 121 [.ref 0, .int v] (hp sc I o t)) Q ↔ Q (.inl (some (.long (mm_LC 1)))) (hp sc I o (t + 1)) := by
  have hh : mm_hnd (List.drop 6 [88, 2, 5, 66, 660, 0, 1, 2, 1, 7]) 1 = some (2, 1) := rfl
  have hk : ∀ x : Option Value, mm_kill [some (.ref 0), some (.int v), x] 2 = [some (.ref 0), some (.int v), none] := fun _ => rfl
  simp +decide only [mM_121.1, mM_121.2.1, mM_121.2.2, cR, cH, mm_fixA, hc, cK_catch hh, hk, ↓reduceIte]
theorem w122_ok  {A : Int32} {J : Nat → Nat → Int32} (hc : ∀ Q, mm_C (mm_entry 89 [.ref 0] (hp sc I o t)) Q ↔ Q (.inl (some (.int A))) (hp sc J o t)) : mm_C (mm_entry 122 [.ref 0] (hp sc I o t)) Q ↔ Q (.inl (some (.long A.toInt64))) (hp sc J o t) := by
  simp +decide only [mM_122.1, mM_122.2.1, mM_122.2.2, cR, cH, mm_fixA, hc, ↓reduceIte]
theorem w122_t2  (hc : ∀ Q, mm_C (mm_entry 89 [.ref 0] (hp sc I o t)) Q ↔ Q (.inr 2) (hp sc I o (t + 1))) : mm_C (mm_entry 122 [.ref 0] (hp sc I o t)) Q ↔ Q (.inl (some (.long (mm_LC 2)))) (hp sc I o (t + 1)) := by
  have hh : mm_hnd (List.drop 6 [89, 1, 5, 69, 804, 0, 2, 1, 1, 6]) 2 = some (1, 1) := rfl
  have hk : ∀ x : Option Value, mm_kill [some (.ref 0), x] 1 = [some (.ref 0), none] := fun _ => rfl
  simp +decide only [mM_122.1, mM_122.2.1, mM_122.2.2, cR, cH, mm_fixA, hc, cK_catch hh, hk, ↓reduceIte]
theorem w123_ok {v : Int32} {A : Int32} {J : Nat → Nat → Int32} (hc : ∀ Q, mm_C (mm_entry 90 [.ref 0, .int v] (hp sc I o t)) Q ↔ Q (.inl (some (.int A))) (hp sc J o t)) : mm_C (mm_entry 123 [.ref 0, .int v] (hp sc I o t)) Q ↔ Q (.inl (some (.long A.toInt64))) (hp sc J o t) := by
  simp +decide only [mM_123.1, mM_123.2.1, mM_123.2.2.1, mM_123.2.2.2, cR, cH, mm_fixA, hc, ↓reduceIte]
theorem w123_t0 {v : Int32} (hc : ∀ Q, mm_C (mm_entry 90 [.ref 0, .int v] (hp sc I o t)) Q ↔ Q (.inr 0) (hp sc I o (t + 1))) : mm_C (mm_entry 123 [.ref 0, .int v] (hp sc I o t)) Q ↔ Q (.inl (some (.long (mm_LC 0)))) (hp sc I o (t + 1)) := by
  have hh : mm_hnd (List.drop 6 [90, 2, 5, 72, 667, 0, 0, 2, 1, 7, 2, 2, 2, 12]) 0 = some (2, 1) := rfl
  have hk : ∀ x : Option Value, mm_kill [some (.ref 0), some (.int v), x] 2 = [some (.ref 0), some (.int v), none] := fun _ => rfl
  simp +decide only [mM_123.1, mM_123.2.1, mM_123.2.2.1, mM_123.2.2.2, cR, cH, mm_fixA, hc, cK_catch hh, hk, ↓reduceIte]
theorem w123_t2 {v : Int32} (hc : ∀ Q, mm_C (mm_entry 90 [.ref 0, .int v] (hp sc I o t)) Q ↔ Q (.inr 2) (hp sc I o (t + 1))) : mm_C (mm_entry 123 [.ref 0, .int v] (hp sc I o t)) Q ↔ Q (.inl (some (.long (mm_LC 2)))) (hp sc I o (t + 1)) := by
  have hh : mm_hnd (List.drop 6 [90, 2, 5, 72, 667, 0, 0, 2, 1, 7, 2, 2, 2, 12]) 2 = some (2, 2) := rfl
  have hk : ∀ x : Option Value, mm_kill [some (.ref 0), some (.int v), x] 2 = [some (.ref 0), some (.int v), none] := fun _ => rfl
  simp +decide only [mM_123.1, mM_123.2.1, mM_123.2.2.1, mM_123.2.2.2, cR, cH, mm_fixA, hc, cK_catch hh, hk, ↓reduceIte]
theorem w124_ok {v : Int32} {A : Int32} {J : Nat → Nat → Int32} (hc : ∀ Q, mm_C (mm_entry 91 [.ref 0, .int v] (hp sc I o t)) Q ↔ Q (.inl (some (.int A))) (hp sc J o t)) : mm_C (mm_entry 124 [.ref 0, .int v] (hp sc I o t)) Q ↔ Q (.inl (some (.long A.toInt64))) (hp sc J o t) := by
  simp +decide only [mM_124.1, mM_124.2.1, mM_124.2.2, cR, cH, mm_fixA, hc, ↓reduceIte]
theorem w124_t0 {v : Int32} (hc : ∀ Q, mm_C (mm_entry 91 [.ref 0, .int v] (hp sc I o t)) Q ↔ Q (.inr 0) (hp sc I o (t + 1))) : mm_C (mm_entry 124 [.ref 0, .int v] (hp sc I o t)) Q ↔ Q (.inl (some (.long (mm_LC 0)))) (hp sc I o (t + 1)) := by
  have hh : mm_hnd (List.drop 6 [91, 2, 5, 75, 676, 0, 0, 2, 1, 7]) 0 = some (2, 1) := rfl
  have hk : ∀ x : Option Value, mm_kill [some (.ref 0), some (.int v), x] 2 = [some (.ref 0), some (.int v), none] := fun _ => rfl
  simp +decide only [mM_124.1, mM_124.2.1, mM_124.2.2, cR, cH, mm_fixA, hc, cK_catch hh, hk, ↓reduceIte]
theorem w125_ok {v : Int32} {A : Int32} {J : Nat → Nat → Int32} (hc : ∀ Q, mm_C (mm_entry 93 [.ref 0, .int v] (hp sc I o t)) Q ↔ Q (.inl (some (.int A))) (hp sc J o t)) : mm_C (mm_entry 125 [.ref 0, .int v] (hp sc I o t)) Q ↔ Q (.inl (some (.long A.toInt64))) (hp sc J o t) := by
  simp +decide only [mM_125.1, mM_125.2.1, mM_125.2.2, cR, cH, mm_fixA, hc, ↓reduceIte]
theorem w125_t0 {v : Int32} (hc : ∀ Q, mm_C (mm_entry 93 [.ref 0, .int v] (hp sc I o t)) Q ↔ Q (.inr 0) (hp sc I o (t + 1))) : mm_C (mm_entry 125 [.ref 0, .int v] (hp sc I o t)) Q ↔ Q (.inl (some (.long (mm_LC 0)))) (hp sc I o (t + 1)) := by
  have hh : mm_hnd (List.drop 6 [93, 2, 5, 78, 683, 0, 0, 2, 1, 7]) 0 = some (2, 1) := rfl
  have hk : ∀ x : Option Value, mm_kill [some (.ref 0), some (.int v), x] 2 = [some (.ref 0), some (.int v), none] := fun _ => rfl
  simp +decide only [mM_125.1, mM_125.2.1, mM_125.2.2, cR, cH, mm_fixA, hc, cK_catch hh, hk, ↓reduceIte]
theorem w126_ok {v : Int32} {A : Int32} {J : Nat → Nat → Int32} (hc : ∀ Q, mm_C (mm_entry 94 [.ref 0, .int v] (hp sc I o t)) Q ↔ Q (.inl (some (.int A))) (hp sc J o t)) : mm_C (mm_entry 126 [.ref 0, .int v] (hp sc I o t)) Q ↔ Q (.inl (some (.long A.toInt64))) (hp sc J o t) := by
  simp +decide only [mM_126.1, mM_126.2.1, mM_126.2.2, cR, cH, mm_fixA, hc, ↓reduceIte]
theorem w126_t0 {v : Int32} (hc : ∀ Q, mm_C (mm_entry 94 [.ref 0, .int v] (hp sc I o t)) Q ↔ Q (.inr 0) (hp sc I o (t + 1))) : mm_C (mm_entry 126 [.ref 0, .int v] (hp sc I o t)) Q ↔ Q (.inl (some (.long (mm_LC 0)))) (hp sc I o (t + 1)) := by
  have hh : mm_hnd (List.drop 6 [94, 2, 5, 81, 693, 0, 0, 2, 1, 7]) 0 = some (2, 1) := rfl
  have hk : ∀ x : Option Value, mm_kill [some (.ref 0), some (.int v), x] 2 = [some (.ref 0), some (.int v), none] := fun _ => rfl
  simp +decide only [mM_126.1, mM_126.2.1, mM_126.2.2, cR, cH, mm_fixA, hc, cK_catch hh, hk, ↓reduceIte]
theorem w127_ok {v : Int32} {A : Int32} {J : Nat → Nat → Int32} (hc : ∀ Q, mm_C (mm_entry 95 [.ref 0, .int v] (hp sc I o t)) Q ↔ Q (.inl (some (.int A))) (hp sc J o t)) : mm_C (mm_entry 127 [.ref 0, .int v] (hp sc I o t)) Q ↔ Q (.inl (some (.long A.toInt64))) (hp sc J o t) := by
  simp +decide only [mM_127.1, mM_127.2.1, mM_127.2.2, cR, cH, mm_fixA, hc, ↓reduceIte]
theorem w127_t1 {v : Int32} (hc : ∀ Q, mm_C (mm_entry 95 [.ref 0, .int v] (hp sc I o t)) Q ↔ Q (.inr 1) (hp sc I o (t + 1))) : mm_C (mm_entry 127 [.ref 0, .int v] (hp sc I o t)) Q ↔ Q (.inl (some (.long (mm_LC 1)))) (hp sc I o (t + 1)) := by
  have hh : mm_hnd (List.drop 6 [95, 2, 5, 84, 705, 0, 1, 2, 1, 7]) 1 = some (2, 1) := rfl
  have hk : ∀ x : Option Value, mm_kill [some (.ref 0), some (.int v), x] 2 = [some (.ref 0), some (.int v), none] := fun _ => rfl
  simp +decide only [mM_127.1, mM_127.2.1, mM_127.2.2, cR, cH, mm_fixA, hc, cK_catch hh, hk, ↓reduceIte]
theorem w128_ok {v : Int64} {w : Int32} {A : Int32} {J : Nat → Nat → Int32} (hc : ∀ Q, mm_C (mm_entry 97 [.ref 0, .long v, .int w] (hp sc I o t)) Q ↔ Q (.inl (some (.int A))) (hp sc J o t)) : mm_C (mm_entry 128 [.ref 0, .long v, .int w] (hp sc I o t)) Q ↔ Q (.inl (some (.long A.toInt64))) (hp sc J o t) := by
  simp +decide only [mM_128.1, mM_128.2.1, mM_128.2.2, cR, cH, mm_fixA, hc, ↓reduceIte]
theorem w128_t1 {v : Int64} {w : Int32} (hc : ∀ Q, mm_C (mm_entry 97 [.ref 0, .long v, .int w] (hp sc I o t)) Q ↔ Q (.inr 1) (hp sc I o (t + 1))) : mm_C (mm_entry 128 [.ref 0, .long v, .int w] (hp sc I o t)) Q ↔ Q (.inl (some (.long (mm_LC 1)))) (hp sc I o (t + 1)) := by
  have hh : mm_hnd (List.drop 6 [97, 3, 5, 87, 719, 0, 1, 4, 1, 8]) 1 = some (4, 1) := rfl
  have hk : ∀ x : Option Value, mm_kill [some (.ref 0), some (.long v), none, some (.int w), x] 4 = [some (.ref 0), some (.long v), none, some (.int w), none] := fun _ => rfl
  simp +decide only [mM_128.1, mM_128.2.1, mM_128.2.2, cR, cH, mm_fixA, hc, cK_catch hh, hk, ↓reduceIte]
theorem w129_ok {v : Int32} {A : Int32} {J : Nat → Nat → Int32} (hc : ∀ Q, mm_C (mm_entry 99 [.ref 0, .int v] (hp sc I o t)) Q ↔ Q (.inl (some (.int A))) (hp sc J o t)) : mm_C (mm_entry 129 [.ref 0, .int v] (hp sc I o t)) Q ↔ Q (.inl (some (.long A.toInt64))) (hp sc J o t) := by
  simp +decide only [mM_129.1, mM_129.2.1, mM_129.2.2, cR, cH, mm_fixA, hc, ↓reduceIte]
theorem w129_t0 {v : Int32} (hc : ∀ Q, mm_C (mm_entry 99 [.ref 0, .int v] (hp sc I o t)) Q ↔ Q (.inr 0) (hp sc I o (t + 1))) : mm_C (mm_entry 129 [.ref 0, .int v] (hp sc I o t)) Q ↔ Q (.inl (some (.long (mm_LC 0)))) (hp sc I o (t + 1)) := by
  have hh : mm_hnd (List.drop 6 [99, 2, 5, 91, 440, 0, 0, 2, 1, 7]) 0 = some (2, 1) := rfl
  have hk : ∀ x : Option Value, mm_kill [some (.ref 0), some (.int v), x] 2 = [some (.ref 0), some (.int v), none] := fun _ => rfl
  simp +decide only [mM_129.1, mM_129.2.1, mM_129.2.2, cR, cH, mm_fixA, hc, cK_catch hh, hk, ↓reduceIte]
theorem w130_ok {v : Int32} {A : Int32} {J : Nat → Nat → Int32} (hc : ∀ Q, mm_C (mm_entry 100 [.ref 0, .int v] (hp sc I o t)) Q ↔ Q (.inl (some (.int A))) (hp sc J o t)) : mm_C (mm_entry 130 [.ref 0, .int v] (hp sc I o t)) Q ↔ Q (.inl (some (.long A.toInt64))) (hp sc J o t) := by
  simp +decide only [mM_130.1, mM_130.2.1, mM_130.2.2.1, mM_130.2.2.2, cR, cH, mm_fixA, hc, ↓reduceIte]
theorem w130_t0 {v : Int32} (hc : ∀ Q, mm_C (mm_entry 100 [.ref 0, .int v] (hp sc I o t)) Q ↔ Q (.inr 0) (hp sc I o (t + 1))) : mm_C (mm_entry 130 [.ref 0, .int v] (hp sc I o t)) Q ↔ Q (.inl (some (.long (mm_LC 0)))) (hp sc I o (t + 1)) := by
  have hh : mm_hnd (List.drop 6 [100, 2, 5, 94, 483, 0, 0, 2, 1, 7, 2, 2, 2, 12]) 0 = some (2, 1) := rfl
  have hk : ∀ x : Option Value, mm_kill [some (.ref 0), some (.int v), x] 2 = [some (.ref 0), some (.int v), none] := fun _ => rfl
  simp +decide only [mM_130.1, mM_130.2.1, mM_130.2.2.1, mM_130.2.2.2, cR, cH, mm_fixA, hc, cK_catch hh, hk, ↓reduceIte]
theorem w130_t2 {v : Int32} (hc : ∀ Q, mm_C (mm_entry 100 [.ref 0, .int v] (hp sc I o t)) Q ↔ Q (.inr 2) (hp sc I o (t + 1))) : mm_C (mm_entry 130 [.ref 0, .int v] (hp sc I o t)) Q ↔ Q (.inl (some (.long (mm_LC 2)))) (hp sc I o (t + 1)) := by
  have hh : mm_hnd (List.drop 6 [100, 2, 5, 94, 483, 0, 0, 2, 1, 7, 2, 2, 2, 12]) 2 = some (2, 2) := rfl
  have hk : ∀ x : Option Value, mm_kill [some (.ref 0), some (.int v), x] 2 = [some (.ref 0), some (.int v), none] := fun _ => rfl
  simp +decide only [mM_130.1, mM_130.2.1, mM_130.2.2.1, mM_130.2.2.2, cR, cH, mm_fixA, hc, cK_catch hh, hk, ↓reduceIte]
end XH
