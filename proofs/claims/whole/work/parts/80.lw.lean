/-! the law's wrappers -/
section XH
variable {sc : Nat × (Nat → Int32)} {I : Nat → Nat → Int32} {o : Int64} {t : Nat} {Q : mm_Q}
theorem mm_fixO : mm_is 214 15 ∧ mm_len 214 = 1 ∧ mm_so 214 := by
  refine ⟨?_, ?_, ?_⟩
  · simp only [mm_is]; decide +kernel
  · simp only [mm_len]; decide +kernel
  · simp only [mm_so]; decide +kernel
theorem kill_0 {x : Option Value} : mm_kill [some (.ref 0), some (.ref 214), x] 2 = [some (.ref 0), some (.ref 214), none] := rfl
theorem kill_1 {v : Int32} {x : Option Value} : mm_kill [some (.ref 0), some (.int v), some (.ref 214), x] 3 = [some (.ref 0), some (.int v), some (.ref 214), none] := rfl
theorem kill_2 {v w : Int32} {x : Option Value} : mm_kill [some (.ref 0), some (.int v), some (.int w), some (.ref 214), x] 4 = [some (.ref 0), some (.int v), some (.int w), some (.ref 214), none] := rfl
theorem kill_3 {v : Int64} {w : Int32} {x : Option Value} : mm_kill [some (.ref 0), some (.long v), none, some (.int w), some (.ref 214), x] 5 = [some (.ref 0), some (.long v), none, some (.int w), some (.ref 214), none] := rfl
theorem w190_ok {v : Int32} {A : Int32} {J : Nat → Nat → Int32} (hc : ∀ Q, mm_C (mm_entry 56 [.ref 0, .int v] (hp sc I o t)) Q ↔ Q (.inl (some (.int A))) (hp sc J o t)) : mm_C (mm_entry 190 [.ref 0, .int v, .ref 214] (hp sc I o t)) Q ↔ Q (.inl (some (.int 0))) (hp sc J A.toInt64 t) := by
  simp +decide only [mM_190.1, mM_190.2.1, mM_190.2.2.1, mM_190.2.2.2.1, mM_190.2.2.2.2, cR, cH, mm_fixA, mm_fixO, hc, ↓reduceIte]
theorem w190_t1 {v : Int32} (hc : ∀ Q, mm_C (mm_entry 56 [.ref 0, .int v] (hp sc I o t)) Q ↔ Q (.inr 1) (hp sc I o (t + 1))) : mm_C (mm_entry 190 [.ref 0, .int v, .ref 214] (hp sc I o t)) Q ↔ Q (.inl (some (.int 1))) (hp sc I o (t + 1)) := by
  have hh : mm_hnd (List.drop 6 [56, 2, 5, 7, 399, 0, 1, 3, 1, 12, 2, 3, 2, 15]) 1 = some (3, 1) := rfl
  simp +decide only [mM_190.1, mM_190.2.1, mM_190.2.2.1, mM_190.2.2.2.1, mM_190.2.2.2.2, cR, cH, mm_fixA, mm_fixO, hc, cK_catch hh, kill_1, ↓reduceIte]
theorem w190_t2 {v : Int32} (hc : ∀ Q, mm_C (mm_entry 56 [.ref 0, .int v] (hp sc I o t)) Q ↔ Q (.inr 2) (hp sc I o (t + 1))) : mm_C (mm_entry 190 [.ref 0, .int v, .ref 214] (hp sc I o t)) Q ↔ Q (.inl (some (.int 2))) (hp sc I o (t + 1)) := by
  have hh : mm_hnd (List.drop 6 [56, 2, 5, 7, 399, 0, 1, 3, 1, 12, 2, 3, 2, 15]) 2 = some (3, 2) := rfl
  simp +decide only [mM_190.1, mM_190.2.1, mM_190.2.2.1, mM_190.2.2.2.1, mM_190.2.2.2.2, cR, cH, mm_fixA, mm_fixO, hc, cK_catch hh, kill_1, ↓reduceIte]
theorem w191_ok {A : Int32} {J : Nat → Nat → Int32} (hc : ∀ Q, mm_C (mm_entry 59 [.ref 0] (hp sc I o t)) Q ↔ Q (.inl (some (.int A))) (hp sc J o t)) : mm_C (mm_entry 191 [.ref 0, .ref 214] (hp sc I o t)) Q ↔ Q (.inl (some (.int 0))) (hp sc J A.toInt64 t) := by
  simp +decide only [mM_191.1, mM_191.2.1, mM_191.2.2.1, mM_191.2.2.2, cR, cH, mm_fixA, mm_fixO, hc, ↓reduceIte]
theorem w191_t2 (hc : ∀ Q, mm_C (mm_entry 59 [.ref 0] (hp sc I o t)) Q ↔ Q (.inr 2) (hp sc I o (t + 1))) : mm_C (mm_entry 191 [.ref 0, .ref 214] (hp sc I o t)) Q ↔ Q (.inl (some (.int 1))) (hp sc I o (t + 1)) := by
  have hh : mm_hnd (List.drop 6 [59, 1, 5, 17, 501, 0, 2, 2, 1, 11]) 2 = some (2, 1) := rfl
  simp +decide only [mM_191.1, mM_191.2.1, mM_191.2.2.1, mM_191.2.2.2, cR, cH, mm_fixA, mm_fixO, hc, cK_catch hh, kill_0, ↓reduceIte]
theorem w192_ok {v : Int32} {A : Int32} {J : Nat → Nat → Int32} (hc : ∀ Q, mm_C (mm_entry 61 [.ref 0, .int v] (hp sc I o t)) Q ↔ Q (.inl (some (.int A))) (hp sc J o t)) : mm_C (mm_entry 192 [.ref 0, .int v, .ref 214] (hp sc I o t)) Q ↔ Q (.inl (some (.int 0))) (hp sc J A.toInt64 t) := by
  simp +decide only [mM_192.1, mM_192.2.1, mM_192.2.2.1, mM_192.2.2.2, cR, cH, mm_fixA, mm_fixO, hc, ↓reduceIte]
theorem w192_t0 {v : Int32} (hc : ∀ Q, mm_C (mm_entry 61 [.ref 0, .int v] (hp sc I o t)) Q ↔ Q (.inr 0) (hp sc I o (t + 1))) : mm_C (mm_entry 192 [.ref 0, .int v, .ref 214] (hp sc I o t)) Q ↔ Q (.inl (some (.int 1))) (hp sc I o (t + 1)) := by
  have hh : mm_hnd (List.drop 6 [61, 2, 5, 21, 602, 0, 0, 3, 1, 12]) 0 = some (3, 1) := rfl
  simp +decide only [mM_192.1, mM_192.2.1, mM_192.2.2.1, mM_192.2.2.2, cR, cH, mm_fixA, mm_fixO, hc, cK_catch hh, kill_1, ↓reduceIte]
theorem w193_ok {v : Int32} {A : Int32} {J : Nat → Nat → Int32} (hc : ∀ Q, mm_C (mm_entry 62 [.ref 0, .int v] (hp sc I o t)) Q ↔ Q (.inl (some (.int A))) (hp sc J o t)) : mm_C (mm_entry 193 [.ref 0, .int v, .ref 214] (hp sc I o t)) Q ↔ Q (.inl (some (.int 0))) (hp sc J A.toInt64 t) := by
  simp +decide only [mM_193.1, mM_193.2.1, mM_193.2.2.1, mM_193.2.2.2, cR, cH, mm_fixA, mm_fixO, hc, ↓reduceIte]
theorem w193_t0 {v : Int32} (hc : ∀ Q, mm_C (mm_entry 62 [.ref 0, .int v] (hp sc I o t)) Q ↔ Q (.inr 0) (hp sc I o (t + 1))) : mm_C (mm_entry 193 [.ref 0, .int v, .ref 214] (hp sc I o t)) Q ↔ Q (.inl (some (.int 1))) (hp sc I o (t + 1)) := by
  have hh : mm_hnd (List.drop 6 [62, 2, 5, 26, 628, 0, 0, 3, 1, 12]) 0 = some (3, 1) := rfl
  simp +decide only [mM_193.1, mM_193.2.1, mM_193.2.2.1, mM_193.2.2.2, cR, cH, mm_fixA, mm_fixO, hc, cK_catch hh, kill_1, ↓reduceIte]
theorem w194_ok {v : Int32} {A : Int32} {J : Nat → Nat → Int32} (hc : ∀ Q, mm_C (mm_entry 63 [.ref 0, .int v] (hp sc I o t)) Q ↔ Q (.inl (some (.int A))) (hp sc J o t)) : mm_C (mm_entry 194 [.ref 0, .int v, .ref 214] (hp sc I o t)) Q ↔ Q (.inl (some (.int 0))) (hp sc J A.toInt64 t) := by
  simp +decide only [mM_194.1, mM_194.2.1, mM_194.2.2.1, mM_194.2.2.2, cR, cH, mm_fixA, mm_fixO, hc, ↓reduceIte]
theorem w194_t0 {v : Int32} (hc : ∀ Q, mm_C (mm_entry 63 [.ref 0, .int v] (hp sc I o t)) Q ↔ Q (.inr 0) (hp sc I o (t + 1))) : mm_C (mm_entry 194 [.ref 0, .int v, .ref 214] (hp sc I o t)) Q ↔ Q (.inl (some (.int 1))) (hp sc I o (t + 1)) := by
  have hh : mm_hnd (List.drop 6 [63, 2, 5, 29, 635, 0, 0, 3, 1, 12]) 0 = some (3, 1) := rfl
  simp +decide only [mM_194.1, mM_194.2.1, mM_194.2.2.1, mM_194.2.2.2, cR, cH, mm_fixA, mm_fixO, hc, cK_catch hh, kill_1, ↓reduceIte]
theorem w195_ok0 {v : Int32} {J : Nat → Nat → Int32} (hc : ∀ Q, mm_C (mm_entry 64 [.ref 0, .int v] (hp sc I o t)) Q ↔ Q (.inl (some (.int 0))) (hp sc J o t)) : mm_C (mm_entry 195 [.ref 0, .int v, .ref 214] (hp sc I o t)) Q ↔ Q (.inl (some (.int 0))) (hp sc J (Int64.ofNat 0) t) := by
  simp +decide only [mM_195.1, mM_195.2.1, mM_195.2.2.1, mM_195.2.2.2.1, mM_195.2.2.2.2.1, mM_195.2.2.2.2.2, cR, cH, mm_fixA, mm_fixO, hc, ↓reduceIte]
theorem w195_ok1 {v : Int32} {J : Nat → Nat → Int32} (hc : ∀ Q, mm_C (mm_entry 64 [.ref 0, .int v] (hp sc I o t)) Q ↔ Q (.inl (some (.int 1))) (hp sc J o t)) : mm_C (mm_entry 195 [.ref 0, .int v, .ref 214] (hp sc I o t)) Q ↔ Q (.inl (some (.int 0))) (hp sc J (Int64.ofNat 1) t) := by
  simp +decide only [mM_195.1, mM_195.2.1, mM_195.2.2.1, mM_195.2.2.2.1, mM_195.2.2.2.2.1, mM_195.2.2.2.2.2, cR, cH, mm_fixA, mm_fixO, hc, ↓reduceIte]
theorem w195_t0 {v : Int32} (hc : ∀ Q, mm_C (mm_entry 64 [.ref 0, .int v] (hp sc I o t)) Q ↔ Q (.inr 0) (hp sc I o (t + 1))) : mm_C (mm_entry 195 [.ref 0, .int v, .ref 214] (hp sc I o t)) Q ↔ Q (.inl (some (.int 1))) (hp sc I o (t + 1)) := by
  have hh : mm_hnd (List.drop 6 [64, 2, 5, 32, 642, 0, 0, 3, 3, 19]) 0 = some (3, 3) := rfl
  simp +decide only [mM_195.1, mM_195.2.1, mM_195.2.2.1, mM_195.2.2.2.1, mM_195.2.2.2.2.1, mM_195.2.2.2.2.2, cR, cH, mm_fixA, mm_fixO, hc, cK_catch hh, kill_1, ↓reduceIte]
theorem w196_ok0 {v : Int32} {J : Nat → Nat → Int32} (hc : ∀ Q, mm_C (mm_entry 69 [.ref 0, .int v] (hp sc I o t)) Q ↔ Q (.inl (some (.int 0))) (hp sc J o t)) : mm_C (mm_entry 196 [.ref 0, .int v, .ref 214] (hp sc I o t)) Q ↔ Q (.inl (some (.int 0))) (hp sc J (Int64.ofNat 0) t) := by
  simp +decide only [mM_196.1, mM_196.2.1, mM_196.2.2.1, mM_196.2.2.2.1, mM_196.2.2.2.2.1, mM_196.2.2.2.2.2, cR, cH, mm_fixA, mm_fixO, hc, ↓reduceIte]
theorem w196_ok1 {v : Int32} {J : Nat → Nat → Int32} (hc : ∀ Q, mm_C (mm_entry 69 [.ref 0, .int v] (hp sc I o t)) Q ↔ Q (.inl (some (.int 1))) (hp sc J o t)) : mm_C (mm_entry 196 [.ref 0, .int v, .ref 214] (hp sc I o t)) Q ↔ Q (.inl (some (.int 0))) (hp sc J (Int64.ofNat 1) t) := by
  simp +decide only [mM_196.1, mM_196.2.1, mM_196.2.2.1, mM_196.2.2.2.1, mM_196.2.2.2.2.1, mM_196.2.2.2.2.2, cR, cH, mm_fixA, mm_fixO, hc, ↓reduceIte]
theorem w196_t0 {v : Int32} (hc : ∀ Q, mm_C (mm_entry 69 [.ref 0, .int v] (hp sc I o t)) Q ↔ Q (.inr 0) (hp sc I o (t + 1))) : mm_C (mm_entry 196 [.ref 0, .int v, .ref 214] (hp sc I o t)) Q ↔ Q (.inl (some (.int 1))) (hp sc I o (t + 1)) := by
  have hh : mm_hnd (List.drop 6 [69, 2, 5, 36, 650, 0, 0, 3, 3, 19]) 0 = some (3, 3) := rfl
  simp +decide only [mM_196.1, mM_196.2.1, mM_196.2.2.1, mM_196.2.2.2.1, mM_196.2.2.2.2.1, mM_196.2.2.2.2.2, cR, cH, mm_fixA, mm_fixO, hc, cK_catch hh, kill_1, ↓reduceIte]
theorem w197_ok {v : Int32} {A : Int32} {J : Nat → Nat → Int32} (hc : ∀ Q, mm_C (mm_entry 70 [.ref 0, .int v] (hp sc I o t)) Q ↔ Q (.inl (some (.int A))) (hp sc J o t)) : mm_C (mm_entry 197 [.ref 0, .int v, .ref 214] (hp sc I o t)) Q ↔ Q (.inl (some (.int 0))) (hp sc J A.toInt64 t) := by
  simp +decide only [mM_197.1, mM_197.2.1, mM_197.2.2.1, mM_197.2.2.2, cR, cH, mm_fixA, mm_fixO, hc, ↓reduceIte]
theorem w197_t0 {v : Int32} (hc : ∀ Q, mm_C (mm_entry 70 [.ref 0, .int v] (hp sc I o t)) Q ↔ Q (.inr 0) (hp sc I o (t + 1))) : mm_C (mm_entry 197 [.ref 0, .int v, .ref 214] (hp sc I o t)) Q ↔ Q (.inl (some (.int 1))) (hp sc I o (t + 1)) := by
  have hh : mm_hnd (List.drop 6 [70, 2, 5, 39, 662, 0, 0, 3, 1, 12]) 0 = some (3, 1) := rfl
  simp +decide only [mM_197.1, mM_197.2.1, mM_197.2.2.1, mM_197.2.2.2, cR, cH, mm_fixA, mm_fixO, hc, cK_catch hh, kill_1, ↓reduceIte]
theorem w198_ok {v w : Int32} {A : Int32} {J : Nat → Nat → Int32} (hc : ∀ Q, mm_C (mm_entry 81 [.ref 0, .int v, .int w] (hp sc I o t)) Q ↔ Q (.inl (some (.int A))) (hp sc J o t)) : mm_C (mm_entry 198 [.ref 0, .int v, .int w, .ref 214] (hp sc I o t)) Q ↔ Q (.inl (some (.int 0))) (hp sc J A.toInt64 t) := by
  simp +decide only [mM_198.1, mM_198.2.1, mM_198.2.2.1, mM_198.2.2.2.1, mM_198.2.2.2.2.1, mM_198.2.2.2.2.2, cR, cH, mm_fixA, mm_fixO, hc, ↓reduceIte]
theorem w198_t0 {v w : Int32} (hc : ∀ Q, mm_C (mm_entry 81 [.ref 0, .int v, .int w] (hp sc I o t)) Q ↔ Q (.inr 0) (hp sc I o (t + 1))) : mm_C (mm_entry 198 [.ref 0, .int v, .int w, .ref 214] (hp sc I o t)) Q ↔ Q (.inl (some (.int 1))) (hp sc I o (t + 1)) := by
  have hh : mm_hnd (List.drop 6 [81, 3, 5, 42, 670, 0, 0, 4, 1, 13, 1, 4, 2, 17, 2, 4, 3, 21]) 0 = some (4, 1) := rfl
  simp +decide only [mM_198.1, mM_198.2.1, mM_198.2.2.1, mM_198.2.2.2.1, mM_198.2.2.2.2.1, mM_198.2.2.2.2.2, cR, cH, mm_fixA, mm_fixO, hc, cK_catch hh, kill_2, ↓reduceIte]
theorem w198_t1 {v w : Int32} (hc : ∀ Q, mm_C (mm_entry 81 [.ref 0, .int v, .int w] (hp sc I o t)) Q ↔ Q (.inr 1) (hp sc I o (t + 1))) : mm_C (mm_entry 198 [.ref 0, .int v, .int w, .ref 214] (hp sc I o t)) Q ↔ Q (.inl (some (.int 2))) (hp sc I o (t + 1)) := by
  have hh : mm_hnd (List.drop 6 [81, 3, 5, 42, 670, 0, 0, 4, 1, 13, 1, 4, 2, 17, 2, 4, 3, 21]) 1 = some (4, 2) := rfl
  simp +decide only [mM_198.1, mM_198.2.1, mM_198.2.2.1, mM_198.2.2.2.1, mM_198.2.2.2.2.1, mM_198.2.2.2.2.2, cR, cH, mm_fixA, mm_fixO, hc, cK_catch hh, kill_2, ↓reduceIte]
theorem w198_t2 {v w : Int32} (hc : ∀ Q, mm_C (mm_entry 81 [.ref 0, .int v, .int w] (hp sc I o t)) Q ↔ Q (.inr 2) (hp sc I o (t + 1))) : mm_C (mm_entry 198 [.ref 0, .int v, .int w, .ref 214] (hp sc I o t)) Q ↔ Q (.inl (some (.int 3))) (hp sc I o (t + 1)) := by
  have hh : mm_hnd (List.drop 6 [81, 3, 5, 42, 670, 0, 0, 4, 1, 13, 1, 4, 2, 17, 2, 4, 3, 21]) 2 = some (4, 3) := rfl
  simp +decide only [mM_198.1, mM_198.2.1, mM_198.2.2.1, mM_198.2.2.2.1, mM_198.2.2.2.2.1, mM_198.2.2.2.2.2, cR, cH, mm_fixA, mm_fixO, hc, cK_catch hh, kill_2, ↓reduceIte]
theorem w199_ok {v : Int32} {A : Int32} {J : Nat → Nat → Int32} (hc : ∀ Q, mm_C (mm_entry 82 [.ref 0, .int v] (hp sc I o t)) Q ↔ Q (.inl (some (.int A))) (hp sc J o t)) : mm_C (mm_entry 199 [.ref 0, .int v, .ref 214] (hp sc I o t)) Q ↔ Q (.inl (some (.int 0))) (hp sc J A.toInt64 t) := by
  simp +decide only [mM_199.1, mM_199.2.1, mM_199.2.2.1, mM_199.2.2.2.1, mM_199.2.2.2.2, cR, cH, mm_fixA, mm_fixO, hc, ↓reduceIte]
theorem w199_t0 {v : Int32} (hc : ∀ Q, mm_C (mm_entry 82 [.ref 0, .int v] (hp sc I o t)) Q ↔ Q (.inr 0) (hp sc I o (t + 1))) : mm_C (mm_entry 199 [.ref 0, .int v, .ref 214] (hp sc I o t)) Q ↔ Q (.inl (some (.int 1))) (hp sc I o (t + 1)) := by
  have hh : mm_hnd (List.drop 6 [82, 2, 5, 46, 683, 0, 0, 3, 1, 12, 2, 3, 2, 15]) 0 = some (3, 1) := rfl
  simp +decide only [mM_199.1, mM_199.2.1, mM_199.2.2.1, mM_199.2.2.2.1, mM_199.2.2.2.2, cR, cH, mm_fixA, mm_fixO, hc, cK_catch hh, kill_1, ↓reduceIte]
theorem w199_t2 {v : Int32} (hc : ∀ Q, mm_C (mm_entry 82 [.ref 0, .int v] (hp sc I o t)) Q ↔ Q (.inr 2) (hp sc I o (t + 1))) : mm_C (mm_entry 199 [.ref 0, .int v, .ref 214] (hp sc I o t)) Q ↔ Q (.inl (some (.int 2))) (hp sc I o (t + 1)) := by
  have hh : mm_hnd (List.drop 6 [82, 2, 5, 46, 683, 0, 0, 3, 1, 12, 2, 3, 2, 15]) 2 = some (3, 2) := rfl
  simp +decide only [mM_199.1, mM_199.2.1, mM_199.2.2.1, mM_199.2.2.2.1, mM_199.2.2.2.2, cR, cH, mm_fixA, mm_fixO, hc, cK_catch hh, kill_1, ↓reduceIte]
theorem w200_ok {v w : Int32} {A : Int32} {J : Nat → Nat → Int32} (hc : ∀ Q, mm_C (mm_entry 84 [.ref 0, .int v, .int w] (hp sc I o t)) Q ↔ Q (.inl (some (.int A))) (hp sc J o t)) : mm_C (mm_entry 200 [.ref 0, .int v, .int w, .ref 214] (hp sc I o t)) Q ↔ Q (.inl (some (.int 0))) (hp sc J A.toInt64 t) := by
  simp +decide only [mM_200.1, mM_200.2.1, mM_200.2.2.1, mM_200.2.2.2, cR, cH, mm_fixA, mm_fixO, hc, ↓reduceIte]
theorem w200_t1 {v w : Int32} (hc : ∀ Q, mm_C (mm_entry 84 [.ref 0, .int v, .int w] (hp sc I o t)) Q ↔ Q (.inr 1) (hp sc I o (t + 1))) : mm_C (mm_entry 200 [.ref 0, .int v, .int w, .ref 214] (hp sc I o t)) Q ↔ Q (.inl (some (.int 1))) (hp sc I o (t + 1)) := by
  have hh : mm_hnd (List.drop 6 [84, 3, 5, 49, 692, 0, 1, 4, 1, 13]) 1 = some (4, 1) := rfl
  simp +decide only [mM_200.1, mM_200.2.1, mM_200.2.2.1, mM_200.2.2.2, cR, cH, mm_fixA, mm_fixO, hc, cK_catch hh, kill_2, ↓reduceIte]
theorem w201_ok {v w : Int32} {A : Int32} {J : Nat → Nat → Int32} (hc : ∀ Q, mm_C (mm_entry 85 [.ref 0, .int v, .int w] (hp sc I o t)) Q ↔ Q (.inl (some (.int A))) (hp sc J o t)) : mm_C (mm_entry 201 [.ref 0, .int v, .int w, .ref 214] (hp sc I o t)) Q ↔ Q (.inl (some (.int 0))) (hp sc J A.toInt64 t) := by
  simp +decide only [mM_201.1, mM_201.2.1, mM_201.2.2.1, mM_201.2.2.2, cR, cH, mm_fixA, mm_fixO, hc, ↓reduceIte]
theorem w201_t1 {v w : Int32} (hc : ∀ Q, mm_C (mm_entry 85 [.ref 0, .int v, .int w] (hp sc I o t)) Q ↔ Q (.inr 1) (hp sc I o (t + 1))) : mm_C (mm_entry 201 [.ref 0, .int v, .int w, .ref 214] (hp sc I o t)) Q ↔ Q (.inl (some (.int 1))) (hp sc I o (t + 1)) := by
  have hh : mm_hnd (List.drop 6 [85, 3, 5, 52, 699, 0, 1, 4, 1, 13]) 1 = some (4, 1) := rfl
  simp +decide only [mM_201.1, mM_201.2.1, mM_201.2.2.1, mM_201.2.2.2, cR, cH, mm_fixA, mm_fixO, hc, cK_catch hh, kill_2, ↓reduceIte]
theorem w202_ok {v : Int32} {A : Int32} {J : Nat → Nat → Int32} (hc : ∀ Q, mm_C (mm_entry 86 [.ref 0, .int v] (hp sc I o t)) Q ↔ Q (.inl (some (.int A))) (hp sc J o t)) : mm_C (mm_entry 202 [.ref 0, .int v, .ref 214] (hp sc I o t)) Q ↔ Q (.inl (some (.int 0))) (hp sc J A.toInt64 t) := by
  simp +decide only [mM_202.1, mM_202.2.1, mM_202.2.2.1, mM_202.2.2.2, cR, cH, mm_fixA, mm_fixO, hc, ↓reduceIte]
theorem w202_t1 {v : Int32} (hc : ∀ Q, mm_C (mm_entry 86 [.ref 0, .int v] (hp sc I o t)) Q ↔ Q (.inr 1) (hp sc I o (t + 1))) : mm_C (mm_entry 202 [.ref 0, .int v, .ref 214] (hp sc I o t)) Q ↔ Q (.inl (some (.int 1))) (hp sc I o (t + 1)) := by
  have hh : mm_hnd (List.drop 6 [86, 2, 5, 55, 706, 0, 1, 3, 1, 12]) 1 = some (3, 1) := rfl
  simp +decide only [mM_202.1, mM_202.2.1, mM_202.2.2.1, mM_202.2.2.2, cR, cH, mm_fixA, mm_fixO, hc, cK_catch hh, kill_1, ↓reduceIte]
theorem w203_ok {v : Int32} {A : Int32} {J : Nat → Nat → Int32} (hc : ∀ Q, mm_C (mm_entry 88 [.ref 0, .int v] (hp sc I o t)) Q ↔ Q (.inl (some (.int A))) (hp sc J o t)) : mm_C (mm_entry 203 [.ref 0, .int v, .ref 214] (hp sc I o t)) Q ↔ Q (.inl (some (.int 0))) (hp sc J A.toInt64 t) := by
  simp +decide only [mM_203.1, mM_203.2.1, mM_203.2.2.1, mM_203.2.2.2, cR, cH, mm_fixA, mm_fixO, hc, ↓reduceIte]
theorem w203_t1 {v : Int32} (hc : ∀ Q, mm_C (mm_entry 88 [.ref 0, .int v] (hp sc I o t)) Q ↔ Q (.inr 1) (hp sc I o (t + 1))) : mm_C (mm_entry 203 [.ref 0, .int v, .ref 214] (hp sc I o t)) Q ↔ Q (.inl (some (.int 1))) (hp sc I o (t + 1)) := by
  have hh : mm_hnd (List.drop 6 [88, 2, 5, 58, 713, 0, 1, 3, 1, 12]) 1 = some (3, 1) := rfl
  simp +decide only [mM_203.1, mM_203.2.1, mM_203.2.2.1, mM_203.2.2.2, cR, cH, mm_fixA, mm_fixO, hc, cK_catch hh, kill_1, ↓reduceIte]
theorem w204_ok {A : Int32} {J : Nat → Nat → Int32} (hc : ∀ Q, mm_C (mm_entry 89 [.ref 0] (hp sc I o t)) Q ↔ Q (.inl (some (.int A))) (hp sc J o t)) : mm_C (mm_entry 204 [.ref 0, .ref 214] (hp sc I o t)) Q ↔ Q (.inl (some (.int 0))) (hp sc J A.toInt64 t) := by
  simp +decide only [mM_204.1, mM_204.2.1, mM_204.2.2.1, mM_204.2.2.2, cR, cH, mm_fixA, mm_fixO, hc, ↓reduceIte]
theorem w204_t2 (hc : ∀ Q, mm_C (mm_entry 89 [.ref 0] (hp sc I o t)) Q ↔ Q (.inr 2) (hp sc I o (t + 1))) : mm_C (mm_entry 204 [.ref 0, .ref 214] (hp sc I o t)) Q ↔ Q (.inl (some (.int 1))) (hp sc I o (t + 1)) := by
  have hh : mm_hnd (List.drop 6 [89, 1, 5, 61, 720, 0, 2, 2, 1, 11]) 2 = some (2, 1) := rfl
  simp +decide only [mM_204.1, mM_204.2.1, mM_204.2.2.1, mM_204.2.2.2, cR, cH, mm_fixA, mm_fixO, hc, cK_catch hh, kill_0, ↓reduceIte]
theorem w205_ok {v : Int32} {A : Int32} {J : Nat → Nat → Int32} (hc : ∀ Q, mm_C (mm_entry 90 [.ref 0, .int v] (hp sc I o t)) Q ↔ Q (.inl (some (.int A))) (hp sc J o t)) : mm_C (mm_entry 205 [.ref 0, .int v, .ref 214] (hp sc I o t)) Q ↔ Q (.inl (some (.int 0))) (hp sc J A.toInt64 t) := by
  simp +decide only [mM_205.1, mM_205.2.1, mM_205.2.2.1, mM_205.2.2.2.1, mM_205.2.2.2.2, cR, cH, mm_fixA, mm_fixO, hc, ↓reduceIte]
theorem w205_t0 {v : Int32} (hc : ∀ Q, mm_C (mm_entry 90 [.ref 0, .int v] (hp sc I o t)) Q ↔ Q (.inr 0) (hp sc I o (t + 1))) : mm_C (mm_entry 205 [.ref 0, .int v, .ref 214] (hp sc I o t)) Q ↔ Q (.inl (some (.int 1))) (hp sc I o (t + 1)) := by
  have hh : mm_hnd (List.drop 6 [90, 2, 5, 64, 732, 0, 0, 3, 1, 12, 2, 3, 2, 15]) 0 = some (3, 1) := rfl
  simp +decide only [mM_205.1, mM_205.2.1, mM_205.2.2.1, mM_205.2.2.2.1, mM_205.2.2.2.2, cR, cH, mm_fixA, mm_fixO, hc, cK_catch hh, kill_1, ↓reduceIte]
theorem w205_t2 {v : Int32} (hc : ∀ Q, mm_C (mm_entry 90 [.ref 0, .int v] (hp sc I o t)) Q ↔ Q (.inr 2) (hp sc I o (t + 1))) : mm_C (mm_entry 205 [.ref 0, .int v, .ref 214] (hp sc I o t)) Q ↔ Q (.inl (some (.int 2))) (hp sc I o (t + 1)) := by
  have hh : mm_hnd (List.drop 6 [90, 2, 5, 64, 732, 0, 0, 3, 1, 12, 2, 3, 2, 15]) 2 = some (3, 2) := rfl
  simp +decide only [mM_205.1, mM_205.2.1, mM_205.2.2.1, mM_205.2.2.2.1, mM_205.2.2.2.2, cR, cH, mm_fixA, mm_fixO, hc, cK_catch hh, kill_1, ↓reduceIte]
theorem w206_ok {v : Int32} {A : Int32} {J : Nat → Nat → Int32} (hc : ∀ Q, mm_C (mm_entry 91 [.ref 0, .int v] (hp sc I o t)) Q ↔ Q (.inl (some (.int A))) (hp sc J o t)) : mm_C (mm_entry 206 [.ref 0, .int v, .ref 214] (hp sc I o t)) Q ↔ Q (.inl (some (.int 0))) (hp sc J A.toInt64 t) := by
  simp +decide only [mM_206.1, mM_206.2.1, mM_206.2.2.1, mM_206.2.2.2, cR, cH, mm_fixA, mm_fixO, hc, ↓reduceIte]
theorem w206_t0 {v : Int32} (hc : ∀ Q, mm_C (mm_entry 91 [.ref 0, .int v] (hp sc I o t)) Q ↔ Q (.inr 0) (hp sc I o (t + 1))) : mm_C (mm_entry 206 [.ref 0, .int v, .ref 214] (hp sc I o t)) Q ↔ Q (.inl (some (.int 1))) (hp sc I o (t + 1)) := by
  have hh : mm_hnd (List.drop 6 [91, 2, 5, 67, 739, 0, 0, 3, 1, 12]) 0 = some (3, 1) := rfl
  simp +decide only [mM_206.1, mM_206.2.1, mM_206.2.2.1, mM_206.2.2.2, cR, cH, mm_fixA, mm_fixO, hc, cK_catch hh, kill_1, ↓reduceIte]
theorem w207_ok {v : Int32} {A : Int32} {J : Nat → Nat → Int32} (hc : ∀ Q, mm_C (mm_entry 93 [.ref 0, .int v] (hp sc I o t)) Q ↔ Q (.inl (some (.int A))) (hp sc J o t)) : mm_C (mm_entry 207 [.ref 0, .int v, .ref 214] (hp sc I o t)) Q ↔ Q (.inl (some (.int 0))) (hp sc J A.toInt64 t) := by
  simp +decide only [mM_207.1, mM_207.2.1, mM_207.2.2.1, mM_207.2.2.2, cR, cH, mm_fixA, mm_fixO, hc, ↓reduceIte]
theorem w207_t0 {v : Int32} (hc : ∀ Q, mm_C (mm_entry 93 [.ref 0, .int v] (hp sc I o t)) Q ↔ Q (.inr 0) (hp sc I o (t + 1))) : mm_C (mm_entry 207 [.ref 0, .int v, .ref 214] (hp sc I o t)) Q ↔ Q (.inl (some (.int 1))) (hp sc I o (t + 1)) := by
  have hh : mm_hnd (List.drop 6 [93, 2, 5, 70, 746, 0, 0, 3, 1, 12]) 0 = some (3, 1) := rfl
  simp +decide only [mM_207.1, mM_207.2.1, mM_207.2.2.1, mM_207.2.2.2, cR, cH, mm_fixA, mm_fixO, hc, cK_catch hh, kill_1, ↓reduceIte]
theorem w208_ok {v : Int32} {A : Int32} {J : Nat → Nat → Int32} (hc : ∀ Q, mm_C (mm_entry 94 [.ref 0, .int v] (hp sc I o t)) Q ↔ Q (.inl (some (.int A))) (hp sc J o t)) : mm_C (mm_entry 208 [.ref 0, .int v, .ref 214] (hp sc I o t)) Q ↔ Q (.inl (some (.int 0))) (hp sc J A.toInt64 t) := by
  simp +decide only [mM_208.1, mM_208.2.1, mM_208.2.2.1, mM_208.2.2.2, cR, cH, mm_fixA, mm_fixO, hc, ↓reduceIte]
theorem w208_t0 {v : Int32} (hc : ∀ Q, mm_C (mm_entry 94 [.ref 0, .int v] (hp sc I o t)) Q ↔ Q (.inr 0) (hp sc I o (t + 1))) : mm_C (mm_entry 208 [.ref 0, .int v, .ref 214] (hp sc I o t)) Q ↔ Q (.inl (some (.int 1))) (hp sc I o (t + 1)) := by
  have hh : mm_hnd (List.drop 6 [94, 2, 5, 73, 756, 0, 0, 3, 1, 12]) 0 = some (3, 1) := rfl
  simp +decide only [mM_208.1, mM_208.2.1, mM_208.2.2.1, mM_208.2.2.2, cR, cH, mm_fixA, mm_fixO, hc, cK_catch hh, kill_1, ↓reduceIte]
theorem w209_ok {v : Int32} {A : Int32} {J : Nat → Nat → Int32} (hc : ∀ Q, mm_C (mm_entry 95 [.ref 0, .int v] (hp sc I o t)) Q ↔ Q (.inl (some (.int A))) (hp sc J o t)) : mm_C (mm_entry 209 [.ref 0, .int v, .ref 214] (hp sc I o t)) Q ↔ Q (.inl (some (.int 0))) (hp sc J A.toInt64 t) := by
  simp +decide only [mM_209.1, mM_209.2.1, mM_209.2.2.1, mM_209.2.2.2, cR, cH, mm_fixA, mm_fixO, hc, ↓reduceIte]
theorem w209_t1 {v : Int32} (hc : ∀ Q, mm_C (mm_entry 95 [.ref 0, .int v] (hp sc I o t)) Q ↔ Q (.inr 1) (hp sc I o (t + 1))) : mm_C (mm_entry 209 [.ref 0, .int v, .ref 214] (hp sc I o t)) Q ↔ Q (.inl (some (.int 1))) (hp sc I o (t + 1)) := by
  have hh : mm_hnd (List.drop 6 [95, 2, 5, 76, 763, 0, 1, 3, 1, 12]) 1 = some (3, 1) := rfl
  simp +decide only [mM_209.1, mM_209.2.1, mM_209.2.2.1, mM_209.2.2.2, cR, cH, mm_fixA, mm_fixO, hc, cK_catch hh, kill_1, ↓reduceIte]
theorem w210_ok {v : Int64} {w : Int32} {A : Int32} {J : Nat → Nat → Int32} (hc : ∀ Q, mm_C (mm_entry 97 [.ref 0, .long v, .int w] (hp sc I o t)) Q ↔ Q (.inl (some (.int A))) (hp sc J o t)) : mm_C (mm_entry 210 [.ref 0, .long v, .int w, .ref 214] (hp sc I o t)) Q ↔ Q (.inl (some (.int 0))) (hp sc J A.toInt64 t) := by
  simp +decide only [mM_210.1, mM_210.2.1, mM_210.2.2.1, mM_210.2.2.2, cR, cH, mm_fixA, mm_fixO, hc, ↓reduceIte]
theorem w210_t1 {v : Int64} {w : Int32} (hc : ∀ Q, mm_C (mm_entry 97 [.ref 0, .long v, .int w] (hp sc I o t)) Q ↔ Q (.inr 1) (hp sc I o (t + 1))) : mm_C (mm_entry 210 [.ref 0, .long v, .int w, .ref 214] (hp sc I o t)) Q ↔ Q (.inl (some (.int 1))) (hp sc I o (t + 1)) := by
  have hh : mm_hnd (List.drop 6 [97, 3, 5, 79, 772, 0, 1, 5, 1, 14]) 1 = some (5, 1) := rfl
  simp +decide only [mM_210.1, mM_210.2.1, mM_210.2.2.1, mM_210.2.2.2, cR, cH, mm_fixA, mm_fixO, hc, cK_catch hh, kill_3, ↓reduceIte]
theorem w211_ok {v : Int32} {A : Int32} {J : Nat → Nat → Int32} (hc : ∀ Q, mm_C (mm_entry 99 [.ref 0, .int v] (hp sc I o t)) Q ↔ Q (.inl (some (.int A))) (hp sc J o t)) : mm_C (mm_entry 211 [.ref 0, .int v, .ref 214] (hp sc I o t)) Q ↔ Q (.inl (some (.int 0))) (hp sc J A.toInt64 t) := by
  simp +decide only [mM_211.1, mM_211.2.1, mM_211.2.2.1, mM_211.2.2.2, cR, cH, mm_fixA, mm_fixO, hc, ↓reduceIte]
theorem w211_t0 {v : Int32} (hc : ∀ Q, mm_C (mm_entry 99 [.ref 0, .int v] (hp sc I o t)) Q ↔ Q (.inr 0) (hp sc I o (t + 1))) : mm_C (mm_entry 211 [.ref 0, .int v, .ref 214] (hp sc I o t)) Q ↔ Q (.inl (some (.int 1))) (hp sc I o (t + 1)) := by
  have hh : mm_hnd (List.drop 6 [99, 2, 5, 83, 785, 0, 0, 3, 1, 12]) 0 = some (3, 1) := rfl
  simp +decide only [mM_211.1, mM_211.2.1, mM_211.2.2.1, mM_211.2.2.2, cR, cH, mm_fixA, mm_fixO, hc, cK_catch hh, kill_1, ↓reduceIte]
theorem w212_ok {v : Int32} {A : Int32} {J : Nat → Nat → Int32} (hc : ∀ Q, mm_C (mm_entry 100 [.ref 0, .int v] (hp sc I o t)) Q ↔ Q (.inl (some (.int A))) (hp sc J o t)) : mm_C (mm_entry 212 [.ref 0, .int v, .ref 214] (hp sc I o t)) Q ↔ Q (.inl (some (.int 0))) (hp sc J A.toInt64 t) := by
  simp +decide only [mM_212.1, mM_212.2.1, mM_212.2.2.1, mM_212.2.2.2.1, mM_212.2.2.2.2, cR, cH, mm_fixA, mm_fixO, hc, ↓reduceIte]
theorem w212_t0 {v : Int32} (hc : ∀ Q, mm_C (mm_entry 100 [.ref 0, .int v] (hp sc I o t)) Q ↔ Q (.inr 0) (hp sc I o (t + 1))) : mm_C (mm_entry 212 [.ref 0, .int v, .ref 214] (hp sc I o t)) Q ↔ Q (.inl (some (.int 1))) (hp sc I o (t + 1)) := by
  have hh : mm_hnd (List.drop 6 [100, 2, 5, 86, 796, 0, 0, 3, 1, 12, 2, 3, 2, 15]) 0 = some (3, 1) := rfl
  simp +decide only [mM_212.1, mM_212.2.1, mM_212.2.2.1, mM_212.2.2.2.1, mM_212.2.2.2.2, cR, cH, mm_fixA, mm_fixO, hc, cK_catch hh, kill_1, ↓reduceIte]
theorem w212_t2 {v : Int32} (hc : ∀ Q, mm_C (mm_entry 100 [.ref 0, .int v] (hp sc I o t)) Q ↔ Q (.inr 2) (hp sc I o (t + 1))) : mm_C (mm_entry 212 [.ref 0, .int v, .ref 214] (hp sc I o t)) Q ↔ Q (.inl (some (.int 2))) (hp sc I o (t + 1)) := by
  have hh : mm_hnd (List.drop 6 [100, 2, 5, 86, 796, 0, 0, 3, 1, 12, 2, 3, 2, 15]) 2 = some (3, 2) := rfl
  simp +decide only [mM_212.1, mM_212.2.1, mM_212.2.2.1, mM_212.2.2.2.1, mM_212.2.2.2.2, cR, cH, mm_fixA, mm_fixO, hc, cK_catch hh, kill_1, ↓reduceIte]
end XH
