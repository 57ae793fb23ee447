/-! ===== a tavern copied ===== -/
theorem mf_o {M : Mem} {k a : Nat} {f : Nat → Int32} (h : a ≠ k) : mf M k f a = M a := by
  funext i; rw [mf_apply, if_neg h]
theorem mf_s {M : Mem} {k : Nat} {f : Nat → Int32} : mf M k f k = f := by
  funext i; rw [mf_apply, if_pos rfl]
theorem copy_is {M : Mem} {d s : Nat} (h : d + 9 < s ∨ s + 9 < d) : ∃ M', fX9_copyFrom d s M = some M' ∧ (∀ i, i < 6 → M' d i = M s i) ∧ (∀ i, i < 12 → M' (d + 1) i = M (s + 1) i ∧ M' (d + 2) i = M (s + 2) i ∧ M' (d + 3) i = M (s + 3) i) ∧ (∀ i, i < 14 → M' (d + 4) i = M (s + 4) i ∧ M' (d + 5) i = M (s + 5) i ∧ M' (d + 6) i = M (s + 6) i ∧ M' (d + 7) i = M (s + 7) i ∧ M' (d + 8) i = M (s + 8) i ∧ M' (d + 9) i = M (s + 9) i) ∧ ∀ x i, (x < d ∨ d + 9 < x) → M' x i = M x i := by
  have c12 : ∀ (M : Mem) a b, cpy M a 12 b 12 0 0 12 = some (mf M b (va_cpy (M a) (M b) 0 0 12)) := fun M a b => cpy_nI (c := 12) (by decide) (by decide) (by decide)
  have c14 : ∀ (M : Mem) a b, cpy M a 14 b 14 0 0 14 = some (mf M b (va_cpy (M a) (M b) 0 0 14)) := fun M a b => cpy_nI (c := 14) (by decide) (by decide) (by decide)
  unfold fX9_copyFrom
  dsimp only [bnd]
  rw [c12, Option.bind_some, c12, Option.bind_some, c12, Option.bind_some, c14, Option.bind_some, c14, Option.bind_some, c14, Option.bind_some, c14, Option.bind_some, c14, Option.bind_some, c14, Option.bind_some]
  refine ⟨_, rfl, fun i hi => ?_, fun i hi => ?_, fun i hi => ?_, fun x i hx => ?_⟩
  · simp (disch := omega) only [mf_o, mf_s]
    rcases (show i = 0 ∨ i = 1 ∨ i = 2 ∨ i = 3 ∨ i = 4 ∨ i = 5 by omega) with rfl | rfl | rfl | rfl | rfl | rfl <;> simp (disch := omega) only [mu_s, mu_i, mu_o]
  · refine ⟨?_, ?_, ?_⟩ <;> simp (disch := omega) only [mf_o, mf_s, cpy_apply, if_pos hi, mu_o]
  · refine ⟨?_, ?_, ?_, ?_, ?_, ?_⟩ <;> simp (disch := omega) only [mf_o, mf_s, cpy_apply, if_pos hi, mu_o]
  · simp (disch := omega) only [mf_o, mu_o]
