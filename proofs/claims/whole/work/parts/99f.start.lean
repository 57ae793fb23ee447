/-! ===== the memory behind the constructors is related to itself ===== -/
/-- what the constructors leave: constants, all else 0 -/
def M0 : Mem := fun a i =>
  if a = 207 then wordsL.getD i 0
  else if (a = 12 ∨ a = 64) ∧ i = 1 then 150
  else if (a = 25 ∨ a = 30 ∨ a = 35 ∨ a = 77 ∨ a = 82 ∨ a = 87 ∨ a = 190) ∧ i = 1 then 16
  else if (a = 41 ∨ a = 93) ∧ i = 3 then 9
  else if (a = 43 ∨ a = 95) ∧ i = 3 then 2
  else if (a = 45 ∨ a = 97) ∧ i = 2 then 1
  else if (a = 45 ∨ a = 97) ∧ i = 3 then 9
  else if (a = 45 ∨ a = 97) ∧ i = 4 then 1
  else if (a = 47 ∨ a = 99) ∧ i = 3 then 200
  else if (a = 47 ∨ a = 99) ∧ i = 4 then 1
  else if (a = 178 ∧ i = 3) ∨ (a = 198 ∧ i = 34) then -1
  else 0
section START
theorem M0_0 {a : Nat} (h : ∀ x, x ∈ [207, 12, 64, 25, 30, 35, 77, 82, 87, 190, 41, 93, 43, 95, 45, 97, 47, 99, 178, 198] → a ≠ x) (i : Nat) : M0 a i = 0 := by
  have q : ∀ x, x ∈ [207, 12, 64, 25, 30, 35, 77, 82, 87, 190, 41, 93, 43, 95, 45, 97, 47, 99, 178, 198] → ¬ a = x := h
  simp only [List.mem_cons, List.not_mem_nil, or_false, forall_eq_or_imp, forall_eq] at q
  obtain ⟨q1, q2, q3, q4, q5, q6, q7, q8, q9, q10, q11, q12, q13, q14, q15, q16, q17, q18, q19, q20⟩ := q
  simp [M0, q1, q2, q3, q4, q5, q6, q7, q8, q9, q10, q11, q12, q13, q14, q15, q16, q17, q18, q19, q20]
theorem AR_0 : AR M0 M0 := by
  have z : ∀ (a : Nat), (∀ x, x ∈ [207, 12, 64, 25, 30, 35, 77, 82, 87, 190, 41, 93, 43, 95, 45, 97, 47, 99, 178, 198] → a ≠ x) → ∀ i, M0 a i = 0 := fun a h i => M0_0 h i
  have z199 := z 199 (by decide)
  have hm : ∀ b, hmask (M0 38) (M0 39) b 0 = 0 := fun b => rfl
  refine ⟨⟨0, 0, 0, ⟨by omega, by omega, rfl, rfl, fun b hb => absurd hb (by omega)⟩, ?_, ?_, ⟨by omega, rfl, z199 2, fun i hi => absurd hi (by omega)⟩, ⟨0, 0, by omega, by omega, rfl, rfl, rfl, fun i hi => absurd hi (by omega), fun i hi => absurd hi (by omega)⟩, ⟨0, by omega, rfl, rfl, fun i hi => absurd hi (by omega)⟩, ⟨0, by omega, rfl, rfl, fun i hi => absurd hi (by omega)⟩, ⟨0, by omega, rfl, rfl, fun i hi => absurd hi (by omega), fun b _ => z 218 (by decide) b⟩, ?_⟩, ⟨0, z199 2, by omega, 0, 0, by omega, by omega, rfl, rfl, rfl, fun _ => 0, fun i hi => absurd hi (by omega), fun i hi => absurd hi (by omega)⟩, ⟨0, by omega, rfl, rfl, fun i hi => absurd hi (by omega)⟩, ⟨rfl, rfl⟩, Or.inl ⟨rfl, rfl⟩, ?_⟩
  · refine ⟨⟨rfl, rfl, rfl, rfl⟩, fun p _ => ⟨?_, ?_, ?_⟩, fun b _ => ⟨?_, ?_, ?_⟩, fun b _ => ⟨0, by omega, z199 _⟩⟩
    · rw [z199]; exact z 3 (by decide) p
    · rw [z199]; exact z 4 (by decide) p
    · rw [z199]; exact z 5 (by decide) p
    · rw [z199]; exact z 9 (by decide) b
    · rw [z199]; exact z 10 (by decide) b
    · rw [z199]; exact z 11 (by decide) b
  · refine ⟨rfl, rfl, fun b _ => ⟨?_, ?_, ?_⟩⟩
    · rw [z 202 (by decide)]; exact z 6 (by decide) b
    · rw [z 203 (by decide)]; exact z 7 (by decide) b
    · rw [z 204 (by decide)]; exact z 8 (by decide) b
  · refine ⟨⟨rfl, rfl, rfl, 0, by omega, rfl, rfl, fun i hi => absurd hi (by omega)⟩, ⟨rfl, rfl, rfl, 0, by omega, rfl, rfl, fun i hi => absurd hi (by omega)⟩, ⟨rfl, rfl, rfl, 0, by omega, rfl, z 231 (by decide) 0, fun i hi => absurd hi (by omega)⟩, ⟨rfl, rfl, rfl, 0, by omega, rfl, z 231 (by decide) 1, fun i hi => absurd hi (by omega)⟩, fun i _ => ⟨0, by omega, z 50 (by decide) i, z 230 (by decide) i⟩⟩
  · refine ⟨by decide, by decide, by decide, by decide, by decide, by decide, fun i _ => z 196 (by decide) i, fun i _ => rfl, rfl, rfl, rfl⟩
theorem law_whole (g : G) (hg : gL g ≤ 3072) : ∃ M', fL_law g 0 M0 = some (1, M') := by
  have z0 : nI (6 * 0) = (0 : Int32) := rfl
  have := law_ok g (by omega) FU 0 M0 (by omega) (by have := FU_gt (n := 99999) (by omega); omega) AR_0
  rw [z0] at this
  exact this
end START
