/-! ===== text 2: a line ===== -/
def endC (J : Mem → Option (Int32 × Mem)) (M : Mem) : Option (Int32 × Mem) := (fX8_takeSign 59 M).bind fun r7 => if r7.1 = 0 then (some (0, r7.2)) else ((fX3_append 190 (r7.2 189 1) (r7.2 189 2) (r7.2 189 3) (r7.2 189 4) r7.2).bind J)
theorem ln_fin {L : Nat} {b : Nat → Nat} {τ p e P B k : Nat} {M0 Mc Mm : Mem} (h : PT L b τ p e Mc Mm) (hG : G0 M0 P B k Mc Mm) (hk : k < 16) :
    (∃ Mc' Mm', (∀ J, endC J Mc = some (0, Mc')) ∧ fX12_readMark 59 Mm = some (-1, Mm') ∧ FR Mc' Mm' ∧ TX M0 Mm') ∨
    (∃ τ' p' e' Mc' Mm', (∀ J, endC J Mc = J Mc') ∧ fX12_readMark 59 Mm = some (0, Mm') ∧ PT L b τ' p' e' Mc' Mm' ∧ G0 M0 P B (k + 1) Mc' Mm' ∧ Mc' 191 k = Mc 189 1 ∧ Mc' 192 k = Mc 189 2 ∧ Mc' 193 k = Mc 189 3 ∧ Mc' 194 k = Mc 189 4 ∧ (∀ j i, 191 ≤ j → j ≤ 194 → i < k → Mc' j i = Mc j i) ∧ ∀ A lo, FX A lo Mm Mm') := by
  rcases pt_sign h with ⟨Mc', Mm', n1, n2, n3, n4⟩ | ⟨τ8, p8, e8, Mc8, Mm8, n1, n2, n3, n4, n5⟩
  · left
    exact ⟨Mc', Mm', fun J => by rw [endC, n1, Option.bind_some, if_pos rfl], n2, n3, hG.1.trans (TX_FX (n4 216 48) (by omega))⟩
  · right
    obtain ⟨Mc9, s1, s2, s3, s4, s5, s6, s7, s8⟩ := app_eq (G0_m (G0_c hG (n4.mono (by decide))) (n5 216 48) (by omega)) hk (Mc8 189 1) (Mc8 189 2) (Mc8 189 3) (Mc8 189 4)
    refine ⟨τ8, p8, e8, Mc9, Mm8, fun J => ?_, n2, PT_c n3 (fun i _ => s8 178 i (by omega)) (fun i => s8 179 i (by omega)), s2, s3.trans (n4 189 1 (by decide) (by decide)), s4.trans (n4 189 2 (by decide) (by decide)), s5.trans (n4 189 3 (by decide) (by decide)), s6.trans (n4 189 4 (by decide) (by decide)), fun j i q1 q2 q3 => (s7 j i q1 q2 q3).trans (n4 j i (by simp) (by simp; omega)), n5⟩
    rw [endC, n1, Option.bind_some, if_neg one_ne]
    dsimp only
    rw [s1, Option.bind_some]
/-- 'on' and a number, on both sides -/
theorem on_num {L : Nat} {b : Nat → Nat} {τ p e : Nat} {Mc Mm : Mem} {z2 : Int32} (hz : ¬ z2 = 3) (h : PT L b τ p e Mc Mm) (hτ : τ = 27) :
    (∃ Mc' Mm', (∀ J, lnX z2 J Mc = some (0, Mc')) ∧ fX12_readTold 17 0 999 Mm = some (-1, Mm') ∧ FR Mc' Mm' ∧ ∀ A lo, FX A lo Mm Mm') ∨
    (∃ v τ' p' e' Mc' Mm', v < 1000 ∧ (∀ J, lnX z2 J Mc = ((if z2 = 1 then (fX4_readTwist Mc').bind fun r8 => if r8.1 = 0 ∨ r8.1 = 1 then some (r8.1, r8.2) else none else (fX4_readEvening Mc').bind fun r7 => if r7.1 = 0 ∨ r7.1 = 1 then some (r7.1, r7.2) else none)).bind fun r6 => if r6.1 = 0 then (some (0, r6.2)) else endC J r6.2) ∧ fX12_readTold 17 0 999 Mm = some (nI v, Mm') ∧ PT L b τ' p' e' Mc' Mm' ∧ Agr cX Mc Mc' ∧ Mc' 189 1 = nI v ∧ ∀ A lo, FX A lo Mm Mm') := by
  obtain ⟨τ1, p1, e1, Mc1, Mm1, a1, a2, a3, a4, a5, a6⟩ := pt_next h
  have w17 : fX12_isWord 17 Mm = 1 := by
    have := hm_word (w := 17) h.2.2.2.2.2.2 (by omega)
    rw [if_pos (by omega)] at this; exact this
  have pA : PT L b τ1 p1 e1 (mu (mu (mu (mu Mc1 189 1 0) 189 2 0) 189 3 0) 189 4 0) Mm1 := PT_cmu (PT_cmu (PT_cmu (PT_cmu a3 (by omega)) (by omega)) (by omega)) (by omega)
  have cA1 : Agr cX Mc (mu (mu (mu (mu Mc1 189 1 0) 189 2 0) 189 3 0) 189 4 0) := Agr.mu (Agr.mu (Agr.mu (Agr.mu (a4.mono (by decide)) (Or.inl (by decide))) (Or.inl (by decide))) (Or.inl (by decide))) (Or.inl (by decide))
  have eC : ∀ J, lnX z2 J Mc = ((fX8_takeNumber 1000 (mu (mu (mu (mu Mc1 189 1 0) 189 2 0) 189 3 0) 189 4 0)).bind fun r5 => if r5.1 = 0 then some (0, r5.2) else if z2 = 1 then (fX4_readTwist (mu r5.2 189 1 (r5.2 178 8))).bind fun r8 => if r8.1 = 0 ∨ r8.1 = 1 then some (r8.1, r8.2) else none else (fX4_readEvening (mu r5.2 189 1 (r5.2 178 8))).bind fun r7 => if r7.1 = 0 ∨ r7.1 = 1 then some (r7.1, r7.2) else none).bind fun r6 => if r6.1 = 0 then (some (0, r6.2)) else endC J r6.2 := fun J => by
    unfold lnX fX4_readLine
    rw [a1, Option.bind_some, bnd_eq, bnd_eq, bnd_eq, bnd_eq, if_neg hz]
    rfl
  have eM : fX12_readTold 17 0 999 Mm = (fX12_readNumber 0 (nI 1000 - 1) Mm1).bind fun r2 => some (r2.1, r2.2) := by
    unfold fX12_readTold
    rw [w17, if_neg one_ne, a2, Option.bind_some]
    rfl
  rcases pt_num (bd := 1000) pA (by omega) with ⟨Mc', Mm', f1, f2, f3, f4⟩ | ⟨v, τ2, p2, e2, Mc2, Mm2, f0, f1, f2, f3, f4, f5, f6⟩
  · left
    have f1 : fX8_takeNumber 1000 _ = some (0, Mc') := f1
    refine ⟨Mc', Mm', fun J => ?_, by rw [eM, f2]; rfl, f3, fun A lo => (a5 A lo).trans (f4 A lo) (Nat.le_refl _)⟩
    rw [eC, f1, Option.bind_some, if_pos rfl, Option.bind_some, if_pos rfl]
  · right
    have f1 : fX8_takeNumber 1000 _ = some (1, Mc2) := f1
    refine ⟨v, τ2, p2, e2, mu Mc2 189 1 (nI v), Mm2, f0, fun J => ?_, by rw [eM, f3]; rfl, PT_cmu f4 (by omega), Agr.mu (cA1.trans (f5.mono (by decide))) (Or.inl (by decide)), mu_s, fun A lo => (a5 A lo).trans (f6 A lo) (Nat.le_refl _)⟩
    rw [eC, f1, Option.bind_some, if_neg one_ne]
    dsimp only
    rw [f2]
def kd4 (τ : Nat) : Int32 := if τ = 21 then 0 else if τ = 22 then 1 else if τ = 20 then 2 else if τ = 17 then 3 else -1
theorem kind_c {L : Nat} {b : Nat → Nat} {τ p e : Nat} {Mc Mm : Mem} (h : PT L b τ p e Mc Mm) : fX4_kindAtHand Mc = some (kd4 τ) := by
  have hC := h.2.2.2.2.2.1
  have v1 : fX8_isWord 7 Mc = some (if τ = 21 then 1 else 0) := hC.2.2.1 7 (by omega)
  have v2 : fX8_isWord 8 Mc = some (if τ = 22 then 1 else 0) := hC.2.2.1 8 (by omega)
  have v3 : fX8_isWord 6 Mc = some (if τ = 20 then 1 else 0) := hC.2.2.1 6 (by omega)
  have v4 : fX8_isWord 3 Mc = some (if τ = 17 then 1 else 0) := hC.2.2.1 3 (by omega)
  unfold fX4_kindAtHand kd4
  rw [v1, Option.bind_some, v2, Option.bind_some, v3, Option.bind_some, v4, Option.bind_some]
  by_cases c1 : τ = 21
  · rw [if_pos c1, if_neg one_ne, if_pos c1]
  · rw [if_neg c1, if_pos rfl, if_neg c1]
    by_cases c2 : τ = 22
    · rw [if_pos c2, if_neg one_ne, if_pos c2]
    · rw [if_neg c2, if_pos rfl, if_neg c2]
      by_cases c3 : τ = 20
      · rw [if_pos c3, if_neg one_ne, if_pos c3]
      · rw [if_neg c3, if_pos rfl, if_neg c3]
        by_cases c4 : τ = 17
        · rw [if_pos c4, if_neg one_ne, if_pos c4]
        · rw [if_neg c4, if_pos rfl, if_neg c4]
theorem kind_m {L : Nat} {b : Nat → Nat} {τ p e : Nat} {Mc Mm : Mem} (h : PT L b τ p e Mc Mm) : fX12_kindOfStreet Mm = kd4 τ := by
  have hM := h.2.2.2.2.2.2
  have v1 : fX12_isWord 11 Mm = if τ = 21 then 1 else 0 := hm_word (w := 11) hM (by omega)
  have v2 : fX12_isWord 12 Mm = if τ = 22 then 1 else 0 := hm_word (w := 12) hM (by omega)
  have v3 : fX12_isWord 10 Mm = if τ = 20 then 1 else 0 := hm_word (w := 10) hM (by omega)
  have v4 : fX12_isWord 7 Mm = if τ = 17 then 1 else 0 := hm_word (w := 7) hM (by omega)
  unfold fX12_kindOfStreet kd4
  rw [v1, v2, v3, v4]
  by_cases c1 : τ = 21
  · rw [if_pos c1, if_neg one_ne, if_pos c1]
  · rw [if_neg c1, if_pos rfl, if_neg c1]
    by_cases c2 : τ = 22
    · rw [if_pos c2, if_neg one_ne, if_pos c2]
    · rw [if_neg c2, if_pos rfl, if_neg c2]
      by_cases c3 : τ = 20
      · rw [if_pos c3, if_neg one_ne, if_pos c3]
      · rw [if_neg c3, if_pos rfl, if_neg c3]
        by_cases c4 : τ = 17
        · rw [if_pos c4, if_neg one_ne, if_pos c4]
        · rw [if_neg c4, if_pos rfl, if_neg c4]
theorem kd4_cases (τ : Nat) : kd4 τ = -1 ∨ ∃ x, x ≤ 3 ∧ kd4 τ = nI x := by
  unfold kd4
  by_cases c1 : τ = 21
  · exact Or.inr ⟨0, by omega, by rw [if_pos c1]; rfl⟩
  · by_cases c2 : τ = 22
    · exact Or.inr ⟨1, by omega, by rw [if_neg c1, if_pos c2]; rfl⟩
    · by_cases c3 : τ = 20
      · exact Or.inr ⟨2, by omega, by rw [if_neg c1, if_neg c2, if_pos c3]; rfl⟩
      · by_cases c4 : τ = 17
        · exact Or.inr ⟨3, by omega, by rw [if_neg c1, if_neg c2, if_neg c3, if_pos c4]; rfl⟩
        · exact Or.inl (by rw [if_neg c1, if_neg c2, if_neg c3, if_neg c4])
