/-! ===== text: the other texts, step by step ===== -/
abbrev cT : List (Nat × Option Nat) := [(178, some 4), (178, some 5), (178, some 6), (178, some 7), (178, some 8)]
/-- what a line of another text changes on the reference's side: the hand, the fault, A from lo on -/
def FX (A lo : Nat) (M M' : Mem) : Prop := ∀ a i, ¬ (a = 198 ∧ (i = 14 ∨ i = 15 ∨ i = 16 ∨ i = 17 ∨ i = 31 ∨ i = 32)) → ¬ (a = A ∧ lo ≤ i) → M' a i = M a i
theorem FX.rfl' {A lo : Nat} {M : Mem} : FX A lo M M := fun _ _ _ _ => rfl
theorem FX.trans {A lo lo' : Nat} {M M' M'' : Mem} (h1 : FX A lo M M') (h2 : FX A lo' M' M'') (hl : lo ≤ lo') : FX A lo M M'' := fun a i q1 q2 => (h2 a i q1 (fun w => q2 ⟨w.1, by omega⟩)).trans (h1 a i q1 q2)
theorem FX_of {A lo : Nat} {M M' : Mem} (h : Agr [(198, some 14), (198, some 15), (198, some 16), (198, some 17), (198, some 31), (198, some 32)] M M') : FX A lo M M' := fun a i q1 _ => h a i (by simp) (by simp; omega)
theorem FX_mu {A lo j : Nat} {M : Mem} {v : Int32} (hj : lo ≤ j) : FX A lo M (mu M A j v) := fun a i _ q2 => by
  by_cases w : a = A
  · subst w; exact mu_i (fun w => q2 ⟨rfl, by omega⟩)
  · exact mu_o w
section PTS
variable {L : Nat} {b : Nat → Nat} {τ p e : Nat} {Mc Mm : Mem}
theorem PT_c {Mc' : Mem} (h : PT L b τ p e Mc Mm) (hc : ∀ i, i = 1 ∨ i = 4 ∨ i = 5 ∨ i = 6 ∨ i = 7 → Mc' 178 i = Mc 178 i) (h9 : ∀ i, Mc' 179 i = Mc 179 i) : PT L b τ p e Mc' Mm := by
  obtain ⟨h1, h2, h3, h4, h5, h6, h7⟩ := h
  exact ⟨TpR_c h1 (hc 1 (by omega)) (funext h9), h2, h3, h4, h5, HandC_congr h6 (hc 4 (by omega)) (hc 5 (by omega)) (hc 6 (by omega)) (hc 7 (by omega)) (funext h9), h7⟩
theorem PT_m {Mm' : Mem} (h : PT L b τ p e Mc Mm) (hm : ∀ i, i = 13 ∨ i = 14 ∨ i = 15 ∨ i = 16 ∨ i = 17 → Mm' 198 i = Mm 198 i) (h6' : ∀ i, Mm' 206 i = Mm 206 i) (h7' : ∀ i, Mm' 207 i = Mm 207 i) : PT L b τ p e Mc Mm' := by
  obtain ⟨h1, h2, h3, h4, h5, h6, h7⟩ := h
  exact ⟨TpR_m h1 (hm 13 (by omega)) (funext h6') (funext h7'), h2, h3, h4, h5, h6, HandM_congr h7 (hm 14 (by omega)) (hm 15 (by omega)) (hm 16 (by omega)) (hm 17 (by omega))⟩
theorem PT_mmu {A j : Nat} {v : Int32} (h : PT L b τ p e Mc Mm) (hA : A ≠ 198 ∧ A ≠ 206 ∧ A ≠ 207) : PT L b τ p e Mc (mu Mm A j v) := PT_m h (fun i _ => mu_o (by omega)) (fun i => mu_o (by omega)) (fun i => mu_o (by omega))
theorem PT_cmu {A j : Nat} {v : Int32} (h : PT L b τ p e Mc Mm) (hA : A ≠ 178 ∧ A ≠ 179) : PT L b τ p e (mu Mc A j v) Mm := PT_c h (fun i _ => mu_o (by omega)) (fun i => mu_o (by omega))
theorem pt_next (h : PT L b τ p e Mc Mm) : ∃ τ' p' e' Mc' Mm', fX8_advance Mc = some Mc' ∧ fX12_reads Mm = some Mm' ∧ PT L b τ' p' e' Mc' Mm' ∧ Agr cT Mc Mc' ∧ (∀ A lo, FX A lo Mm Mm') ∧ Mc' 178 8 = Mc 178 8 := by
  obtain ⟨h1, h2, h3, h4, h5, h6, h7⟩ := h
  obtain ⟨τ', p', e', Mc', Mm', a1, a2, a3, a4, a5, a6, a7, a8, a9⟩ := tok_step h1 h3 h6.2.1 h7.2.1
  have hc : Agr [(178, some 4), (178, some 5), (178, some 6), (178, some 7)] Mc Mc' := Agr.ofU (wX8_advance Mc) a6
  have hm : Agr [(198, some 14), (198, some 15), (198, some 16), (198, some 17)] Mm Mm' := Agr.ofU (wX12_reads Mm) a7
  refine ⟨τ', p', e', Mc', Mm', a6, a7, ⟨?_, a2, a3, a4, a5, a8, a9⟩, hc.mono (by decide), fun A lo => FX_of (hm.mono (by decide)), hc 178 8 (by decide) (by decide)⟩
  exact TpR_m (TpR_c h1 (hc 178 1 (by decide) (by decide)) (funext fun i => hc 179 i (by simp) (by simp))) (hm 198 13 (by decide) (by decide)) (funext fun i => hm 206 i (by simp) (by simp)) (funext fun i => hm 207 i (by simp) (by simp))
theorem pt_fault (h : PT L b τ p e Mc Mm) (k : Int32) : ∃ Mc' Mm', fX8_refuse k Mc = some (0, Mc') ∧ fX12_errs k Mm = some (-1, Mm') ∧ FR Mc' Mm' ∧ ∀ A lo, FX A lo Mm Mm' := by
  obtain ⟨h1, h2, h3, h4, h5, h6, h7⟩ := h
  have e2 : fX12_errs k Mm = some (-1, mu (mu Mm 198 31 k) 198 32 (mu Mm 198 31 k 198 15)) := rfl
  have hm := Agr.of (wX12_errs k Mm) e2
  refine ⟨_, _, rfl, rfl, ⟨?_, ?_⟩, fun A lo => FX_of (hm.mono (by decide))⟩
  · rw [mu_i (by omega), mu_s, mu_i (by omega), mu_s]
  · rw [mu_s, mu_s, mu_i (by omega), mu_i (by omega), h6.1, h7.1]
theorem pt_flt (h : PT L b τ p e Mc Mm) (k : Int32) : ∃ Mc' Mm', ((fX8_refuse k Mc).bind fun r8 => if r8.1 = 0 ∨ r8.1 = 1 then some (r8.1, r8.2) else none) = some (0, Mc') ∧ ((fX12_errs k Mm).bind fun r27 => some (r27.1, r27.2)) = some (-1, Mm') ∧ FR Mc' Mm' ∧ ∀ A lo, FX A lo Mm Mm' := by
  obtain ⟨Mc', Mm', f1, f2, f3, f4⟩ := pt_fault h k
  exact ⟨Mc', Mm', by rw [f1, Option.bind_some]; exact if_pos (Or.inl rfl), by rw [f2]; rfl, f3, f4⟩
theorem hc_num (h : HandC τ p e Mc) : (Mc 178 4 = 2 ∧ 1000 ≤ τ ∧ τ ≤ 10999 ∧ Mc 178 7 = nI (τ - 1000)) ∨ (¬ Mc 178 4 = 2 ∧ τ < 1000) := by
  rcases h.2.2.2.2 with ⟨a, b⟩ | ⟨a, b, c, d⟩ | ⟨a, b, c, d, e⟩
  · exact Or.inr ⟨fun w => absurd (b.symm.trans w) (by decide), by omega⟩
  · exact Or.inl ⟨c, a, b, d⟩
  · exact Or.inr ⟨d, b⟩
theorem hm_num (h : HandM τ p e Mm) : (Mm 198 16 = 3 ∧ 1000 ≤ τ ∧ τ ≤ 10999 ∧ Mm 198 17 = nI (τ - 1000)) ∨ (¬ Mm 198 16 = 3 ∧ τ < 1000) := by
  rcases h.2.2 with ⟨a, b⟩ | ⟨a, b⟩ | ⟨w', w1, a, b, d⟩ | ⟨c', w1, a, b, d⟩ | ⟨v', w1, a, b, d⟩
  · exact Or.inr ⟨fun w => absurd (b.symm.trans w) (by decide), by omega⟩
  · exact Or.inr ⟨fun w => absurd (b.symm.trans w) (by decide), by omega⟩
  · exact Or.inr ⟨fun w => absurd (b.symm.trans w) (by decide), by omega⟩
  · have := mk_lt c' (mk_all c' w1) w1
    exact Or.inr ⟨fun w => absurd (b.symm.trans w) (by decide), by omega⟩
  · exact Or.inl ⟨b, by omega, by omega, by rw [d, show v' = τ - 1000 by omega]⟩
theorem hi_1 {bd v : Nat} (h2 : bd ≤ 1000) (hv : v ≤ 9999) : (nI bd - 1 < nI v) ↔ bd ≤ v := by
  by_cases q : bd = 0
  · subst q
    refine ⟨fun _ => Nat.zero_le _, fun _ => Int32.lt_iff_toInt_lt.mpr ?_⟩
    rw [nI_toInt (by omega), show (nI 0 - 1 : Int32).toInt = -1 by decide]
    omega
  · rw [nI_sub1 (by omega)]
    refine ⟨fun w => ?_, fun w => nI_lt (by omega) (by omega)⟩
    by_cases x : bd ≤ v
    · exact x
    · exact absurd w (nI_nlt (by omega) (by omega))
theorem pt_num {bd : Nat} (h : PT L b τ p e Mc Mm) (h2 : bd ≤ 1000) :
    (∃ Mc' Mm', fX8_takeNumber (nI bd) Mc = some (0, Mc') ∧ fX12_readNumber 0 (nI bd - 1) Mm = some (-1, Mm') ∧ FR Mc' Mm' ∧ ∀ A lo, FX A lo Mm Mm') ∨
    (∃ v τ' p' e' Mc' Mm', v < bd ∧ fX8_takeNumber (nI bd) Mc = some (1, Mc') ∧ Mc' 178 8 = nI v ∧ fX12_readNumber 0 (nI bd - 1) Mm = some (nI v, Mm') ∧ PT L b τ' p' e' Mc' Mm' ∧ Agr cT Mc Mc' ∧ ∀ A lo, FX A lo Mm Mm') := by
  unfold fX8_takeNumber fX12_readNumber
  rcases hc_num h.2.2.2.2.2.1 with ⟨a1, a2, a3, a4⟩ | ⟨a1, a2⟩
  · rcases hm_num h.2.2.2.2.2.2 with ⟨b1, b2, b3, b4⟩ | ⟨b1, b2⟩
    · rw [if_pos a1, if_pos b1, a4, b4]
      by_cases q : τ - 1000 < bd
      · right
        have i1 : fX12_isIn (nI (τ - 1000)) 0 (nI bd - 1) = 1 := by
          unfold fX12_isIn
          rw [if_neg (show ¬ nI (τ - 1000) < (0 : Int32) from nI_nlt (b := 0) (by omega) (by omega)), if_neg (fun w => absurd ((hi_1 h2 (by omega)).mp w) (by omega))]
        rw [if_pos (nI_lt q (by omega)), i1, if_neg one_ne, bnd_eq, bnd_eq]
        have pA : PT L b τ p e (mu Mc 178 8 (nI (τ - 1000))) Mm := PT_c h (fun i q => mu_i (by omega)) (fun i => mu_o (by omega))
        obtain ⟨τ', p', e', Mc', Mm', c1, c2, c3, c4, c5, c6⟩ := pt_next pA
        exact ⟨τ - 1000, τ', p', e', Mc', Mm', q, by rw [c1]; rfl, by rw [c6, mu_s], by rw [c2]; rfl, c3, Agr.trans (Agr.mu Agr.rfl' (Or.inl (by decide))) c4, c5⟩
      · left
        have i0 : fX12_isIn (nI (τ - 1000)) 0 (nI bd - 1) = 0 := by
          unfold fX12_isIn
          rw [if_neg (show ¬ nI (τ - 1000) < (0 : Int32) from nI_nlt (b := 0) (by omega) (by omega)), if_pos ((hi_1 h2 (by omega)).mpr (by omega))]
        rw [if_neg (nI_nlt (show bd ≤ τ - 1000 by omega) (by omega)), i0, if_pos rfl]
        exact pt_flt h 2
    · omega
  · rcases hm_num h.2.2.2.2.2.2 with ⟨b1, b2, b3, b4⟩ | ⟨b1, b2⟩
    · omega
    · left
      rw [if_neg a1, if_neg b1]
      exact pt_flt h 1
theorem pt_word {i w : Nat} (h : PT L b τ p e Mc Mm) (hi : i < 22) (hw : wmap i = w) :
    (¬ τ = 10 + w ∧ ∃ Mc' Mm', fX8_takeWord i Mc = some (0, Mc') ∧ ((fX12_errs 1 Mm).bind fun r27 => some (r27.1, r27.2)) = some (-1, Mm') ∧ FR Mc' Mm' ∧ ∀ A lo, FX A lo Mm Mm') ∨
    (τ = 10 + w ∧ ∃ τ' p' e' Mc' Mm', fX8_takeWord i Mc = some (1, Mc') ∧ fX12_reads Mm = some Mm' ∧ PT L b τ' p' e' Mc' Mm' ∧ Agr cT Mc Mc' ∧ ∀ A lo, FX A lo Mm Mm') := by
  have v := h.2.2.2.2.2.1.2.2.1 i hi
  rw [hw] at v
  unfold fX8_takeWord
  rw [v, Option.bind_some]
  by_cases q : τ = 10 + w
  · right
    obtain ⟨τ', p', e', Mc', Mm', c1, c2, c3, c4, c5, c6⟩ := pt_next h
    rw [if_pos q, if_neg one_ne]
    exact ⟨q, τ', p', e', Mc', Mm', by rw [c1]; rfl, c2, c3, c4, c5⟩
  · left
    rw [if_neg q, if_pos rfl]
    exact ⟨q, pt_flt h 1⟩
theorem pt_sign (h : PT L b τ p e Mc Mm) :
    (∃ Mc' Mm', fX8_takeSign 59 Mc = some (0, Mc') ∧ fX12_readMark 59 Mm = some (-1, Mm') ∧ FR Mc' Mm' ∧ ∀ A lo, FX A lo Mm Mm') ∨
    (∃ τ' p' e' Mc' Mm', fX8_takeSign 59 Mc = some (1, Mc') ∧ fX12_readMark 59 Mm = some (0, Mm') ∧ PT L b τ' p' e' Mc' Mm' ∧ Agr cT Mc Mc' ∧ ∀ A lo, FX A lo Mm Mm') := by
  have s1 : fX8_isSign 59 Mc = if τ = 159 then 1 else 0 := hc_sign (c := 59) h.2.2.2.2.2.1 (by decide)
  have s2 : fX12_isSign 59 Mm = if τ = 159 then 1 else 0 := hm_sign (c := 59) h.2.2.2.2.2.2 (by decide)
  unfold fX8_takeSign fX12_readMark
  rw [s1, s2]
  by_cases q : τ = 159
  · right
    obtain ⟨τ', p', e', Mc', Mm', c1, c2, c3, c4, c5, c6⟩ := pt_next h
    rw [if_pos q, if_neg one_ne, if_neg one_ne]
    exact ⟨τ', p', e', Mc', Mm', by rw [c1]; rfl, by rw [c2]; rfl, c3, c4, c5⟩
  · left
    rw [if_neg q, if_pos rfl, if_pos rfl]
    exact pt_flt h 1
end PTS
