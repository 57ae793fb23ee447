/-! ===== text: the other texts, the loop ===== -/
def lnX (z2 : Int32) (J : Mem → Option (Int32 × Mem)) (M : Mem) : Option (Int32 × Mem) := (fX8_advance M).bind fun M5 => (fX4_readLine z2 M5).bind fun r6 => if r6.1 = 0 then (some (0, r6.2)) else ((fX8_takeSign 59 r6.2).bind fun r7 => if r7.1 = 0 then (some (0, r7.2)) else ((fX3_append 190 (r7.2 189 1) (r7.2 189 2) (r7.2 189 3) (r7.2 189 4) r7.2).bind J))
theorem oth_s (z2 : Int32) (n : Nat) (y4 : Int32) (M : Mem) : fX4_read_L11 (fun M11 => some (1, M11)) (fun M12 => some (0, M12)) z2 (n + 1) y4 M = if 16 < y4 then some (1, M) else if M 178 4 = 0 then some (1, M) else (fX8_isWord (if z2 = 3 then 17 else 18) M).bind fun v4 => if v4 = 0 then ((fX8_refuse 1 M).bind fun r10 => if r10.1 = 0 ∨ r10.1 = 1 then some (r10.1, r10.2) else none) else if y4 = 16 then ((fX8_refuse 3 M).bind fun r9 => if r9.1 = 0 ∨ r9.1 = 1 then some (r9.1, r9.2) else none) else lnX z2 (fX4_read_L11 (fun M11 => some (1, M11)) (fun M12 => some (0, M12)) z2 n (y4 + 1)) M := by
  rw [fX4_read_L11]
  by_cases c : z2 = 3
  · rw [if_pos c, jn_eq, if_pos c]; rfl
  · rw [if_neg c, jn_eq, if_neg c]; rfl
theorem oth_L {L : Nat} {b : Nat → Nat} {z2 : Int32} {w : Nat} (hw22 : w < 22) (hw : wmap (if z2 = 3 then 17 else 18) = w) (I : Nat → Mem → Mem → Prop) (Q : Mem → Prop) (hIQ : ∀ k Mc Mm Mm', I k Mc Mm → (∀ A lo, FX A lo Mm Mm') → Q Mm') (RL : Nat → Int32 → Mem → Option (Int32 × Mem)) (line : Int32 → Mem → Option (Int32 × Mem))
    (hRL : ∀ n y M, RL (n + 1) y M = if fX12_isWord (nI w) M = 0 then KM y M else if y = 16 then ((fX12_errs 3 M).bind fun r3 => some (r3.1, r3.2)) else ((line y M).bind fun r1 => if r1.1 = -1 then some (-1, r1.2) else RL n (y + 1) r1.2))
    (hline : ∀ (k τ p e : Nat) (Mc Mm : Mem), k < 16 → PT L b τ p e Mc Mm → τ = 10 + w → I k Mc Mm → (∃ Mc' Mm', (∀ J, lnX z2 J Mc = some (0, Mc')) ∧ line (nI k) Mm = some (-1, Mm') ∧ FR Mc' Mm' ∧ Q Mm') ∨ (∃ τ' p' e' r Mc' Mm', (∀ J, lnX z2 J Mc = J Mc') ∧ ¬ r = -1 ∧ line (nI k) Mm = some (r, Mm') ∧ PT L b τ' p' e' Mc' Mm' ∧ I (k + 1) Mc' Mm')) :
    ∀ (F1 F2 k τ p e : Nat) (Mc Mm : Mem), 16 - k < F1 → 16 - k < F2 → k ≤ 16 → PT L b τ p e Mc Mm → I k Mc Mm →
    (∃ Mc' Mm', fX4_read_L11 (fun M11 => some (1, M11)) (fun M12 => some (0, M12)) z2 F1 (nI k) Mc = some (0, Mc') ∧ RL F2 (nI k) Mm = some (-1, Mm') ∧ FR Mc' Mm' ∧ Q Mm') ∨
    (∃ n Mc' Mm', fX4_read_L11 (fun M11 => some (1, M11)) (fun M12 => some (0, M12)) z2 F1 (nI k) Mc = some (1, Mc') ∧ RL F2 (nI k) Mm = some (nI n, Mm') ∧ n ≤ 16 ∧ I n Mc' Mm')
  | 0, _, _, _, _, _, _, _ => by intros; omega
  | _, 0, _, _, _, _, _, _ => by intros; omega
  | F1 + 1, F2 + 1, k, τ, p, e, Mc, Mm => by
    intro hF1 hF2 hk h hI
    have hC := h.2.2.2.2.2.1
    have hM := h.2.2.2.2.2.2
    have flt : ∀ q : Int32, ∃ Mc' Mm', ((fX8_refuse q Mc).bind fun r8 => if r8.1 = 0 ∨ r8.1 = 1 then some (r8.1, r8.2) else none) = some (0, Mc') ∧ ((fX12_errs q Mm).bind fun r27 => some (r27.1, r27.2)) = some (-1, Mm') ∧ FR Mc' Mm' ∧ Q Mm' := fun q => by
      obtain ⟨Mc', Mm', f1, f2, f3, f4⟩ := pt_flt h q
      exact ⟨Mc', Mm', f1, f2, f3, hIQ k Mc Mm Mm' hI f4⟩
    have vC := hC.2.2.1 (if z2 = 3 then 17 else 18) (by split <;> omega)
    rw [hw] at vC
    rw [oth_s, hRL, hm_word hM hw22, if_neg (show ¬ (16 : Int32) < nI k from nI_nlt (show k ≤ 16 from hk) (by decide)), vC]
    by_cases t0 : τ = 0
    · right
      rw [if_pos ((hc_end hC).mpr t0), if_neg (show ¬ τ = 10 + w by omega), if_pos rfl, KM, if_pos ((hm_end hM).mpr t0)]
      exact ⟨k, Mc, Mm, rfl, rfl, hk, hI⟩
    · rw [if_neg (fun w => t0 ((hc_end hC).mp w)), Option.bind_some]
      by_cases tw : τ = 10 + w
      · rw [if_pos tw, if_neg one_ne, if_neg one_ne]
        by_cases c16 : k = 16
        · left
          have c : nI k = 16 := by rw [c16]; rfl
          rw [if_pos c, if_pos c]
          exact flt 3
        · have c : ¬ nI k = 16 := fun x => c16 ((nI_eqb (by omega) (by omega)).mp x)
          rw [if_neg c, if_neg c, nI_1]
          rcases hline k τ p e Mc Mm (by omega) h tw hI with ⟨Mc', Mm', g1, g2, g3, g4⟩ | ⟨τ', p', e', r, Mc', Mm', g1, g2, g3, g4, g5⟩
          · left
            exact ⟨Mc', Mm', g1 _, by rw [g2, Option.bind_some, if_pos rfl], g3, g4⟩
          · rw [g1, g3, Option.bind_some, if_neg g2]
            exact oth_L hw22 hw I Q hIQ RL line hRL hline F1 F2 (k + 1) τ' p' e' Mc' Mm' (by omega) (by omega) (by omega) g4 g5
      · left
        rw [if_neg tw, if_pos rfl, if_pos rfl, KM, if_neg (fun w => t0 ((hm_end hM).mp w))]
        exact flt 1
/-- what stands while a text is read -/
def G0 (M0 : Mem) (P B k : Nat) (Mc Mm : Mem) : Prop := TX M0 Mm ∧ Mc 178 2 = 0 ∧ Mc 178 3 = -1 ∧ Mm 198 33 = 0 ∧ Mm 198 34 = -1 ∧ Fx Mc 2 Mm ∧ Bd P B Mm ∧ Mc 190 0 = nI k ∧ Mc 190 1 = 16
abbrev cX : List (Nat × Option Nat) := [(178, some 4), (178, some 5), (178, some 6), (178, some 7), (178, some 8), (189, some 1), (189, some 2), (189, some 3), (189, some 4)]
abbrev cA : List (Nat × Option Nat) := [(190, some 0), (191, none), (192, none), (193, none), (194, none)]
theorem TX_FX {A lo : Nat} {M M' : Mem} (h : FX A lo M M') (hA : (A = 216 ∧ 48 ≤ lo) ∨ (A = 217 ∧ 64 ≤ lo) ∨ (A = 218 ∧ 14 ≤ lo)) : TX M M' := fun a i q1 _ _ _ q5 q6 q7 => h a i (fun w => q1 ⟨w.1, by omega⟩) (fun w => by omega)
theorem G0_m {M0 Mc Mm Mm' : Mem} {P B k A lo : Nat} (h : G0 M0 P B k Mc Mm) (hf : FX A lo Mm Mm') (hA : (A = 216 ∧ 48 ≤ lo) ∨ (A = 217 ∧ 64 ≤ lo) ∨ (A = 218 ∧ 14 ≤ lo)) : G0 M0 P B k Mc Mm' := by
  obtain ⟨h1, h2, h3, h4, h5, h6, h7, h8, h9⟩ := h
  have o : ∀ a i, a = 202 ∨ a = 203 ∨ a = 204 ∨ (a = 198 ∧ (i = 6 ∨ i = 7 ∨ i = 33 ∨ i = 34)) → Mm' a i = Mm a i := fun a i q => hf a i (by omega) (by omega)
  refine ⟨h1.trans (TX_FX hf hA), h2, h3, (o 198 33 (by omega)).trans h4, (o 198 34 (by omega)).trans h5, ?_, ?_, h8, h9⟩
  · unfold Fx at *
    rw [o 198 6 (by omega), o 198 7 (by omega)]
    refine ⟨h6.1, h6.2.1, fun b hb => ?_⟩
    rw [o 202 b (by omega), o 203 b (by omega), o 204 b (by omega)]; exact h6.2.2 b hb
  · unfold Bd at *
    rw [o 198 6 (by omega), o 198 7 (by omega)]
    refine ⟨h7.1, h7.2.1, h7.2.2.1, h7.2.2.2.1, fun b hb => ?_⟩
    rw [o 202 b (by omega), o 203 b (by omega), o 204 b (by omega)]; exact h7.2.2.2.2 b hb
theorem G0_c {M0 Mc Mc' Mm : Mem} {P B k : Nat} (h : G0 M0 P B k Mc Mm) (hc : Agr cX Mc Mc') : G0 M0 P B k Mc' Mm := by
  obtain ⟨h1, h2, h3, h4, h5, h6, h7, h8, h9⟩ := h
  exact ⟨h1, (hc 178 2 (by decide) (by decide)).trans h2, (hc 178 3 (by decide) (by decide)).trans h3, h4, h5, Fx_agr (Sm := []) hc Agr.rfl' rfl rfl h6, h7, (hc 190 0 (by decide) (by decide)).trans h8, (hc 190 1 (by decide) (by decide)).trans h9⟩
/-- a line put down -/
theorem app_eq {M0 Mc Mm : Mem} {P B k : Nat} (h : G0 M0 P B k Mc Mm) (hk : k < 16) (a b c d : Int32) : ∃ Mc', fX3_append 190 a b c d Mc = some Mc' ∧ G0 M0 P B (k + 1) Mc' Mm ∧ Mc' 191 k = a ∧ Mc' 192 k = b ∧ Mc' 193 k = c ∧ Mc' 194 k = d ∧ (∀ j i, 191 ≤ j → j ≤ 194 → i < k → Mc' j i = Mc j i) ∧ ∀ j i, (j < 190 ∨ 194 < j) → Mc' j i = Mc j i := by
  obtain ⟨h1, h2, h3, h4, h5, h6, h7, h8, h9⟩ := h
  have e1 : fX3_append 190 a b c d Mc = some (mu (mu (mu (mu (mu Mc 191 k a) 192 k b) 193 k c) 194 k d) 190 0 (nI (k + 1))) := by
    unfold fX3_append
    have n16 : kn 191 = 16 ∧ kn 192 = 16 ∧ kn 193 = 16 ∧ kn 194 = 16 := by decide
    rw [h8, h9, if_neg (show ¬ (16 : Int32) ≤ nI k from nI_ge (show k < 16 from hk) (by decide))]
    show ((wr Mc 191 (kn 191) (nI k) a).bind fun M1 => (wr M1 192 (kn 192) (M1 190 0) b).bind fun M2 => (wr M2 193 (kn 193) (M2 190 0) c).bind fun M3 => (wr M3 194 (kn 194) (M3 190 0) d).bind fun M4 => bnd (mu M4 190 0 ((M4 190 0) + 1)) fun M5 => some M5) = _
    rw [n16.1, n16.2.1, n16.2.2.1, n16.2.2.2, wr_nI hk, Option.bind_some, mu_o (by omega), h8, wr_nI hk, Option.bind_some, mu_o (by omega), mu_o (by omega), h8, wr_nI hk, Option.bind_some, mu_o (by omega), mu_o (by omega), mu_o (by omega), h8, wr_nI hk, Option.bind_some, bnd_eq, mu_o (by omega), mu_o (by omega), mu_o (by omega), mu_o (by omega), h8, nI_1]
  have o : ∀ j i, (j < 190 ∨ 194 < j) → mu (mu (mu (mu (mu Mc 191 k a) 192 k b) 193 k c) 194 k d) 190 0 (nI (k + 1)) j i = Mc j i := fun j i q => by
    rw [mu_o (by omega), mu_o (by omega), mu_o (by omega), mu_o (by omega), mu_o (by omega)]
  refine ⟨_, e1, ⟨h1, (o 178 2 (by omega)).trans h2, (o 178 3 (by omega)).trans h3, h4, h5, ?_, h7, mu_s, ?_⟩, ?_, ?_, ?_, ?_, fun j i q1 q2 q3 => ?_, o⟩
  · unfold Fx at *
    rw [o 2 4 (by omega), o 2 5 (by omega)]
    refine ⟨h6.1, h6.2.1, fun b hb => ?_⟩
    rw [o (2 + 4) b (by omega), o (2 + 5) b (by omega), o (2 + 6) b (by omega)]; exact h6.2.2 b hb
  · rw [mu_i (by omega), mu_o (by omega), mu_o (by omega), mu_o (by omega), mu_o (by omega)]; exact h9
  · rw [mu_o (by omega), mu_o (by omega), mu_o (by omega), mu_o (by omega), mu_s]
  · rw [mu_o (by omega), mu_o (by omega), mu_o (by omega), mu_s]
  · rw [mu_o (by omega), mu_o (by omega), mu_s]
  · rw [mu_o (by omega), mu_s]
  · rw [mu_o (by omega)]
    have s : ∀ (M : Mem) (a : Nat) (v : Int32), mu M a k v j i = M j i := fun M a v => by
      by_cases w : j = a
      · subst w; exact mu_i (by omega)
      · exact mu_o w
    rw [s, s, s, s]
