/-! ===== text 2 ===== -/
section TEXT2B
theorem takes_2 {n : Nat} (hn : n ≤ 16) (M : Mem) : ∃ M', fX12_takesOther 2 (nI n) M = some M' ∧ M' 198 37 = nI n ∧ M' 198 3 = 0 ∧ (∀ i, i < 4 * n → M' 217 i = M 217 (64 + i)) ∧ ∀ a i, ¬ (a = 217 ∧ i < 4 * n) → ¬ (a = 198 ∧ (i = 3 ∨ i = 37)) → M' a i = M a i := by
  obtain ⟨M1, a1, a2, a3⟩ := to_2 hn (4 * n) FU 0 M (by omega) (FU_gt (by omega))
  have z0 : nI 0 = (0 : Int32) := rfl
  obtain ⟨F, hF⟩ : ∃ F, FU = F + 1 := ⟨FU - 1, by have := FU_gt (n := 1) (by omega); omega⟩
  have s42 : ∀ K, fX12_takesOther_L42 K 2 (nI n) FU (nI 0) M = K M := fun K => by
    rw [hF, fX12_takesOther_L42, if_neg (show ¬ (2 : Int32) = 1 by decide), ite_self]
  refine ⟨mu (mu M1 198 37 (nI n)) 198 3 0, ?_, by rw [mu_i (by omega), mu_s], mu_s, fun i hi => by rw [mu_o (by omega), mu_o (by omega), a2 i (by omega) hi], fun a i q1 q2 => ?_⟩
  · unfold fX12_takesOther
    rw [if_neg (show ¬ (2 : Int32) = 3 by decide), ← z0, s42, a1, jn_eq, if_neg (show ¬ (2 : Int32) = 1 by decide)]
    rfl
  · by_cases w : a = 198
    · subst w; rw [mu_i (by omega), mu_i (by omega), a3 198 i (by omega)]
    · rw [mu_o w, mu_o w, a3 a i (by omega)]
theorem I2_Q {M0 : Mem} {P B : Nat} (k : Nat) (Mc Mm Mm' : Mem) (h : I2 M0 P B k Mc Mm) (hf : ∀ A lo, FX A lo Mm Mm') : TX M0 Mm' := h.1.1.trans (TX_FX (hf 216 48) (by omega))
theorem s_text2 : Sm (fX11_text 2) (fX12_text 2) := fun Mc Mm hA => by
  obtain ⟨P, B, L, b, τ, p, e, Mc1, Mm1, a1, a2, a3, a4, a5, a6⟩ := oth_begin hA
  have z0 : nI 0 = (0 : Int32) := rfl
  have eM : fX12_readsText 2 (iniM Mm) = (fX12_readStreet_L2 KM FU (nI 0) Mm1).bind fun r6 => some (r6.1, r6.2) := by
    unfold fX12_readsText
    rw [bnd_eq, a2, Option.bind_some, if_neg (show ¬ (2 : Int32) = 1 by decide), if_pos rfl, z0]
    rfl
  have eC := oth_read 2 Mc1
  rcases oth_L (L := L) (b := b) (z2 := 2) (w := 17) (by omega) (by decide) (I2 Mm P B) (TX Mm) I2_Q (fX12_readStreet_L2 KM) (fun y M => fX12_readStreetLine (64 + 4 * y) M) (fun n y M => by rw [fX12_readStreet_L2]; rfl) (fun k τ p e Mc Mm q1 q2 q3 q4 => str_eq k τ p e Mc Mm q1 q2 q3 q4) FU FU 0 τ p e _ Mm1 (FU_gt (by omega)) (FU_gt (by omega)) (by omega) a3 ⟨a4, fun i hi => absurd hi (by omega)⟩ with ⟨Mc', Mm', f1, f2, f3, f4⟩ | ⟨n, Mc', Mm', f1, f2, f3, f4⟩
  · exact oth_fault hA (by decide) (by decide) (by decide) a1 a5 (eC.trans f1) (by rw [eM, f2]; rfl) f3 f4
  · obtain ⟨hG, hl⟩ := f4
    have A1 := oth_keep hA a5 (eC.trans f1) hG
    obtain ⟨Mc3, c1, c2, c3, c4, c5⟩ := oth_copy (q := 30) A1 (by omega) f3 hG.2.2.2.2.2.2.2.1
    obtain ⟨Mm3, d1, d2, d3, d4, d5⟩ := takes_2 f3 (mu Mm' 198 13 0)
    have hne : ¬ nI n = -1 := nI_nm1 (by omega)
    refine ⟨nI n, mu (mu Mc3 178 1 0) 105 0 0, Mm3, ?_, ?_, ?_⟩
    · rw [text_c, a1, Option.bind_some, if_neg (show ¬ (2 : Int32) = 0 by decide), midC, if_neg (show ¬ fX11_isWithin 2 1 3 = 0 by decide), eC, f1, Option.bind_some, if_neg one_ne]
      have l1 : fX0_linesOf 2 Mc' = some 30 := rfl
      dsimp only
      rw [l1, Option.bind_some, if_pos (show kd 30 = (3, 6) by decide), c1, Option.bind_some, c2, finC, if_neg hne, if_neg (show ¬ (2 : Int32) = 1 by decide), if_pos rfl, fX6_forget, bnd_eq, Option.bind_some]
    · rw [text_m, if_neg (show ¬ fX12_isIn 2 0 3 = 0 by decide), eM, f2, Option.bind_some, Option.bind_some, if_neg hne, finM, if_neg hne, if_neg (show ¬ (2 : Int32) = 0 by decide), d1, Option.bind_some]
    · have o3 : ∀ a i, (a < 30 ∨ 34 < a) → Mc3 a i = Mc' a i := c4
      have hc : Agr [(30, some 0), (31, none), (32, none), (33, none), (34, none), (105, some 0)] (mu Mc' 178 1 0) (mu (mu Mc3 178 1 0) 105 0 0) := Agr.mu (Agr_mu2 ((Agr.ofU (wX3_copyFrom 30 190 Mc') c1).mono (by decide))) (Or.inl (by decide))
      have hm : Agr [(198, some 3), (198, some 37), (217, none)] (mu Mm' 198 13 0) Mm3 := fun a i q1 q2 => d5 a i (fun w => q1 (by rw [w.1]; decide)) (fun w => by
        obtain ⟨w1, w2⟩ := w
        subst w1
        rcases w2 with rfl | rfl <;> exact q2 (by decide))
      refine AR_oth A1 (hc.mono (by decide)) (hm.mono (by decide)) (fun P' B' _ hE => TwR_agr hc hm rfl rfl hE) (fun P' B' hB' _ => ?_) (fun P' B' _ hE => HeR_agr hc hm rfl rfl hE) (PaR_nil mu_s d3 (by rw [mu_i (by omega), mu_o (by omega), mu_o (by omega), o3 105 1 (by omega)]))
      obtain ⟨rfl, rfl⟩ := Bd_B hG.2.2.2.2.2.2.1 hB' (mu_i (by omega)) (mu_i (by omega))
      refine ⟨n, f3, by rw [mu_o (by omega), mu_o (by omega)]; exact c2, d2, fun i hi => ?_⟩
      have m : ∀ j, j < 4 * n → Mm3 217 j = Mm' 217 (64 + j) := fun j hj => by rw [d4 j hj, mu_o (by omega)]
      have cc : ∀ j, 1 ≤ j → j ≤ 4 → mu (mu Mc3 178 1 0) 105 0 0 (30 + j) i = Mc' (190 + j) i := fun j q1 q2 => by rw [mu_o (by omega), mu_o (by omega), c3 j q1 q2 i hi]
      rw [cc 1 (by omega) (by omega), cc 2 (by omega) (by omega), cc 3 (by omega) (by omega), cc 4 (by omega) (by omega), m _ (by omega), m _ (by omega), m _ (by omega), m _ (by omega)]
      exact hl i hi
end TEXT2B
