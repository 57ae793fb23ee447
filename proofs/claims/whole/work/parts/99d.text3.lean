/-! ===== text 3, and text ===== -/
section TEXT3
theorem cl_L : ∀ (k F j : Nat) (M : Mem), j + k = 14 → k < F → ∃ M', (∀ K, fX12_readLeans_L2 K F (nI j) M = K M') ∧ (∀ i, j ≤ i → i < 14 → M' 218 (14 + i) = 0) ∧ ∀ a i, ¬ (a = 218 ∧ 14 + j ≤ i) → M' a i = M a i
  | _, 0, _, _, _, h => absurd h (by omega)
  | 0, F + 1, j, M, h1, h2 => by
    refine ⟨M, fun K => ?_, fun i q1 q2 => absurd q2 (by omega), fun _ _ _ => rfl⟩
    rw [fX12_readLeans_L2, if_pos (show (14 : Int32) ≤ nI j from nI_le (a := 14) (by omega) (by omega))]
  | k + 1, F + 1, j, M, h1, h2 => by
    obtain ⟨M', a1, a2, a3⟩ := cl_L k F (j + 1) (mu M 218 (14 + j) 0) (by omega) (by omega)
    refine ⟨M', fun K => ?_, fun i q1 q2 => ?_, fun a i q => ?_⟩
    · have e1 : (14 : Int32) + nI j = nI (14 + j) := nI_add 14 j
      rw [fX12_readLeans_L2, if_neg (show ¬ (14 : Int32) ≤ nI j from nI_ge (b := 14) (by omega) (by decide)), e1, wr_nI (by omega), Option.bind_some, nI_1]
      exact a1 K
    · by_cases w : i = j
      · subst w; rw [a3 218 (14 + i) (by omega), mu_s]
      · exact a2 i (by omega) q2
    · rw [a3 a i (by omega)]
      by_cases w : a = 218
      · subst w; exact mu_i (by omega)
      · exact mu_o w
theorem I3_Q {M0 : Mem} {P B : Nat} (k : Nat) (Mc Mm Mm' : Mem) (h : I3 M0 P B k Mc Mm) (hf : ∀ A lo, FX A lo Mm Mm') : TX M0 Mm' := h.1.1.trans (TX_FX (hf 216 48) (by omega))
theorem s_text3 : Sm (fX11_text 3) (fX12_text 3) := fun Mc Mm hA => by
  obtain ⟨P, B, L, b, τ, p, e, Mc1, Mm1, a1, a2, a3, a4, a5, a6⟩ := oth_begin hA
  have z0 : nI 0 = (0 : Int32) := rfl
  obtain ⟨MmL, l1, l2, l3⟩ := cl_L 14 FU 0 Mm1 (by omega) (FU_gt (by omega))
  have eM : fX12_readsText 3 (iniM Mm) = (fX12_readLeans_L26 KM FU (nI 0) MmL).bind fun r6 => some (r6.1, r6.2) := by
    unfold fX12_readsText fX12_readLeans
    rw [bnd_eq, a2, Option.bind_some, if_neg (show ¬ (3 : Int32) = 1 by decide), if_neg (show ¬ (3 : Int32) = 2 by decide), if_pos rfl, ← z0, l1]
    rfl
  have fL : FX 218 14 Mm1 MmL := fun a i _ q => l3 a i (by omega)
  have pL : PT L b τ p e (mu Mc1 190 0 0) MmL := PT_m a3 (fun i _ => l3 198 i (by omega)) (fun i => l3 206 i (by omega)) (fun i => l3 207 i (by omega))
  have iL : I3 Mm P B 0 (mu Mc1 190 0 0) MmL := ⟨G0_m a4 fL (by omega), fun i hi => absurd hi (by omega), fun b' hb' => l2 b' (by omega) hb'⟩
  have eC := oth_read 3 Mc1
  rcases oth_L (L := L) (b := b) (z2 := 3) (w := 18) (by omega) (by decide) (I3 Mm P B) (TX Mm) I3_Q (fX12_readLeans_L26 KM) (fun y M => fX12_readLean M) (fun n y M => by rw [fX12_readLeans_L26]; rfl) (fun k τ p e Mc Mm q1 q2 q3 q4 => lean_eq k τ p e Mc Mm q1 q2 q3 q4) FU FU 0 τ p e _ MmL (FU_gt (by omega)) (FU_gt (by omega)) (by omega) pL iL with ⟨Mc', Mm', f1, f2, f3, f4⟩ | ⟨n, Mc', Mm', f1, f2, f3, f4⟩
  · exact oth_fault hA (by decide) (by decide) (by decide) a1 a5 (eC.trans f1) (by rw [eM, f2]; rfl) f3 f4
  · obtain ⟨hG, hl, hh⟩ := f4
    have A1 := oth_keep hA a5 (eC.trans f1) hG
    obtain ⟨Mc3, c1, c2, c3, c4, c5⟩ := oth_copy (q := 35) A1 (by omega) f3 hG.2.2.2.2.2.2.2.1
    obtain ⟨Mm3, d1, d2, d3⟩ := to_3 (nI n) 14 FU 0 (mu Mm' 198 13 0) (by omega) (FU_gt (by omega))
    have hne : ¬ nI n = -1 := nI_nm1 (by omega)
    rw [z0] at d1
    have d1 : fX12_takesOther 3 (nI n) (mu Mm' 198 13 0) = some (mu Mm3 198 39 (nI n)) := by rw [fX12_takesOther, if_pos rfl]; exact d1
    refine ⟨nI n, mu Mc3 178 1 0, mu Mm3 198 39 (nI n), ?_, ?_, ?_⟩
    · rw [text_c, a1, Option.bind_some, if_neg (show ¬ (3 : Int32) = 0 by decide), midC, if_neg (show ¬ fX11_isWithin 3 1 3 = 0 by decide), eC, f1, Option.bind_some, if_neg one_ne]
      have l1 : fX0_linesOf 3 Mc' = some 35 := rfl
      dsimp only
      rw [l1, Option.bind_some, if_pos (show kd 35 = (3, 6) by decide), c1, Option.bind_some, c2, finC, if_neg hne, if_neg (show ¬ (3 : Int32) = 1 by decide), if_neg (show ¬ (3 : Int32) = 2 by decide)]
    · rw [text_m, if_neg (show ¬ fX12_isIn 3 0 3 = 0 by decide), eM, f2, Option.bind_some, Option.bind_some, if_neg hne, finM, if_neg hne, if_neg (show ¬ (3 : Int32) = 0 by decide), d1, Option.bind_some]
    · have hc : Agr [(35, some 0), (36, none), (37, none), (38, none), (39, none)] (mu Mc' 178 1 0) (mu Mc3 178 1 0) := Agr_mu2 ((Agr.ofU (wX3_copyFrom 35 190 Mc') c1).mono (by decide))
      have hm : Agr [(198, some 39), (218, none)] (mu Mm' 198 13 0) (mu Mm3 198 39 (nI n)) := Agr.mu (fun a i q1 q2 => d3 a i (fun w => q1 (by rw [w.1]; decide))) (Or.inl (by decide))
      refine AR_oth A1 (hc.mono (by decide)) (hm.mono (by decide)) (fun P' B' _ hE => TwR_agr hc hm rfl rfl hE) (fun P' B' _ hE => EvR_agr hc hm rfl rfl hE) (fun P' B' hB' _ => ?_) (fun N hN => PaR_agr (Nat.le_refl _) hc hm rfl rfl hN)
      obtain ⟨rfl, rfl⟩ := Bd_B hG.2.2.2.2.2.2.1 hB' (mu_i (by omega)) (mu_i (by omega))
      have cc : ∀ j, 1 ≤ j → j ≤ 4 → ∀ i, i < n → mu Mc3 178 1 0 (35 + j) i = Mc' (190 + j) i := fun j q1 q2 i hi => by rw [mu_o (by omega), c3 j q1 q2 i hi]
      refine ⟨n, f3, by rw [mu_o (by omega)]; exact c2, mu_s, fun i hi => ?_, fun b' hb' => ?_⟩
      · rw [cc 3 (by omega) (by omega) i hi, cc 4 (by omega) (by omega) i hi]; exact hl i hi
      · rw [mu_o (by omega), d2 b' (by omega) hb', mu_o (by omega), hh b' hb']
        exact (hmask_cg n (fun i hi => ⟨cc 3 (by omega) (by omega) i hi, cc 4 (by omega) (by omega) i hi⟩)).symm
theorem int_03 {p : Int32} (h1 : ¬ p < 0) (h2 : ¬ 3 < p) : p = 0 ∨ p = 1 ∨ p = 2 ∨ p = 3 := by
  have a1 : ¬ p.toInt < 0 := fun w => h1 (Int32.lt_iff_toInt_lt.mpr w)
  have a2 : ¬ 3 < p.toInt := fun w => h2 (Int32.lt_iff_toInt_lt.mpr w)
  rcases (show p.toInt = 0 ∨ p.toInt = 1 ∨ p.toInt = 2 ∨ p.toInt = 3 by omega) with w | w | w | w
  · exact Or.inl (Int32.toInt_inj.mp w)
  · exact Or.inr (Or.inl (Int32.toInt_inj.mp w))
  · exact Or.inr (Or.inr (Or.inl (Int32.toInt_inj.mp w)))
  · exact Or.inr (Or.inr (Or.inr (Int32.toInt_inj.mp w)))
theorem s_text (p : Int32) : Sm (fX11_text p) (fX12_text p) := by
  by_cases c : fX12_isIn p 0 3 = 0
  · -- no text
    have h0 : ¬ (p = 0 ∨ p = 1 ∨ p = 2 ∨ p = 3) := fun w => by rcases w with rfl | rfl | rfl | rfl <;> exact absurd c (by decide)
    have hw : fX11_isWithin p 1 3 = 0 := by
      unfold fX11_isWithin
      by_cases q1 : p < 1
      · exact if_pos q1
      · rw [if_neg q1]
        by_cases q2 : 3 < p
        · exact if_pos q2
        · refine absurd (int_03 (fun w => q1 (Int32.lt_trans w (by decide))) q2) h0
    intro Mc Mm hA
    obtain ⟨P, B, L, b, τ, pp, e, Mc1, Mm1, a1, a2, a3, a4, a5, a6⟩ := oth_begin hA
    refine ⟨-1, mu Mc1 178 1 0, mu (iniM Mm) 198 13 0, ?_, ?_, ?_⟩
    · rw [text_c, a1, Option.bind_some, if_neg (fun w => h0 (Or.inl w)), midC, if_pos hw, finC_m]
    · rw [text_m, if_pos c, finM_m]
    · refine AR_keep hA (Agr.mu a5 (Or.inl (by decide))) (ini_TX.trans (TX_mu (by omega))) mu_s mu_s ?_ ?_
      · have x := a4.2.1
        rw [mu_o (by omega)] at x
        rw [mu_i (by omega), mu_i (by omega), x]
        unfold iniM
        rw [mu_i (by omega), mu_i (by omega), mu_i (by omega), mu_i (by omega), mu_s]
      · have x := a4.2.2.1
        rw [mu_o (by omega)] at x
        rw [mu_i (by omega), mu_i (by omega), x]
        unfold iniM
        rw [mu_i (by omega), mu_i (by omega), mu_i (by omega), mu_s]
  · have hp : p = 0 ∨ p = 1 ∨ p = 2 ∨ p = 3 := by
      unfold fX12_isIn at c
      by_cases q1 : p < 0
      · exact absurd (if_pos q1) c
      · rw [if_neg q1] at c
        by_cases q2 : 3 < p
        · exact absurd (if_pos q2) c
        · exact int_03 q1 q2
    rcases hp with rfl | rfl | rfl | rfl
    · exact s_text0
    · exact s_text1
    · exact s_text2
    · exact s_text3
end TEXT3
