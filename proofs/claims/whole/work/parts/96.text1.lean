/-! ===== text 1: a line ===== -/
def I1 (M0 : Mem) (P B k : Nat) (Mc Mm : Mem) : Prop := G0 M0 P B k Mc Mm ∧ ∀ i, i < k → ∃ b s, b < B ∧ s ≤ 1 ∧ Mc 191 i = Mm 216 (48 + 3 * i) ∧ Mc 193 i = nI b ∧ Mm 216 (48 + 3 * i + 1) = nI b ∧ Mc 192 i = nI s ∧ Mm 216 (48 + 3 * i + 2) = nI s
theorem FR_mu {A j : Nat} {v : Int32} {Mc Mm : Mem} (h : FR Mc Mm) (hA : A ≠ 198) : FR Mc (mu Mm A j v) := ⟨h.1.trans (mu_o (fun w => hA w.symm)).symm, h.2.trans (mu_o (fun w => hA w.symm)).symm⟩
theorem nI_nm1 {v : Nat} (h : v < 2 ^ 31) : ¬ nI v = -1 := fun w => by
  have := congrArg Int32.toInt w
  rw [nI_toInt h, show (-1 : Int32).toInt = -1 by decide] at this
  omega
theorem hop_eq {L : Nat} {b : Nat → Nat} {M0 : Mem} {P B : Nat} (k τ p e : Nat) (Mc Mm : Mem) (hk : k < 16) (h : PT L b τ p e Mc Mm) (hτ : τ = 27) (hI : I1 M0 P B k Mc Mm) :
    (∃ Mc' Mm', (∀ J, lnX 1 J Mc = some (0, Mc')) ∧ fX12_readHop (48 + 3 * nI k) Mm = some (-1, Mm') ∧ FR Mc' Mm' ∧ TX M0 Mm') ∨
    (∃ τ' p' e' r Mc' Mm', (∀ J, lnX 1 J Mc = J Mc') ∧ ¬ r = -1 ∧ fX12_readHop (48 + 3 * nI k) Mm = some (r, Mm') ∧ PT L b τ' p' e' Mc' Mm' ∧ I1 M0 P B (k + 1) Mc' Mm') := by
  obtain ⟨hG, hl⟩ := hI
  have hB : B ≤ 14 := hG.2.2.2.2.2.2.1.2.1
  have cB : Mc 2 5 = nI B := hG.2.2.2.2.2.1.2.1.trans hG.2.2.2.2.2.2.1.2.2.2.1
  have mB : Mm 198 7 = nI B := hG.2.2.2.2.2.2.1.2.2.2.1
  have t0 := hG.1
  have i0 : (48 + 3 * nI k : Int32) = nI (48 + 3 * k) := (show ∀ k, k < 16 → (48 + 3 * nI k : Int32) = nI (48 + 3 * k) by decide) k hk
  have i1 : nI (48 + 3 * k) + 1 = nI (48 + 3 * k + 1) := nI_1 _
  have i2 : nI (48 + 3 * k) + 2 = nI (48 + 3 * k + 2) := nI_add _ 2
  rw [i0]
  have tq : ∀ M', FX 216 (48 + 3 * k) Mm M' → TX M0 M' := fun M' hf => t0.trans (TX_FX hf (by omega))
  -- 'on'
  obtain ⟨τ1, p1, e1, Mc1, Mm1, a1, a2, a3, a4, a5, a6⟩ := pt_next h
  have w17 : fX12_isWord 17 Mm = 1 := by
    have := hm_word (w := 17) h.2.2.2.2.2.2 (by omega)
    rw [if_pos (by omega)] at this; exact this
  have pA : PT L b τ1 p1 e1 (mu (mu (mu (mu Mc1 189 1 0) 189 2 0) 189 3 0) 189 4 0) Mm1 := PT_cmu (PT_cmu (PT_cmu (PT_cmu a3 (by omega)) (by omega)) (by omega)) (by omega)
  have cA1 : Agr cX Mc (mu (mu (mu (mu Mc1 189 1 0) 189 2 0) 189 3 0) 189 4 0) := Agr.mu (Agr.mu (Agr.mu (Agr.mu (a4.mono (by decide)) (Or.inl (by decide))) (Or.inl (by decide))) (Or.inl (by decide))) (Or.inl (by decide))
  have eC : ∀ J, lnX 1 J Mc = ((fX8_takeNumber 1000 (mu (mu (mu (mu Mc1 189 1 0) 189 2 0) 189 3 0) 189 4 0)).bind fun r5 => if r5.1 = 0 then some (0, r5.2) else (fX4_readTwist (mu r5.2 189 1 (r5.2 178 8))).bind fun r8 => if r8.1 = 0 ∨ r8.1 = 1 then some (r8.1, r8.2) else none).bind fun r6 => if r6.1 = 0 then (some (0, r6.2)) else ((fX8_takeSign 59 r6.2).bind fun r7 => if r7.1 = 0 then (some (0, r7.2)) else ((fX3_append 190 (r7.2 189 1) (r7.2 189 2) (r7.2 189 3) (r7.2 189 4) r7.2).bind J)) := fun J => by
    unfold lnX fX4_readLine
    rw [a1, Option.bind_some, bnd_eq, bnd_eq, bnd_eq, bnd_eq, if_neg (show ¬ (1 : Int32) = 3 by decide)]
    congr 1
  have eM : fX12_readTold 17 0 999 Mm = (fX12_readNumber 0 (nI 1000 - 1) Mm1).bind fun r2 => some (r2.1, r2.2) := by
    unfold fX12_readTold
    rw [w17, if_neg one_ne, a2, Option.bind_some]
    rfl
  rcases pt_num (bd := 1000) pA (by omega) with ⟨Mc', Mm', f1, f2, f3, f4⟩ | ⟨v, τ2, p2, e2, Mc2, Mm2, f0, f1, f2, f3, f4, f5, f6⟩
  · left
    have f1 : fX8_takeNumber 1000 _ = some (0, Mc') := f1
    refine ⟨Mc', mu Mm' 216 (48 + 3 * k) (-1), fun J => ?_, ?_, FR_mu f3 (by omega), tq _ (((a5 216 (48 + 3 * k)).trans (f4 216 _) (Nat.le_refl _)).trans (FX_mu (Nat.le_refl _)) (Nat.le_refl _))⟩
    · rw [eC, f1, Option.bind_some, if_pos rfl, Option.bind_some, if_pos rfl]
    · unfold fX12_readHop
      rw [eM, f2, Option.bind_some, Option.bind_some]
      dsimp only
      rw [wr_nI (by omega), Option.bind_some, rd_nI (by omega), Option.bind_some, mu_s, if_pos rfl]
  · have f1 : fX8_takeNumber 1000 _ = some (1, Mc2) := f1
    have pB : PT L b τ2 p2 e2 (mu Mc2 189 1 (nI v)) (mu Mm2 216 (48 + 3 * k) (nI v)) := PT_cmu (PT_mmu f4 (by omega)) (by omega)
    have cB1 : Agr cX Mc (mu Mc2 189 1 (nI v)) := Agr.mu (cA1.trans (f5.mono (by decide))) (Or.inl (by decide))
    have mB1 : FX 216 (48 + 3 * k) Mm (mu Mm2 216 (48 + 3 * k) (nI v)) := ((a5 216 (48 + 3 * k)).trans (f6 216 _) (Nat.le_refl _)).trans (FX_mu (Nat.le_refl _)) (Nat.le_refl _)
    have eC2 : ∀ J, lnX 1 J Mc = ((fX4_readTwist (mu Mc2 189 1 (nI v))).bind fun r8 => if r8.1 = 0 ∨ r8.1 = 1 then some (r8.1, r8.2) else none).bind fun r6 => if r6.1 = 0 then (some (0, r6.2)) else ((fX8_takeSign 59 r6.2).bind fun r7 => if r7.1 = 0 then (some (0, r7.2)) else ((fX3_append 190 (r7.2 189 1) (r7.2 189 2) (r7.2 189 3) (r7.2 189 4) r7.2).bind J)) := fun J => by
      rw [eC, f1, Option.bind_some, if_neg one_ne]
      dsimp only
      rw [f2]
    obtain ⟨hopT, hT⟩ : ∃ hopT : Int32 × Mem → Option (Int32 × Mem), hopT = fun r4 => (wr r4.2 216 96 (nI (48 + 3 * k) + 1) r4.1).bind fun M5 => (rd M5 216 96 (nI (48 + 3 * k) + 1)).bind fun v6 => if v6 = (-1) then (some ((-1), M5)) else (jn ((wr M5 216 96 (nI (48 + 3 * k) + 2) ((M5 198 17) - 19)).bind fun M8 => (fX12_reads M8).bind fun M9 => (fX12_readMark 59 M9).bind fun r10 => some (r10.1, r10.2)) fun (J7 : Option (Int32 × Mem)) => if (fX12_isWord 19 M5) = 0 then (if (fX12_isWord 20 M5) = 0 then ((fX12_errs 1 M5).bind fun r11 => some (r11.1, r11.2)) else (J7)) else (J7)) := ⟨_, rfl⟩
    have eM2 : fX12_readHop (nI (48 + 3 * k)) Mm = (fX12_readTold 18 0 (nI B - 1) (mu Mm2 216 (48 + 3 * k) (nI v))).bind hopT := by
      unfold fX12_readHop
      rw [eM, f3, Option.bind_some, Option.bind_some]
      dsimp only
      rw [wr_nI (by omega), Option.bind_some, rd_nI (by omega), Option.bind_some, mu_s, if_neg (nI_nm1 (by omega)), hT, mB1 198 7 (by omega) (by omega), mB]
    have hf : ∀ M' : Mem, hopT (-1, M') = some (-1, mu M' 216 (48 + 3 * k + 1) (-1)) := fun M' => by
      rw [hT]
      dsimp only
      rw [i1, wr_nI (by omega), Option.bind_some, rd_nI (by omega), Option.bind_some, mu_s, if_pos rfl]
    have w18 : fX12_isWord 18 (mu Mm2 216 (48 + 3 * k) (nI v)) = if τ2 = 28 then 1 else 0 := hm_word (w := 18) pB.2.2.2.2.2.2 (by omega)
    rcases pt_word (i := 17) (w := 18) pB (by omega) (by decide) with ⟨q, Mc', Mm', g1, g2, g3, g4⟩ | ⟨q, τ3, p3, e3, Mc3, Mm3, g1, g2, g3, g4, g5⟩
    · left
      refine ⟨Mc', mu Mm' 216 (48 + 3 * k + 1) (-1), fun J => ?_, ?_, FR_mu g3 (by omega), tq _ ((mB1.trans (g4 216 _) (Nat.le_refl _)).trans (FX_mu (by omega)) (Nat.le_refl _))⟩
      · rw [eC2]
        unfold fX4_readTwist
        rw [g1, Option.bind_some, if_pos rfl, Option.bind_some, if_pos (Or.inl rfl), Option.bind_some, if_pos rfl]
      · rw [eM2]
        unfold fX12_readTold
        rw [w18, if_neg q, if_pos rfl, g2, Option.bind_some, hf]
    · have cC1 : Agr cX Mc Mc3 := cB1.trans (g4.mono (by decide))
      have mC1 : FX 216 (48 + 3 * k) Mm Mm3 := mB1.trans (g5 216 _) (Nat.le_refl _)
      have c25 : Mc3 2 5 = nI B := (cC1 2 5 (by decide) (by decide)).trans cB
      have eM3 : fX12_readHop (nI (48 + 3 * k)) Mm = ((fX12_readNumber 0 (nI B - 1) Mm3).bind fun r2 => some (r2.1, r2.2)).bind hopT := by
        rw [eM2]
        unfold fX12_readTold
        rw [w18, if_pos q, if_neg one_ne, g2, Option.bind_some]
      rcases pt_num (bd := B) g3 (by omega) with ⟨Mc', Mm', j1, j2, j3, j4⟩ | ⟨bb, τ4, p4, e4, Mc4, Mm4, j0, j1, j2, j3, j4, j5, j6⟩
      · left
        refine ⟨Mc', mu Mm' 216 (48 + 3 * k + 1) (-1), fun J => ?_, ?_, FR_mu j3 (by omega), tq _ ((mC1.trans (j4 216 _) (Nat.le_refl _)).trans (FX_mu (by omega)) (Nat.le_refl _))⟩
        · rw [eC2]
          unfold fX4_readTwist
          rw [g1, Option.bind_some, if_neg one_ne]
          dsimp only
          rw [c25, j1, Option.bind_some, if_pos rfl, Option.bind_some, if_pos (Or.inl rfl), Option.bind_some, if_pos rfl]
        · rw [eM3, j2, Option.bind_some, Option.bind_some, hf]
      · obtain ⟨Mm5, hMm5⟩ : ∃ Mm5, Mm5 = mu Mm4 216 (48 + 3 * k + 1) (nI bb) := ⟨_, rfl⟩
        have pD : PT L b τ4 p4 e4 (mu Mc4 189 3 (nI bb)) Mm5 := by rw [hMm5]; exact PT_cmu (PT_mmu j4 (by omega)) (by omega)
        have cD1 : Agr cX Mc (mu Mc4 189 3 (nI bb)) := Agr.mu (cC1.trans (j5.mono (by decide))) (Or.inl (by decide))
        have mD1 : FX 216 (48 + 3 * k) Mm Mm5 := by rw [hMm5]; exact (mC1.trans (j6 216 _) (Nat.le_refl _)).trans (FX_mu (by omega)) (Nat.le_refl _)
        have w19 : fX12_isWord 19 Mm5 = if τ4 = 29 then 1 else 0 := hm_word (w := 19) pD.2.2.2.2.2.2 (by omega)
        have w20 : fX12_isWord 20 Mm5 = if τ4 = 30 then 1 else 0 := hm_word (w := 20) pD.2.2.2.2.2.2 (by omega)
        have v20 : fX8_isWord 20 (mu Mc4 189 3 (nI bb)) = some (if τ4 = 30 then 1 else 0) := pD.2.2.2.2.2.1.2.2.1 20 (by omega)
        have eM4 : fX12_readHop (nI (48 + 3 * k)) Mm = if τ4 = 29 ∨ τ4 = 30 then (fX12_reads (mu Mm5 216 (48 + 3 * k + 2) ((Mm5 198 17) - 19))).bind fun M9 => (fX12_readMark 59 M9).bind fun r10 => some (r10.1, r10.2) else (fX12_errs 1 Mm5).bind fun r11 => some (r11.1, r11.2) := by
          rw [eM3, j3, Option.bind_some, Option.bind_some, hT]
          dsimp only
          rw [i1, wr_nI (by omega), Option.bind_some, rd_nI (by omega), Option.bind_some, mu_s, if_neg (nI_nm1 (by omega)), ← hMm5, jn_eq, w19, w20, i2, wr_nI (by omega), Option.bind_some]
          by_cases q1 : τ4 = 29
          · rw [if_pos q1, if_neg one_ne, if_pos (Or.inl q1)]
          · rw [if_neg q1, if_pos rfl]
            by_cases q2 : τ4 = 30
            · rw [if_pos q2, if_neg one_ne, if_pos (Or.inr q2)]
            · rw [if_neg q2, if_pos rfl, if_neg (show ¬ (τ4 = 29 ∨ τ4 = 30) by omega)]
        have eC4 : ∀ J, lnX 1 J Mc = (((fX8_takeWord (if τ4 = 30 then 20 else 21) (mu (mu Mc4 189 3 (nI bb)) 189 2 (if τ4 = 30 then 1 else 0))).bind fun r10 => if r10.1 = 0 ∨ r10.1 = 1 then some (r10.1, r10.2) else none).bind fun r8 => if r8.1 = 0 ∨ r8.1 = 1 then some (r8.1, r8.2) else none).bind fun r6 => if r6.1 = 0 then (some (0, r6.2)) else ((fX8_takeSign 59 r6.2).bind fun r7 => if r7.1 = 0 then (some (0, r7.2)) else ((fX3_append 190 (r7.2 189 1) (r7.2 189 2) (r7.2 189 3) (r7.2 189 4) r7.2).bind J)) := fun J => by
          rw [eC2]
          unfold fX4_readTwist
          rw [g1, Option.bind_some, if_neg one_ne]
          dsimp only
          rw [c25, j1, Option.bind_some, if_neg one_ne, bnd_eq]
          dsimp only
          rw [j2, v20, Option.bind_some, jn_eq]
          by_cases q2 : τ4 = 30
          · rw [if_pos q2, if_neg one_ne, if_pos q2]
            dsimp only
            rw [bnd_eq, jn_eq, mu_s, if_pos rfl]
          · rw [if_neg q2, if_pos rfl, if_neg q2]
            dsimp only
            rw [bnd_eq, jn_eq, mu_s, if_neg (show ¬ (0 : Int32) = 1 by decide)]
        by_cases qw : τ4 = 29 ∨ τ4 = 30
        · obtain ⟨sd, iw, w, hsd, hsv, hiw, hi22, hww, hτ4, h17⟩ : ∃ sd iw w : Nat, sd ≤ 1 ∧ (if τ4 = 30 then (1 : Int32) else 0) = nI sd ∧ (if τ4 = 30 then 20 else 21) = iw ∧ iw < 22 ∧ wmap iw = w ∧ τ4 = 10 + w ∧ Mm5 198 17 - 19 = nI sd := by
            by_cases q2 : τ4 = 30
            · exact ⟨1, 20, 20, by omega, by rw [if_pos q2]; rfl, by rw [if_pos q2], by omega, by decide, by omega, by rw [hm_wordval pD.2.2.2.2.2.2 (w := 20) (by omega) (by omega)]; decide⟩
            · exact ⟨0, 21, 19, by omega, by rw [if_neg q2]; rfl, by rw [if_neg q2], by omega, by decide, by omega, by rw [hm_wordval pD.2.2.2.2.2.2 (w := 19) (by omega) (by omega)]; decide⟩
          rw [if_pos qw, h17] at eM4
          rw [hsv, hiw] at eC4
          have pE : PT L b τ4 p4 e4 (mu (mu Mc4 189 3 (nI bb)) 189 2 (nI sd)) (mu Mm5 216 (48 + 3 * k + 2) (nI sd)) := PT_cmu (PT_mmu pD (by omega)) (by omega)
          have cE1 : Agr cX Mc (mu (mu Mc4 189 3 (nI bb)) 189 2 (nI sd)) := Agr.mu cD1 (Or.inl (by decide))
          rcases pt_word (i := iw) (w := w) pE hi22 hww with ⟨q9, -⟩ | ⟨q9, τ7, p7, e7, Mc7, Mm7, k1, k2, k3, k4, k5⟩
          · exact absurd hτ4 q9
          · have cF1 : Agr cX Mc Mc7 := cE1.trans (k4.mono (by decide))
            have mF : FX 216 (48 + 3 * k + 2) Mm5 Mm7 := (FX_mu (Nat.le_refl _)).trans (k5 216 _) (Nat.le_refl _)
            rw [k2, Option.bind_some] at eM4
            rcases pt_sign k3 with ⟨Mc', Mm', n1, n2, n3, n4⟩ | ⟨τ8, p8, e8, Mc8, Mm8, n1, n2, n3, n4, n5⟩
            · left
              refine ⟨Mc', Mm', fun J => ?_, ?_, n3, tq _ ((mD1.trans mF (by omega)).trans (n4 216 _) (Nat.le_refl _))⟩
              · rw [eC4, k1, Option.bind_some, if_pos (Or.inr rfl), Option.bind_some, if_pos (Or.inr rfl), Option.bind_some, if_neg one_ne]
                dsimp only
                rw [n1, Option.bind_some, if_pos rfl]
              · rw [eM4, n2]; rfl
            · right
              have cG : Agr cX Mc Mc8 := cF1.trans (n4.mono (by decide))
              have mG : FX 216 (48 + 3 * k) Mm Mm8 := (mD1.trans mF (by omega)).trans (n5 216 _) (Nat.le_refl _)
              have mG2 : FX 216 (48 + 3 * k + 2) Mm5 Mm8 := mF.trans (n5 216 _) (Nat.le_refl _)
              have m0 : Mm8 216 (48 + 3 * k) = nI v := by
                rw [mG2 216 _ (by omega) (by omega), hMm5, mu_i (by omega), j6 216 (48 + 3 * k + 1) 216 _ (by omega) (by omega), g5 216 (48 + 3 * k + 1) 216 _ (by omega) (by omega), mu_s]
              have m1 : Mm8 216 (48 + 3 * k + 1) = nI bb := by
                rw [mG2 216 _ (by omega) (by omega), hMm5, mu_s]
              have m2 : Mm8 216 (48 + 3 * k + 2) = nI sd := by
                rw [n5 216 (48 + 3 * k + 3) 216 _ (by omega) (by omega), k5 216 (48 + 3 * k + 3) 216 _ (by omega) (by omega), mu_s]
              have c1 : Mc8 189 1 = nI v := by
                rw [n4 189 1 (by decide) (by decide), k4 189 1 (by decide) (by decide), mu_i (by omega), mu_i (by omega), j5 189 1 (by decide) (by decide), g4 189 1 (by decide) (by decide), mu_s]
              have c2 : Mc8 189 2 = nI sd := by
                rw [n4 189 2 (by decide) (by decide), k4 189 2 (by decide) (by decide), mu_s]
              have c3 : Mc8 189 3 = nI bb := by
                rw [n4 189 3 (by decide) (by decide), k4 189 3 (by decide) (by decide), mu_i (by omega), mu_s]
              obtain ⟨Mc9, s1, s2, s3, s4, s5, s6, s7, s8⟩ := app_eq (G0_m (G0_c hG cG) mG (by omega)) hk (Mc8 189 1) (Mc8 189 2) (Mc8 189 3) (Mc8 189 4)
              refine ⟨τ8, p8, e8, 0, Mc9, Mm8, fun J => ?_, by decide, ?_, ?_, s2, fun i hi => ?_⟩
              · rw [eC4, k1, Option.bind_some, if_pos (Or.inr rfl), Option.bind_some, if_pos (Or.inr rfl), Option.bind_some, if_neg one_ne]
                dsimp only
                rw [n1, Option.bind_some, if_neg one_ne]
                dsimp only
                rw [s1, Option.bind_some]
              · rw [eM4, n2]; rfl
              · exact PT_c n3 (fun i _ => s8 178 i (by omega)) (fun i => s8 179 i (by omega))
              · by_cases w : i = k
                · subst w
                  exact ⟨bb, sd, j0, hsd, by rw [s3, c1, m0], by rw [s5, c3], m1, by rw [s4, c2], m2⟩
                · obtain ⟨b', s', x1, x2, x3, x4, x5, x6, x7⟩ := hl i (by omega)
                  refine ⟨b', s', x1, x2, ?_, ?_, ?_, ?_, ?_⟩
                  · rw [s7 191 i (by omega) (by omega) (by omega), cG 191 i (by simp) (by simp), mG 216 _ (by omega) (by omega)]; exact x3
                  · rw [s7 193 i (by omega) (by omega) (by omega), cG 193 i (by simp) (by simp)]; exact x4
                  · rw [mG 216 _ (by omega) (by omega)]; exact x5
                  · rw [s7 192 i (by omega) (by omega) (by omega), cG 192 i (by simp) (by simp)]; exact x6
                  · rw [mG 216 _ (by omega) (by omega)]; exact x7
        · left
          have q2 : ¬ τ4 = 30 := fun w => qw (Or.inr w)
          rw [if_neg qw] at eM4
          rw [if_neg q2, if_neg q2] at eC4
          have pE : PT L b τ4 p4 e4 (mu (mu Mc4 189 3 (nI bb)) 189 2 0) Mm5 := PT_cmu pD (by omega)
          rcases pt_word (i := 21) (w := 19) pE (by omega) (by decide) with ⟨q9, Mc', Mm', k1, k2, k3, k4⟩ | ⟨q9, -⟩
          · refine ⟨Mc', Mm', fun J => ?_, by rw [eM4]; exact k2, k3, tq _ (mD1.trans (k4 216 _) (Nat.le_refl _))⟩
            rw [eC4, k1, Option.bind_some, if_pos (Or.inl rfl), Option.bind_some, if_pos (Or.inl rfl), Option.bind_some, if_pos rfl]
          · exact absurd (Or.inl q9) qw
