/-! ===== text 3: a line ===== -/
def I3 (M0 : Mem) (P B k : Nat) (Mc Mm : Mem) : Prop := G0 M0 P B k Mc Mm ∧ (∀ i, i < k → ∃ b p, b < B ∧ p < P ∧ Mc 193 i = nI b ∧ Mc 194 i = nI p) ∧ ∀ b, b < 14 → Mm 218 (14 + b) = hmask (Mc 193) (Mc 194) b k
def heaJ4 (M : Mem) : Option (Int32 × Mem) := (fX8_takeNumber (M 2 4) M).bind fun r5 => if r5.1 = 0 then (some (0, r5.2)) else (some (1, mu r5.2 189 4 (r5.2 178 8)))
def leaJ3 (x1 : Int32) (M2 : Mem) : Option (Int32 × Mem) := (fX12_readNumber 0 ((M2 198 6) - 1) M2).bind fun r4 => if r4.1 = (-1) then (some ((-1), r4.2)) else ((rd r4.2 218 28 (14 + x1)).bind fun v5 => (wr r4.2 218 28 (14 + x1) (v5 ||| (jshl 1 r4.1))).bind fun M6 => (fX12_readMark 59 M6).bind fun r7 => some (r7.1, r7.2))
section LEAN3
variable {L : Nat} {b : Nat → Nat} {M0 : Mem} {P B : Nat}
theorem hmask_cg {f g f' g' : Nat → Int32} {b : Nat} : ∀ n, (∀ i, i < n → f' i = f i ∧ g' i = g i) → hmask f' g' b n = hmask f g b n
  | 0, _ => rfl
  | n + 1, h => by
    rw [hmask, hmask, (h n (by omega)).1, (h n (by omega)).2, hmask_cg n (fun i hi => h i (by omega))]
theorem lean_eq (k τ p e : Nat) (Mc Mm : Mem) (hk : k < 16) (h : PT L b τ p e Mc Mm) (hτ : τ = 28) (hI : I3 M0 P B k Mc Mm) :
    (∃ Mc' Mm', (∀ J, lnX 3 J Mc = some (0, Mc')) ∧ fX12_readLean Mm = some (-1, Mm') ∧ FR Mc' Mm' ∧ TX M0 Mm') ∨
    (∃ τ' p' e' r Mc' Mm', (∀ J, lnX 3 J Mc = J Mc') ∧ ¬ r = -1 ∧ fX12_readLean Mm = some (r, Mm') ∧ PT L b τ' p' e' Mc' Mm' ∧ I3 M0 P B (k + 1) Mc' Mm') := by
  obtain ⟨hG, hl, hh⟩ := hI
  have hP : P ≤ 12 := hG.2.2.2.2.2.2.1.1
  have hB : B ≤ 14 := hG.2.2.2.2.2.2.1.2.1
  have cP : Mc 2 4 = nI P := hG.2.2.2.2.2.1.1.trans hG.2.2.2.2.2.2.1.2.2.1
  have mP : Mm 198 6 = nI P := hG.2.2.2.2.2.2.1.2.2.1
  have cB : Mc 2 5 = nI B := hG.2.2.2.2.2.1.2.1.trans hG.2.2.2.2.2.2.1.2.2.2.1
  have mB : Mm 198 7 = nI B := hG.2.2.2.2.2.2.1.2.2.2.1
  have t0 := hG.1
  have tq : ∀ M', FX 218 14 Mm M' → TX M0 M' := fun M' hf => t0.trans (TX_FX hf (by omega))
  obtain ⟨τ1, p1, e1, Mc1, Mm1, a1, a2, a3, a4, a5, a6⟩ := pt_next h
  have w18 : fX12_isWord 18 Mm = 1 := by
    have := hm_word (w := 18) h.2.2.2.2.2.2 (by omega)
    rw [if_pos (by omega)] at this; exact this
  obtain ⟨McA, hMcA⟩ : ∃ McA, McA = mu (mu (mu (mu Mc1 189 1 0) 189 2 0) 189 3 0) 189 4 0 := ⟨_, rfl⟩
  have pA : PT L b τ1 p1 e1 McA Mm1 := by rw [hMcA]; exact PT_cmu (PT_cmu (PT_cmu (PT_cmu a3 (by omega)) (by omega)) (by omega)) (by omega)
  have cA1 : Agr cX Mc McA := by rw [hMcA]; exact Agr.mu (Agr.mu (Agr.mu (Agr.mu (a4.mono (by decide)) (Or.inl (by decide))) (Or.inl (by decide))) (Or.inl (by decide))) (Or.inl (by decide))
  have eC : ∀ J, lnX 3 J Mc = ((fX4_readHearing McA).bind fun r9 => if r9.1 = 0 ∨ r9.1 = 1 then some (r9.1, r9.2) else none).bind fun r6 => if r6.1 = 0 then (some (0, r6.2)) else endC J r6.2 := fun J => by
    unfold lnX fX4_readLine
    rw [a1, Option.bind_some, bnd_eq, bnd_eq, bnd_eq, bnd_eq, if_pos rfl, ← hMcA]
    rfl
  have eM : fX12_readTold 18 0 (nI B - 1) Mm = (fX12_readNumber 0 (nI B - 1) Mm1).bind fun r2 => some (r2.1, r2.2) := by
    unfold fX12_readTold
    rw [w18, if_neg one_ne, a2, Option.bind_some]
  have cAB : McA 2 5 = nI B := (cA1 2 5 (by decide) (by decide)).trans cB
  rcases pt_num (bd := B) pA (by omega) with ⟨Mc', Mm', f1, f2, f3, f4⟩ | ⟨b0, τ2, p2, e2, Mc2, Mm2, f0, f1, f2, f3, f4, f5, f6⟩
  · left
    refine ⟨Mc', Mm', fun J => ?_, ?_, f3, tq _ ((a5 218 14).trans (f4 218 14) (Nat.le_refl _))⟩
    · rw [eC]
      unfold fX4_readHearing
      rw [cAB, f1, Option.bind_some, if_pos rfl, Option.bind_some, if_pos (Or.inl rfl), Option.bind_some, if_pos rfl]
    · unfold fX12_readLean
      rw [mB, eM, f2, Option.bind_some, Option.bind_some, if_pos rfl]
  · have pB : PT L b τ2 p2 e2 (mu Mc2 189 3 (nI b0)) Mm2 := PT_cmu f4 (by omega)
    have cB1 : Agr cX Mc (mu Mc2 189 3 (nI b0)) := Agr.mu (cA1.trans (f5.mono (by decide))) (Or.inl (by decide))
    have mB1 : FX 218 14 Mm Mm2 := (a5 218 14).trans (f6 218 14) (Nat.le_refl _)
    have w21 : fX12_isWord 21 Mm2 = if τ2 = 31 then 1 else 0 := hm_word (w := 21) pB.2.2.2.2.2.2 (by omega)
    have hb1 : ¬ nI b0 = -1 := nI_nm1 (by omega)
    rcases pt_word (i := 19) (w := 21) pB (by omega) (by decide) with ⟨q, Mc', Mm', g1, g2, g3, g4⟩ | ⟨q, τ3, p3, e3, Mc3, Mm3, g1, g2, g3, g4, g5⟩
    · left
      refine ⟨Mc', Mm', fun J => ?_, ?_, g3, tq _ (mB1.trans (g4 218 14) (Nat.le_refl _))⟩
      · rw [eC]
        unfold fX4_readHearing
        rw [cAB, f1, Option.bind_some, if_neg one_ne, bnd_eq]
        dsimp only
        rw [f2, g1, Option.bind_some, if_pos rfl, Option.bind_some, if_pos (Or.inl rfl), Option.bind_some, if_pos rfl]
      · unfold fX12_readLean
        rw [mB, eM, f3, Option.bind_some, Option.bind_some, if_neg hb1]
        dsimp only
        rw [w21, if_neg q, if_pos rfl]
        exact g2
    · have cC : Agr cX Mc Mc3 := cB1.trans (g4.mono (by decide))
      have mC : FX 218 14 Mm Mm3 := mB1.trans (g5 218 14) (Nat.le_refl _)
      have hG3 : G0 M0 P B k Mc3 Mm3 := G0_m (G0_c hG cC) mC (by omega)
      have v3 : Mc3 189 3 = nI b0 := (g4 189 3 (by decide) (by decide)).trans mu_s
      have hFx := hG3.2.2.2.2.2.1.2.2 b0 (by omega)
      have c6 : Mc3 6 b0 = Mm3 202 b0 := hFx.1
      have c7 : Mc3 7 b0 = Mm3 203 b0 := hFx.2.1
      have eC2 : fX4_readHearing McA = if Mc3 178 4 = 2 then (if Mc3 178 7 = Mm3 202 b0 ∨ Mc3 178 7 = Mm3 203 b0 then ((fX8_refuse 2 Mc3).bind fun r8 => if r8.1 = 0 ∨ r8.1 = 1 then some (r8.1, r8.2) else none) else heaJ4 Mc3) else heaJ4 Mc3 := by
        unfold fX4_readHearing
        rw [cAB, f1, Option.bind_some, if_neg one_ne, bnd_eq]
        dsimp only
        rw [f2, g1, Option.bind_some, if_neg one_ne]
        dsimp only
        rw [jn_eq, v3]
        have hb := hasB_nI hG3.2.2.2.2.2.1 hG3.2.2.2.2.2.2.1 f0
        unfold fX9_isOneOf
        rw [hb, if_neg one_ne, rd_nI (by omega), Option.bind_some, rd_nI (by omega), Option.bind_some, c6, c7]
        by_cases c : Mc3 178 4 = 2
        · rw [if_pos c, if_pos c]
          by_cases d1 : Mm3 202 b0 = Mc3 178 7
          · rw [if_pos d1, Option.bind_some, if_neg one_ne, if_pos (Or.inl d1.symm)]
          · rw [if_neg d1]
            by_cases d2 : Mm3 203 b0 = Mc3 178 7
            · rw [if_pos d2, Option.bind_some, if_neg one_ne, if_pos (Or.inr d2.symm)]
            · rw [if_neg d2, Option.bind_some, if_pos rfl, if_neg (fun w => w.elim (fun x => d1 x.symm) (fun x => d2 x.symm))]
              rfl
        · rw [if_neg c, if_neg c]; rfl
      have eM2 : fX12_readLean Mm = if Mm3 198 16 = 3 then (if Mm3 198 17 = Mm3 202 b0 ∨ Mm3 198 17 = Mm3 203 b0 then ((fX12_errs 2 Mm3).bind fun r10 => some (r10.1, r10.2)) else leaJ3 (nI b0) Mm3) else leaJ3 (nI b0) Mm3 := by
        unfold fX12_readLean
        rw [mB, eM, f3, Option.bind_some, Option.bind_some, if_neg hb1]
        dsimp only
        rw [w21, if_pos q, if_neg one_ne, g2, Option.bind_some, jn_eq, rd_nI (by omega), Option.bind_some, jn_eq, rd_nI (by omega), Option.bind_some]
        by_cases c : Mm3 198 16 = 3
        · rw [if_pos c, if_pos c]
          by_cases d1 : Mm3 198 17 = Mm3 202 b0
          · rw [if_pos d1, if_pos (Or.inl d1)]
          · rw [if_neg d1]
            by_cases d2 : Mm3 198 17 = Mm3 203 b0
            · rw [if_pos d2, if_pos (Or.inr d2)]
            · rw [if_neg d2, if_neg (fun w => w.elim d1 d2)]
              rfl
        · rw [if_neg c, if_neg c]; rfl
      have c24 : Mc3 2 4 = nI P := (cC 2 4 (by decide) (by decide)).trans cP
      have m6 : Mm3 198 6 = nI P := (mC 198 6 (by omega) (by omega)).trans mP
      have i14 : (14 : Int32) + nI b0 = nI (14 + b0) := nI_add 14 b0
      have fin : fX4_readHearing McA = heaJ4 Mc3 → fX12_readLean Mm = leaJ3 (nI b0) Mm3 → ((∃ Mc' Mm', (∀ J, lnX 3 J Mc = some (0, Mc')) ∧ fX12_readLean Mm = some (-1, Mm') ∧ FR Mc' Mm' ∧ TX M0 Mm') ∨
    (∃ τ' p' e' r Mc' Mm', (∀ J, lnX 3 J Mc = J Mc') ∧ ¬ r = -1 ∧ fX12_readLean Mm = some (r, Mm') ∧ PT L b τ' p' e' Mc' Mm' ∧ I3 M0 P B (k + 1) Mc' Mm')) := fun hE1 hE2 => by
        unfold heaJ4 at hE1
        unfold leaJ3 at hE2
        rw [c24] at hE1
        rw [m6] at hE2
        rcases pt_num (bd := P) g3 (by omega) with ⟨Mc', Mm', j1, j2, j3, j4⟩ | ⟨p0, τ4, p4, e4, Mc4, Mm4, j0, j1, j2, j3, j4, j5, j6⟩
        · left
          refine ⟨Mc', Mm', fun J => ?_, ?_, j3, tq _ (mC.trans (j4 218 14) (Nat.le_refl _))⟩
          · rw [eC, hE1, j1, Option.bind_some, if_pos rfl, Option.bind_some, if_pos (Or.inl rfl), Option.bind_some, if_pos rfl]
          · rw [hE2, j2, Option.bind_some, if_pos rfl]
        · obtain ⟨MmD, hMmD⟩ : ∃ MmD, MmD = mu Mm4 218 (14 + b0) (Mm4 218 (14 + b0) ||| jshl 1 (nI p0)) := ⟨_, rfl⟩
          have eC8 : ∀ J, lnX 3 J Mc = endC J (mu Mc4 189 4 (nI p0)) := fun J => by
            rw [eC, hE1, j1, Option.bind_some, if_neg one_ne]
            dsimp only
            rw [j2, Option.bind_some, if_pos (Or.inr rfl), Option.bind_some, if_neg one_ne]
          rw [j3, Option.bind_some, if_neg (nI_nm1 (by omega))] at hE2
          dsimp only at hE2
          rw [i14, rd_nI (by omega), Option.bind_some, wr_nI (by omega), Option.bind_some, ← hMmD] at hE2
          have p8 : PT L b τ4 p4 e4 (mu Mc4 189 4 (nI p0)) MmD := by rw [hMmD]; exact PT_cmu (PT_mmu j4 (by omega)) (by omega)
          have c8 : Agr cX Mc (mu Mc4 189 4 (nI p0)) := Agr.mu (cC.trans (j5.mono (by decide))) (Or.inl (by decide))
          have m8 : FX 218 14 Mm MmD := by rw [hMmD]; exact (mC.trans (j6 218 14) (Nat.le_refl _)).trans (FX_mu (by omega)) (Nat.le_refl _)
          rcases ln_fin p8 (G0_m (G0_c hG c8) m8 (by omega)) hk with ⟨Mc', Mm', n1, n2, n3, n4⟩ | ⟨τ', p', e', Mc', Mm', n1, n2, n3, n4, n5, n6, n7, n8, n9, n10⟩
          · exact Or.inl ⟨Mc', Mm', fun J => by rw [eC8, n1], by rw [hE2, n2]; rfl, n3, n4⟩
          · right
            have h3 : Mc' 193 k = nI b0 := by rw [n7, mu_i (by omega), j5 189 3 (by decide) (by decide), v3]
            have h4 : Mc' 194 k = nI p0 := by rw [n8, mu_s]
            have oc : ∀ j i, 191 ≤ j → j ≤ 194 → i < k → Mc' j i = Mc j i := fun j i q1 q2 q3 => (n9 j i q1 q2 q3).trans (c8 j i (by simp) (by simp; omega))
            refine ⟨τ', p', e', 0, Mc', Mm', fun J => by rw [eC8, n1], by decide, by rw [hE2, n2]; rfl, n3, n4, fun i hi => ?_, fun b' hb' => ?_⟩
            · by_cases w : i = k
              · subst w; exact ⟨b0, p0, f0, j0, h3, h4⟩
              · rw [oc 193 i (by omega) (by omega) (by omega), oc 194 i (by omega) (by omega) (by omega)]; exact hl i (by omega)
            · have m4 : ∀ j, Mm4 218 j = Mm 218 j := fun j => by
                rw [j6 217 0 218 j (by omega) (by omega), g5 217 0 218 j (by omega) (by omega), f6 217 0 218 j (by omega) (by omega), a5 217 0 218 j (by omega) (by omega)]
              rw [n10 217 0 218 _ (by omega) (by omega), hmask, h3, h4, hmask_cg k (fun i hi => ⟨oc 193 i (by omega) (by omega) hi, oc 194 i (by omega) (by omega) hi⟩), ← hh b' hb', hMmD]
              by_cases w : b' = b0
              · subst w
                rw [mu_s, if_pos rfl, m4]
              · rw [mu_i (by omega), if_neg (fun x => w ((nI_eqb (by omega) (by omega)).mp x).symm), m4]
      rcases hc_num g3.2.2.2.2.2.1 with ⟨q1, q2, q3, q4⟩ | ⟨q1, q2⟩
      · rcases hm_num g3.2.2.2.2.2.2 with ⟨r1, r2, r3, r4⟩ | ⟨r1, r2⟩
        · rw [if_pos q1, q4] at eC2
          rw [if_pos r1, r4] at eM2
          by_cases d : nI (τ3 - 1000) = Mm3 202 b0 ∨ nI (τ3 - 1000) = Mm3 203 b0
          · left
            rw [if_pos d] at eC2 eM2
            obtain ⟨Mc', Mm', y1, y2, y3, y4⟩ := pt_flt g3 2
            refine ⟨Mc', Mm', fun J => ?_, eM2.trans y2, y3, tq _ (mC.trans (y4 218 14) (Nat.le_refl _))⟩
            rw [eC, eC2, y1, Option.bind_some, if_pos (Or.inl rfl), Option.bind_some, if_pos rfl]
          · rw [if_neg d] at eC2 eM2
            exact fin eC2 eM2
        · omega
      · rcases hm_num g3.2.2.2.2.2.2 with ⟨r1, r2, r3, r4⟩ | ⟨r1, r2⟩
        · omega
        · rw [if_neg q1] at eC2
          rw [if_neg r1] at eM2
          exact fin eC2 eM2
end LEAN3
