/-! ===== text: a line of law, whole; the lines ===== -/
section LAWLN2
variable {L : Nat} {b : Nat → Nat}
theorem hm_wordval {τ p e w : Nat} {Mm : Mem} (h : HandM τ p e Mm) (hw : w < 22) (q : τ = 10 + w) : Mm 198 17 = nI w := by
  rcases h.2.2 with ⟨a, b⟩ | ⟨a, b⟩ | ⟨w', w1, a, b, d⟩ | ⟨c', w1, a, b, d⟩ | ⟨v', w1, a, b, d⟩
  · omega
  · omega
  · rw [d, show w' = w by omega]
  · have := (mk_lt c' (mk_all c' w1) w1).2.1; omega
  · omega
theorem ln_eq {k w τ p e z : Nat} {Mc Mm : Mem} (h : PS L b τ p e z Mc Mm) (hτ : τ = 10 + w) (hw : w ≤ 2) (hz : z ≤ p) (hk : k < 16) (hc : Mc 181 0 = nI k) (h28 : Mm 198 28 = nI 0) :
    (∃ Mc' Mm', (∀ J, lnC (nI w) J Mc = some (0, Mc')) ∧ (∀ J, lnM (nI (32 + k)) J Mm = some (-1, Mm')) ∧ FR Mc' Mm' ∧ RF z k Mm Mm') ∨
    (∃ τ' p' e' z' b0 Mc' Mm', (∀ J, lnC (nI w) J Mc = J Mc') ∧ (∀ J, lnM (nI (32 + k)) J Mm = J Mm') ∧ z ≤ b0 ∧ b0 ≤ z' ∧ z' ≤ p' ∧ PS L b τ' p' e' z' Mc' Mm' ∧ Mm' 198 28 = nI 0 ∧ Mc' 181 0 = nI (k + 1) ∧ RF z k Mm Mm' ∧ (∀ j i, 182 ≤ j → j ≤ 185 → i < k → Mc' j i = Mc j i) ∧ Lq k w z b0 z' Mc' Mm' ∧ tck (dop Mm') (dar Mm') z (b0 - z) [] = some [false] ∧ (b0 < z' → tck (dop Mm') (dar Mm') b0 (z' - b0) [] = some [true])) := by
  have hL := h.1.1
  have hM := h.2.2.2.2.2.2.1
  have h17 := hm_wordval hM (by omega) hτ
  have hpe : p < e := h.2.2.2.1 (by omega)
  have pA : PS L b τ p e z Mc (mu Mm 209 (32 + k) (nI w)) := PS_m2 h (fun a i w => mu_o (by omega))
  have rA : RF z k Mm (mu Mm 209 (32 + k) (nI w)) := RF_mu (by omega)
  obtain ⟨τ1, p1, e1, Mc1, Mm1, n1, n2, n3, n4, n5, n6⟩ := ps_next pA
  have rB : RF z k Mm Mm1 := rA.trans (RF_of (n6.mono (by decide)) (Agr_df n6)) (Nat.le_refl _)
  have z1 : Mc1 181 1 = nI z := n4.2.2.2.2.2.2.2.1
  have z2 : Mm1 198 27 = nI z := n4.2.2.2.2.2.2.2.2.1
  have pC : PS L b τ1 p1 e1 z Mc1 (mu Mm1 210 (32 + k) (nI z)) := PS_m2 n4 (fun a i w => mu_o (by omega))
  have rC : RF z k Mm (mu Mm1 210 (32 + k) (nI z)) := rB.trans (RF_mu (by omega)) (Nat.le_refl _)
  have m1 : mu Mm1 210 (32 + k) (nI z) 209 (32 + k) = nI w := by rw [mu_o (by omega), n6 209 _ (by simp) (by simp), mu_s]
  have m2 : mu Mm1 210 (32 + k) (nI z) 210 (32 + k) = nI z := mu_s
  have m28 : mu Mm1 210 (32 + k) (nI z) 198 28 = nI 0 := by rw [mu_o (by omega), n6 198 28 (by decide) (by decide), mu_o (by omega)]; exact h28
  have c1 : ∀ j i, 181 ≤ j → j ≤ 185 → Mc1 j i = Mc j i := fun j i q1 q2 => n5 j i (by simp) (by simp; omega)
  have eM : ∀ J, lnM (nI (32 + k)) J Mm = (fX12_readSum (mu Mm1 210 (32 + k) (nI z))).bind fun r5 => if r5.1 = (-1) then (some ((-1), r5.2)) else ((wr r5.2 211 48 (nI (32 + k)) (r5.2 198 27)).bind fun M6 => if (fX12_isWord 3 M6) = 0 then lnM2 (nI (32 + k)) J M6 else ((fX12_reads M6).bind fun M13 => (fX12_readAny M13).bind fun r14 => if r14.1 = (-1) then (some ((-1), r14.2)) else lnM2 (nI (32 + k)) J r14.2)) := fun J => by
    unfold lnM
    rw [h17, wr_nI (by omega), Option.bind_some, n3, Option.bind_some, z2, wr_nI (by omega), Option.bind_some]
  have eC : ∀ J, lnC (nI w) J Mc = (fX2_readSum Mc1).bind fun r5 => if r5.1 = 0 then (some (0, r5.2)) else ((fX8_passWord 13 r5.2).bind fun r7 => if r7.1 = 0 then lnC2 (nI w) (nI z) (r5.2 181 1) J r7.2 else ((fX2_readEither RU 0 r7.2).bind fun r12 => if r12.1 = 0 then (some (0, r12.2)) else lnC2 (nI w) (nI z) (r5.2 181 1) J r12.2)) := fun J => by
    unfold lnC
    rw [n2, Option.bind_some, z1]
  have n01 : ¬ (0 : Int32) = -1 := by decide
  rcases sum_eq (d := 0) pC (by omega) (by omega) with ⟨Mc', Mm', f1, f2, f3, f4⟩ | ⟨τ2, p2, e2, zb, Mc2, Mm2, f1, f2, f3, f4, f5, f6, f7, f8⟩
  · left
    have hm := Agr.of (wX12_readSum _) f2
    exact ⟨Mc', Mm', fun J => by rw [eC, f1, Option.bind_some, if_pos rfl], fun J => by rw [eM, f2, Option.bind_some, if_pos rfl], f3, rC.trans (RF_of (hm.mono (by decide)) f4) (Nat.le_refl _)⟩
  · have hm : Agr _ _ Mm2 := Agr.of (wX12_readSum _) f2
    have hcl : Agr _ _ Mc2 := Agr.of (wX2_readSum _) f1
    have rD : RF z k Mm Mm2 := rC.trans (RF_of (hm.mono (by decide)) f7) (Nat.le_refl _)
    have zz1 : Mc2 181 1 = nI zb := f6.2.2.2.2.2.2.2.1
    have zz2 : Mm2 198 27 = nI zb := f6.2.2.2.2.2.2.2.2.1
    have pE : PS L b τ2 p2 e2 zb Mc2 (mu Mm2 211 (32 + k) (nI zb)) := PS_m2 f6 (fun a i w => mu_o (by omega))
    have rE : RF z k Mm (mu Mm2 211 (32 + k) (nI zb)) := rD.trans (RF_mu (by omega)) (Nat.le_refl _)
    have k1 : mu Mm2 211 (32 + k) (nI zb) 209 (32 + k) = nI w := by rw [mu_o (by omega), hm 209 _ (by simp) (by simp)]; exact m1
    have k2 : mu Mm2 211 (32 + k) (nI zb) 210 (32 + k) = nI z := by rw [mu_o (by omega), hm 210 _ (by simp) (by simp)]; exact m2
    have k28 : mu Mm2 211 (32 + k) (nI zb) 198 28 = nI 0 := by rw [mu_o (by omega), hm 198 28 (by decide) (by decide)]; exact m28
    have c2 : ∀ j i, 182 ≤ j → j ≤ 185 → Mc2 j i = Mc j i := fun j i q1 q2 => (hcl j i (by simp; omega) (by simp; omega)).trans (c1 j i (by omega) q2)
    have c20 : Mc2 181 0 = nI k := (hcl 181 0 (by decide) (by decide)).trans ((c1 181 0 (by omega) (by omega)).trans hc)
    have t1 : ∀ M', Df zb (mu Mm2 211 (32 + k) (nI zb)) M' → tck (dop M') (dar M') z (zb - z) [] = some [false] := fun M' hd => by
      rw [tck_df hd (show z + (zb - z) ≤ zb by omega)]
      have e1 : dop (mu Mm2 211 (32 + k) (nI zb)) = dop Mm2 := funext fun j => mu_o (by omega)
      have e2 : dar (mu Mm2 211 (32 + k) (nI zb)) = dar Mm2 := funext fun j => mu_o (by omega)
      rw [e1, e2]
      exact f8 [] (by decide)
    have w3 : fX12_isWord 3 (mu Mm2 211 (32 + k) (nI zb)) = if τ2 = 13 then 1 else 0 := hm_word (w := 3) pE.2.2.2.2.2.2.1 (by omega)
    rcases pass_word (i := 13) pE (by omega) with ⟨x1, x2⟩ | ⟨x1, Mc3, x2, x3⟩
    · have x1 : τ2 ≠ 13 := x1
      have x2 : fX8_passWord 13 Mc2 = some (0, Mc2) := x2
      have gC : ∀ J, lnC (nI w) J Mc = lnC2 (nI w) (nI z) (nI zb) J Mc2 := fun J => by rw [eC, f1, Option.bind_some, if_neg one_ne, x2, Option.bind_some, if_pos rfl]; dsimp only; rw [zz1]
      have gM : ∀ J, lnM (nI (32 + k)) J Mm = lnM2 (nI (32 + k)) J (mu Mm2 211 (32 + k) (nI zb)) := fun J => by rw [eM, f2, Option.bind_some, if_neg n01]; dsimp only; rw [zz2, wr_nI (by omega), Option.bind_some, w3, if_neg x1, if_pos rfl]
      rcases ln_end pE hk c20 k1 k2 mu_s with ⟨Mc', Mm', g1, g2, g3, g4⟩ | ⟨τ', p', e', Mc', Mm', g1, g2, g3, g4, g5, g6, g7, g8, g9⟩
      · left
        exact ⟨Mc', Mm', fun J => by rw [gC, g1], fun J => by rw [gM, g2], g3, rE.trans g4 (by omega)⟩
      · right
        exact ⟨τ', p', e', zb, zb, Mc', Mm', fun J => by rw [gC, g1], fun J => by rw [gM, g2], by omega, Nat.le_refl _, by omega, g4, g5.trans k28, g6, rE.trans g7 (by omega), fun j i q1 q2 q3 => (g8 j i q1 q2 q3).trans (c2 j i q1 q2), g9, t1 _ g7.df, fun w => absurd w (Nat.lt_irrefl _)⟩
    · have x1 : τ2 = 13 := x1
      have x2 : fX8_passWord 13 Mc2 = some (1, Mc3) := x2
      obtain ⟨τ3, p3, e3, Mc3', Mm3, y1, y2, y3, y4, y5, y6⟩ := ps_next pE
      have e3 : Mc3' = Mc3 := Option.some.inj (y2.symm.trans x3)
      subst e3
      have hpe2 : p2 < e2 := f6.2.2.2.1 (by omega)
      have rF : RF z k Mm Mm3 := rE.trans (RF_of (y6.mono (by decide)) (Agr_df y6)) (Nat.le_refl _)
      have dF : Df zb (mu Mm2 211 (32 + k) (nI zb)) Mm3 := Agr_df y6
      have gC : ∀ J, lnC (nI w) J Mc = (fX2_readEither RU 0 Mc3').bind fun r12 => if r12.1 = 0 then (some (0, r12.2)) else lnC2 (nI w) (nI z) (nI zb) J r12.2 := fun J => by rw [eC, f1, Option.bind_some, if_neg one_ne, x2, Option.bind_some, if_neg one_ne]; dsimp only; rw [zz1]
      have gM : ∀ J, lnM (nI (32 + k)) J Mm = (fX12_readAny Mm3).bind fun r14 => if r14.1 = (-1) then (some ((-1), r14.2)) else lnM2 (nI (32 + k)) J r14.2 := fun J => by rw [eM, f2, Option.bind_some, if_neg n01]; dsimp only; rw [zz2, wr_nI (by omega), Option.bind_some, w3, if_pos x1, if_neg one_ne, y3, Option.bind_some]
      have q28 : Mm3 198 28 = nI 0 := (y6 198 28 (by decide) (by decide)).trans k28
      rcases any_eq (d := 0) y4 (by omega) (by omega) q28 with ⟨Mc', Mm', g1, g2, g3, g4⟩ | ⟨τ4, p4, e4, z4, Mc4, Mm4, g1, g2, g3, g4, g5, g6, g7, g8, g9⟩
      · left
        have hm4 := Agr.of (wX12_readAny _) g2
        exact ⟨Mc', Mm', fun J => by rw [gC, g1, Option.bind_some, if_pos rfl], fun J => by rw [gM, g2, Option.bind_some, if_pos rfl], g3, rF.trans (RF_of hm4 g4) (by omega)⟩
      · have hm4 : Agr _ _ Mm4 := Agr.of (wX12_readAny _) g2
        have hc4 : Agr _ _ Mc4 := Agr.of (wX2_readEither RU 0 _) g1
        have rG : RF z k Mm Mm4 := rF.trans (RF_of hm4 g8) (by omega)
        have c4 : ∀ j i, 182 ≤ j → j ≤ 185 → Mc4 j i = Mc j i := fun j i q1 q2 => (hc4 j i (by simp; omega) (by simp; omega)).trans ((y5 j i (by simp) (by simp; omega)).trans (c2 j i q1 q2))
        have c40 : Mc4 181 0 = nI k := (hc4 181 0 (by decide) (by decide)).trans ((y5 181 0 (by decide) (by decide)).trans c20)
        have b1 : Mm4 209 (32 + k) = nI w := by rw [hm4 209 _ (by simp) (by simp), y6 209 _ (by simp) (by simp)]; exact k1
        have b2 : Mm4 210 (32 + k) = nI z := by rw [hm4 210 _ (by simp) (by simp), y6 210 _ (by simp) (by simp)]; exact k2
        have b3 : Mm4 211 (32 + k) = nI zb := by rw [hm4 211 _ (by simp) (by simp), y6 211 _ (by simp) (by simp)]; exact mu_s
        rcases ln_end g6 hk c40 b1 b2 b3 with ⟨Mc', Mm', j1, j2, j3, j4⟩ | ⟨τ', p', e', Mc', Mm', j1, j2, j3, j4, j5, j6, j7, j8, j9⟩
        · left
          exact ⟨Mc', Mm', fun J => by rw [gC, g1, Option.bind_some, if_neg one_ne, j1], fun J => by rw [gM, g2, Option.bind_some, if_neg n01, j2], j3, rG.trans j4 (by omega)⟩
        · right
          refine ⟨τ', p', e', z4, zb, Mc', Mm', fun J => by rw [gC, g1, Option.bind_some, if_neg one_ne, j1], fun J => by rw [gM, g2, Option.bind_some, if_neg n01, j2], by omega, by omega, by omega, j4, j5.trans g7, j6, rG.trans j7 (by omega), fun j i q1 q2 q3 => (j8 j i q1 q2 q3).trans (c4 j i q1 q2), j9, ?_, fun _ => ?_⟩
          · exact t1 _ (dF.trans (g8.trans j7.df (by omega)) (Nat.le_refl _))
          · rw [tck_df j7.df (show zb + (z4 - zb) ≤ z4 by omega)]; exact g9
end LAWLN2
