/-! ===== deal ===== -/
theorem s_deal (p q : Int32) : Sm (fX11_deal p q) (fX12_deal p q) := Sm.fr (wX11_deal p q) (wX12_deal p q) (by decide +kernel) (by decide +kernel) fun Mc Mm hA => by
  have hA1 := AR_told hA
  obtain ⟨P, B, n, h0, h, hn, hn1⟩ := AR_D0 hA1
  have hK := D0_ask h0 h
  obtain ⟨hT, hF, hB, -, hHe⟩ := id hK
  have hB14 := hB.2.1
  have hP12 := hB.1
  unfold fX11_deal fX12_deal
  rw [bnd_eq, hasB_eq hF.2.1]
  by_cases d : fX12_isBargain p (mu Mm 198 0 0) = 0
  · rw [if_pos d, if_pos d]; exact ⟨_, _, _, rfl, rfl⟩
  obtain ⟨b, hb, rfl⟩ := isB_yes hB.2.2.2.1 (by omega) d
  rw [if_neg d, if_neg d]
  generalize hM : mu Mm 198 0 0 = M1 at *
  obtain ⟨t1, t2, t3⟩ := hT.2.2.1 b (by omega)
  obtain ⟨f1, f2, f3⟩ := hF.2.2 b (by omega)
  obtain ⟨z, z1, z2⟩ := hT.2.2.2 b (by omega)
  have t1 : Mc 9 b = M1 199 (41 + b) := t1
  have t3 : Mc 11 b = M1 199 (69 + b) := t3
  have f1 : Mc 6 b = M1 202 b := f1
  have f2 : Mc 7 b = M1 203 b := f2
  have f3 : Mc 8 b = M1 204 b := f3
  have hsd : ∀ s : Int32, fX9_hasSaid 2 (nI b) s Mc = if (jshr (M1 199 (55 + b)) s &&& 1) = 1 then some 1 else some 0 := fun s => by
    unfold fX9_hasSaid
    rw [hasB_nI hF hB hb, if_neg one_ne, rd_nI (by omega), Option.bind_some, t2]
  have hhas : ∀ s : Int32, ((rd M1 199 83 (55 + nI b)).bind fun v5 => if (fX12_has v5 s) = 0 then (some ((0 : Int32), M1)) else (some (1, M1))) = if (jshr (M1 199 (55 + b)) s &&& 1) = 1 then some (1, M1) else some (0, M1) := fun s => by
    unfold fX12_has
    rw [ladd 55 b, rd_nI (by omega), Option.bind_some]
    by_cases c2 : (jshr (M1 199 (55 + b)) s &&& 1) = 1
    · rw [if_pos c2, if_pos c2, if_neg one_ne]
    · rw [if_neg c2, if_neg c2, if_pos rfl]
  by_cases c : 0 ≤ q ∧ q ≤ nI 8
  · obtain ⟨j, hj, rfl⟩ := in_of (n := 8) (by decide) c
    rw [swt_nI (by simp; omega) (by simp), if_pos c.1, jn_eq]
    rcases (show j = 0 ∨ j = 1 ∨ j = 2 ∨ j = 3 ∨ j = 4 ∨ j = 5 ∨ j = 6 ∨ j = 7 ∨ j = 8 by omega) with rfl | rfl | rfl | rfl | rfl | rfl | rfl | rfl | rfl
    · refine ⟨M1 202 b, Mc, M1, ?_, ?_⟩
      · show (rd Mc 6 14 (nI b)).bind _ = _
        rw [rd_nI (by omega), f1]; rfl
      · rw [if_pos (show nI 0 = 0 from rfl)]
        unfold fX12_hopperOf
        rw [if_pos (show nI 0 = 0 from rfl), rd_nI (by omega)]; rfl
    · refine ⟨M1 203 b, Mc, M1, ?_, ?_⟩
      · show (rd Mc 7 14 (nI b)).bind _ = _
        rw [rd_nI (by omega), f2]; rfl
      · rw [if_neg (show ¬ nI 1 = 0 from by decide), if_pos (show nI 1 = 1 from rfl)]
        unfold fX12_hopperOf
        rw [if_neg (show ¬ nI 1 = 0 from by decide), rd_nI (by omega)]; rfl
    · refine ⟨M1 204 b, Mc, M1, ?_, ?_⟩
      · show (rd Mc 8 14 (nI b)).bind _ = _
        rw [rd_nI (by omega), f3]; rfl
      · rw [if_neg (show ¬ nI 2 = 0 from by decide), if_neg (show ¬ nI 2 = 1 from by decide), if_pos (show nI 2 = 2 from rfl), rd_nI (by omega)]; rfl
    · refine ⟨M1 199 (41 + b), Mc, M1, ?_, ?_⟩
      · show (rd Mc 9 14 (nI b)).bind _ = _
        rw [rd_nI (by omega), t1]; rfl
      · rw [if_neg (show ¬ nI 3 = 0 from by decide), if_neg (show ¬ nI 3 = 1 from by decide), if_neg (show ¬ nI 3 = 2 from by decide), if_pos (show nI 3 = 3 from rfl), ladd 41 b, rd_nI (by omega)]; rfl
    · have e1 : ((fX9_hasSaid 2 (nI b) 0 Mc).bind fun v5 => if v5 = 0 then (some ((0 : Int32), Mc)) else (some (1, Mc))) = if (jshr (M1 199 (55 + b)) 0 &&& 1) = 1 then some (1, Mc) else some (0, Mc) := by
        rw [hsd]
        split
        · rw [Option.bind_some, if_neg one_ne]
        · rw [Option.bind_some, if_pos rfl]
      rw [if_neg (show ¬ nI 4 = 0 from by decide), if_neg (show ¬ nI 4 = 1 from by decide), if_neg (show ¬ nI 4 = 2 from by decide), if_neg (show ¬ nI 4 = 3 from by decide), jn_eq, if_pos (show nI 4 = 4 from rfl), show nI 4 - 4 = (0 : Int32) from by decide, hhas]
      show ∃ r Mc' Mm', ((fX9_hasSaid 2 (nI b) 0 Mc).bind fun v5 => if v5 = 0 then (some ((0 : Int32), Mc)) else (some (1, Mc))) = some (r, Mc') ∧ _
      rw [e1]
      by_cases c2 : (jshr (M1 199 (55 + b)) 0 &&& 1) = 1
      · rw [if_pos c2, if_pos c2]; exact ⟨_, _, _, rfl, rfl⟩
      · rw [if_neg c2, if_neg c2]; exact ⟨_, _, _, rfl, rfl⟩
    · have e1 : ((fX9_hasSaid 2 (nI b) 1 Mc).bind fun v5 => if v5 = 0 then (some ((0 : Int32), Mc)) else (some (1, Mc))) = if (jshr (M1 199 (55 + b)) 1 &&& 1) = 1 then some (1, Mc) else some (0, Mc) := by
        rw [hsd]
        split
        · rw [Option.bind_some, if_neg one_ne]
        · rw [Option.bind_some, if_pos rfl]
      rw [if_neg (show ¬ nI 5 = 0 from by decide), if_neg (show ¬ nI 5 = 1 from by decide), if_neg (show ¬ nI 5 = 2 from by decide), if_neg (show ¬ nI 5 = 3 from by decide), jn_eq, if_neg (show ¬ nI 5 = 4 from by decide), if_pos (show nI 5 = 5 from rfl), show nI 5 - 4 = (1 : Int32) from by decide, hhas]
      show ∃ r Mc' Mm', ((fX9_hasSaid 2 (nI b) 1 Mc).bind fun v5 => if v5 = 0 then (some ((0 : Int32), Mc)) else (some (1, Mc))) = some (r, Mc') ∧ _
      rw [e1]
      by_cases c2 : (jshr (M1 199 (55 + b)) 1 &&& 1) = 1
      · rw [if_pos c2, if_pos c2]; exact ⟨_, _, _, rfl, rfl⟩
      · rw [if_neg c2, if_neg c2]; exact ⟨_, _, _, rfl, rfl⟩
    · refine ⟨M1 199 (69 + b), Mc, M1, ?_, ?_⟩
      · show (rd Mc 11 14 (nI b)).bind _ = _
        rw [rd_nI (by omega), t3]; rfl
      · rw [if_neg (show ¬ nI 6 = 0 from by decide), if_neg (show ¬ nI 6 = 1 from by decide), if_neg (show ¬ nI 6 = 2 from by decide), if_neg (show ¬ nI 6 = 3 from by decide), jn_eq, if_neg (show ¬ nI 6 = 4 from by decide), if_neg (show ¬ nI 6 = 5 from by decide), if_pos (show nI 6 = 6 from rfl), ladd 69 b, rd_nI (by omega)]; rfl
    · obtain ⟨x, Mc1, Mm1, x1, x2, x3, x4, x5⟩ := ask_blurs (Or.inl rfl) hK hb
      refine ⟨nI x, Mc1, Mm1, ?_, ?_⟩
      · show (fX0_asked 1 2 (nI b) (-1) 0 Mc).bind _ = _
        rw [x4]; rfl
      · rw [if_neg (show ¬ nI 7 = 0 from by decide), if_neg (show ¬ nI 7 = 1 from by decide), if_neg (show ¬ nI 7 = 2 from by decide), if_neg (show ¬ nI 7 = 3 from by decide), jn_eq, if_neg (show ¬ nI 7 = 4 from by decide), if_neg (show ¬ nI 7 = 5 from by decide), if_neg (show ¬ nI 7 = 6 from by decide), if_pos (show nI 7 = 7 from rfl), x5]; rfl
    · obtain ⟨nh, a1, a2, a3, a4, a5⟩ := hHe
      have h12 : ∀ i, i < nh → ∃ p, p < 12 ∧ Mc (35 + 4) i = nI p := fun i hi => by
        obtain ⟨b', p', q1, q2, q3, q4⟩ := a4 i hi
        exact ⟨p', by omega, q4⟩
      obtain ⟨n8, n81, n82⟩ := hmask_lt (wh := Mc (35 + 3)) (b := b) h12
      have h218 : M1 218 b = nI n8 := (a5 b (by omega)).trans n82
      have hh : fX0_hearersOf (nI b) Mc = some (nI n8) := (hearers_eq b a2 a1).trans (congrArg some n82)
      refine ⟨fJ6_bitCount_0f7a4 (nI n8), Mc, M1, ?_, ?_⟩
      · show (fX0_hearersOf (nI b) Mc).bind _ = _
        rw [hh]; rfl
      · rw [if_neg (show ¬ nI 8 = 0 from by decide), if_neg (show ¬ nI 8 = 1 from by decide), if_neg (show ¬ nI 8 = 2 from by decide), if_neg (show ¬ nI 8 = 3 from by decide), jn_eq, if_neg (show ¬ nI 8 = 4 from by decide), if_neg (show ¬ nI 8 = 5 from by decide), if_neg (show ¬ nI 8 = 6 from by decide), if_neg (show ¬ nI 8 = 7 from by decide), if_pos (show nI 8 = 8 from rfl), rd_nI (by omega), h218, Option.bind_some, ones_bc n81]; rfl
  · rw [swt_no (n := 8) rfl (by decide) c]
    have ne : ∀ j, j ≤ 8 → ¬ q = nI j := fun j hj e => c (by subst e; exact ⟨nI_pos' (by omega), nI_le hj (by decide)⟩)
    unfold fX11_phraseTold
    rw [hasB_nI hF hB hb, if_neg one_ne, isW_isIn]
    have ref : (if 0 ≤ q then (jn ((fX12_hopperOf (nI b) q M1).bind fun v3 => some (v3, M1)) fun (J2 : Option (Int32 × Mem)) => if q = 0 then (J2) else (if q = 1 then (J2) else (if q = 2 then ((rd M1 204 14 (nI b)).bind fun v16 => some (v16, M1)) else (if q = 3 then ((rd M1 199 83 (41 + nI b)).bind fun v15 => some (v15, M1)) else (jn ((rd M1 199 83 (55 + nI b)).bind fun v5 => if (fX12_has v5 (q - 4)) = 0 then (some (0, M1)) else (some (1, M1))) fun (J4 : Option (Int32 × Mem)) => if q = 4 then (J4) else (if q = 5 then (J4) else (if q = 6 then ((rd M1 199 83 (69 + nI b)).bind fun v14 => some (v14, M1)) else (if q = 7 then ((fX12_wipesOf (nI b) M1).bind fun r13 => some (r13.1, r13.2)) else (if q = 8 then ((rd M1 218 28 (nI b)).bind fun v11 => (fX12_onesOf v11).bind fun v12 => some (v12, M1)) else (bnd (jrem q 10 : Int32) fun x6 => if (fX12_isIn q 10 49) = 0 then (some ((-1), M1)) else ((rd M1 204 14 (nI b)).bind fun v7 => if (fX12_isIn x6 1 v7) = 0 then (some ((-1), M1)) else ((fX12_hopperOf (nI b) (jrem ((q / 10) + 1) 2) M1).bind fun v8 => if 30 ≤ q then ((fX12_costsOn (nI b) v8 x6 M1).bind fun r9 => some (r9.1, r9.2)) else ((fX12_landsOn (nI b) v8 x6 M1).bind fun r10 => some (r10.1, r10.2)))))))))))))) else (some ((-1), M1))) = if (fX12_isIn q 10 49) = 0 then (some ((-1), M1)) else ((rd M1 204 14 (nI b)).bind fun v7 => if (fX12_isIn (jrem q 10) 1 v7) = 0 then (some ((-1), M1)) else ((fX12_hopperOf (nI b) (jrem ((q / 10) + 1) 2) M1).bind fun v8 => if 30 ≤ q then ((fX12_costsOn (nI b) v8 (jrem q 10) M1).bind fun r9 => some (r9.1, r9.2)) else ((fX12_landsOn (nI b) v8 (jrem q 10) M1).bind fun r10 => some (r10.1, r10.2)))) := by
      by_cases e : 0 ≤ q
      · rw [if_pos e, jn_eq, if_neg (show ¬ q = 0 from ne 0 (by omega)), if_neg (show ¬ q = 1 from ne 1 (by omega)), if_neg (show ¬ q = 2 from ne 2 (by omega)), if_neg (show ¬ q = 3 from ne 3 (by omega)), jn_eq, if_neg (show ¬ q = 4 from ne 4 (by omega)), if_neg (show ¬ q = 5 from ne 5 (by omega)), if_neg (show ¬ q = 6 from ne 6 (by omega)), if_neg (show ¬ q = 7 from ne 7 (by omega)), if_neg (show ¬ q = 8 from ne 8 (by omega)), bnd_eq]
      · rw [if_neg e, isIn_no (fun w => e (by
          have w1 := w.1
          rw [fa_le] at w1 ⊢
          have z10 : (10 : Int32).toInt = 10 := by decide
          have z0 : (0 : Int32).toInt = 0 := by decide
          omega)), if_pos rfl]
    rw [ref]
    by_cases c2 : ¬ (10 ≤ q ∧ q ≤ 49)
    · rw [isIn_no c2, if_pos rfl, if_pos rfl]; exact ⟨_, _, _, rfl, rfl⟩
    have c2 := Decidable.not_not.mp c2
    rw [isIn_yes c2, if_neg one_ne, if_neg one_ne]
    obtain ⟨j, j1, j2, rfl⟩ := in_of1 (m := 10) (n := 49) (by decide) (by decide) c2
    have e10 : nI j / 10 = nI (j / 10) := pk_div (d := 10) (by omega) (by omega) (by omega)
    have r10 : jrem (nI j) 10 = nI (j % 10) := jrem_nI (d := 10) (by omega) (by omega) (by omega)
    have m1 : nI (j / 10) - 1 = nI (j / 10 - 1) := nI_sub1 (by omega)
    have s1 : jrem (nI (j / 10 - 1)) 2 = nI ((j / 10 - 1) % 2) := jrem_nI (d := 2) (by omega) (by omega) (by omega)
    have s2 : jrem (nI (j / 10) + 1) 2 = nI ((j / 10 - 1) % 2) := by
      rw [nI_1]
      have := jrem_nI (a := j / 10 + 1) (d := 2) (by omega) (by omega) (by omega)
      rw [show (j / 10 - 1) % 2 = (j / 10 + 1) % 2 by omega]; exact this
    rw [e10, r10, m1, bnd_eq, bnd_eq, s1, s2, rd_nI (by omega), f3, Option.bind_some, rd_nI (by omega), Option.bind_some]
    by_cases c3 : fX12_isIn (nI (j % 10)) 1 (M1 204 b) = 0
    · rw [if_pos c3, if_pos c3]; exact ⟨_, _, _, rfl, rfl⟩
    rw [if_neg c3, if_neg c3]
    obtain ⟨w, w1, w2, w3, -⟩ := who_side (s := (j / 10 - 1) % 2) (Or.inl rfl) hF hB hb (by omega)
    rw [w3, Option.bind_some, jn_eq]
    by_cases c4 : 30 ≤ j
    · obtain ⟨x, Mc1, Mm1, x1, x2, x3, x4, x5⟩ := ask_costs (ph := nI (j % 10)) (Or.inl rfl) hK hb w1 w2
      rw [if_pos (show (2 : Int32) ≤ nI (j / 10 - 1) from nI_le (show 2 ≤ j / 10 - 1 by omega) (by omega)), if_pos (show (30 : Int32) ≤ nI j from nI_le c4 (by omega)), x5]
      dsimp only
      rw [x4]
      exact ⟨_, _, _, rfl, rfl⟩
    · obtain ⟨x, Mc1, Mm1, x1, x2, x3, x4, x5⟩ := ask_rolls (ph := nI (j % 10)) (Or.inl rfl) hK hb w1 w2
      rw [if_neg (show ¬ (2 : Int32) ≤ nI (j / 10 - 1) from nI_ge (show j / 10 - 1 < 2 by omega) (by decide)), if_neg (show ¬ (30 : Int32) ≤ nI j from nI_ge (show j < 30 by omega) (by decide)), x5]
      dsimp only
      rw [x4]
      exact ⟨_, _, _, rfl, rfl⟩
