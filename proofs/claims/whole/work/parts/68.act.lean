/-! ===== act, days, deal ===== -/
theorem AR_D0 {Mc Mm : Mem} (hA : AR Mc Mm) : ∃ P B n, D0 2 false P B Mc Mm ∧ DR 2 false n Mc Mm Mc Mm ∧ Mm 199 2 = nI n ∧ n ≤ 150 := by
  obtain ⟨⟨P, B, n, hBd, hTv, hFx, hBk, hLaw, hTw, hEv, hHe, hTo⟩, -, -, -, -, hCs⟩ := hA
  refine ⟨P, B, n, ⟨Or.inl rfl, hFx, hBd, hLaw, hTw, hEv, hHe, fun e => (by cases e), fun _ => ⟨hCs.2.2.2.2.2.2.2.2.2.2, hCs.1 12 (by simp)⟩⟩, ⟨Agr.rfl', Agr.rfl', hTv, fun _ => ⟨n, Nat.le_refl _, hBk⟩⟩, hBk.2.2.1, hBk.1⟩
theorem DR_AR {Mc Mm Mc' Mm' : Mem} {n0 : Nat} (hA : AR Mc Mm) (hn : Mm 199 2 = nI n0) (hn1 : n0 ≤ 150) (h : DR 2 false n0 Mc Mm Mc' Mm') : AR Mc' Mm' := by
  obtain ⟨⟨P, B, n, hBd, hTv, hFx, hBk, hLaw, hTw, hEv, hHe, hTo⟩, ⟨N, hN, hN2, hPa⟩, hTa, hFa, hIm, hCs⟩ := hA
  obtain ⟨hc, hm, hT, hB⟩ := h
  obtain ⟨n', n1, n2⟩ := hB rfl
  have eN : N = n0 := by
    rw [hN] at hn
    exact (nI_eqb (by omega) (by omega)).mp hn
  have f1 : Mc' 178 2 = Mc 178 2 := hc 178 2 (by decide) (by decide)
  have f2 : Mc' 178 3 = Mc 178 3 := hc 178 3 (by decide) (by decide)
  have f3 : Mm' 198 33 = Mm 198 33 := hm 198 33 (by decide) (by decide)
  have f4 : Mm' 198 34 = Mm 198 34 := hm 198 34 (by decide) (by decide)
  refine ⟨⟨P, B, n', Bd_agr hm rfl hBd, hT, Fx_agr hc hm rfl rfl hFx, n2, LawR_agr hc hm rfl rfl hLaw, TwR_agr hc hm rfl rfl hTw, EvR_agr hc hm rfl rfl hEv, HeR_agr hc hm rfl rfl hHe, ToR_agr hc hm rfl rfl hTo⟩, ⟨n', n2.2.2.1, n2.1, PaR_agr (by omega) hc hm (by decide +kernel) (by decide +kernel) hPa⟩, TaR_agr hc hm rfl rfl hTa, ?_, ImR_agr hc hm (by decide +kernel) (by decide +kernel) hIm, CsR_agr hc hm (by decide +kernel) (by decide +kernel) (hm 226 0 (by decide) (by decide)) (hm 227 0 (by decide) (by decide)) hCs⟩
  rw [f1, f2, f3, f4]; exact hFa
theorem day_AR {Mc Mm : Mem} (hA : AR Mc Mm) : ∃ a Mc' Mm', fX0_goDay 2 0 Mc = some (a, Mc') ∧ fX12_goesBy Mm = some (a, Mm') ∧ AR Mc' Mm' := by
  obtain ⟨P, B, n, h0, h, hn, hn1⟩ := AR_D0 hA
  obtain ⟨a, Mc', Mm', d1, d2, d3⟩ := day_eq h0 h
  exact ⟨a, Mc', Mm', d2, d3, DR_AR hA hn hn1 d1⟩
theorem ds_loop {z : Nat} (hz : z ≤ 60) : ∀ (k F i : Nat) (a : Int32) (Mc Mm : Mem), i + k = z → k < F → AR Mc Mm → ∃ r Mc' Mm', fX11_days_L37 (nI z) F a (nI i) Mc = some (r, Mc') ∧ fX12_days_L36 (nI z) F a (nI i) Mm = some (r, Mm') ∧ AR Mc' Mm'
  | k, 0, i, a, Mc, Mm, _, h, _ => by omega
  | 0, F + 1, i, a, Mc, Mm, h1, h2, hA => by
    have c : nI z ≤ nI i := nI_le (by omega) (by omega)
    exact ⟨a, Mc, Mm, by rw [fX11_days_L37, if_pos c], by rw [fX12_days_L36, if_pos c], hA⟩
  | k + 1, F + 1, i, a, Mc, Mm, h1, h2, hA => by
    have c : ¬ nI z ≤ nI i := nI_ge (by omega) (by omega)
    obtain ⟨Mc1, Mm1, e1, e2, e3, -⟩ := keep_AR hA
    obtain ⟨x, Mc2, Mm2, f1, f2, f3⟩ := day_AR e3
    obtain ⟨r, Mc3, Mm3, g1, g2, g3⟩ := ds_loop hz k F (i + 1) (a + x) Mc2 Mm2 (by omega) (by omega) f3
    refine ⟨r, Mc3, Mm3, ?_, ?_, g3⟩
    · rw [fX11_days_L37, if_neg c, e1, Option.bind_some, f1, Option.bind_some, bnd_eq, nI_1]; exact g1
    · rw [fX12_days_L36, if_neg c, e2, Option.bind_some, f2, Option.bind_some, bnd_eq, nI_1]; exact g2
theorem s_days (p : Int32) : Sm (fX11_days p) (fX12_days p) := fun Mc Mm hA => by
  have h0 := hA
  obtain ⟨⟨P, B, n, hBd, hTv, -⟩, -⟩ := hA
  have ed : Mc 2 3 = Mm 199 0 := hTv.1.2.2.2
  have r0 : rd (mu Mm 198 0 0) 199 83 0 = some (Mm 199 0) := (rd_nI (j := 0) (by omega)).trans (by rw [mu_o (by omega)])
  unfold fX11_days fX12_days
  rw [isW_isIn, bnd_eq]
  by_cases c1 : ¬ (1 ≤ p ∧ p ≤ 60)
  · rw [isIn_no c1, if_pos rfl, if_pos rfl]; exact ⟨_, _, _, rfl, rfl, AR_told h0⟩
  have c1 := Decidable.not_not.mp c1
  rw [isIn_yes c1, if_neg one_ne, if_neg one_ne, r0, Option.bind_some, ed]
  by_cases c2 : Mm 199 0 + p ≤ 9999
  · rw [if_pos c2, if_pos c2]
    obtain ⟨z, z1, z2, rfl⟩ := in_of1 (m := 1) (n := 60) (by decide) (by decide) c1
    have := ds_loop z2 z FU 0 0 Mc (mu Mm 198 0 0) (by omega) (FU_gt (by omega)) (AR_told h0)
    rw [nI_0] at this
    exact this
  · rw [if_neg c2, if_neg c2]; exact ⟨_, _, _, rfl, rfl, AR_told h0⟩
theorem can_eq {Mc Mm : Mem} (hA : AR Mc Mm) (p q : Int32) : ∃ v : Int32, (v = 0 ∨ v = 1) ∧ fX11_canAct p q Mc = some v ∧ fX12_canAct p q Mm = some v ∧ (v = 1 → ∃ x, x ≤ 4 ∧ p = nI x ∧ ((x ≤ 3 ∧ ∃ P B n b, D0 2 false P B Mc Mm ∧ DR 2 false n Mc Mm Mc Mm ∧ b < B ∧ q = nI b ∧ (x ≤ 1 → fX12_canHop (nI b) (nI x) Mm = some 1) ∧ (x = 3 → Mm 199 (69 + b) = 0)) ∨ (x = 4 ∧ ∃ P j, P ≤ 12 ∧ Mm 198 6 = nI P ∧ j < P ∧ q = nI j))) := by
  obtain ⟨P, B, n, h0, h, hn, hn1⟩ := AR_D0 hA
  obtain ⟨hT, hF, hB, -⟩ := D0_ask h0 h
  have hB14 := hB.2.1
  have hP12 := hB.1
  unfold fX11_canAct fX12_canAct
  by_cases c : 0 ≤ p ∧ p ≤ nI 4
  · obtain ⟨x, hx, rfl⟩ := in_of (n := 4) (by decide) c
    rw [swt_nI (by simp; omega) (by simp)]
    by_cases c4 : x = 4
    · subst c4
      rw [if_pos (show nI 4 = 4 from rfl)]
      show ∃ v : Int32, (v = 0 ∨ v = 1) ∧ (if (fX9_hasPerson 2 q Mc) = 0 then (some 0) else ((rd Mc 5 12 q).bind fun v8 => if v8 ≤ 0 then (some 0) else (some 1))) = some v ∧ _ ∧ _
      rw [hasP_eq hF.1]
      by_cases d : fX12_isPerson q Mm = 0
      · rw [if_pos d, if_pos d]
        exact ⟨0, Or.inl rfl, rfl, rfl, fun e => absurd e (by decide)⟩
      · obtain ⟨j, hj, rfl⟩ := isP_yes hB.2.2.1 (by omega) d
        obtain ⟨t1, t2, t3⟩ := hT.2.1 j (by omega)
        have t3 : Mc 5 j = Mm 199 (29 + j) := t3
        rw [if_neg d, if_neg d, rd_nI (by omega), t3, Option.bind_some, ladd 29 j, rd_nI (by omega), Option.bind_some]
        by_cases e : Mm 199 (29 + j) ≤ 0
        · rw [if_pos e]
          exact ⟨0, Or.inl rfl, rfl, rfl, fun e => absurd e (by decide)⟩
        · rw [if_neg e]
          exact ⟨1, Or.inr rfl, rfl, rfl, fun _ => ⟨4, by omega, rfl, Or.inr ⟨rfl, P, j, hP12, hB.2.2.1, hj, rfl⟩⟩⟩
    · have n4 : ¬ nI x = (4 : Int32) := fun e => c4 ((nI_eqb (by omega) (by omega)).mp e)
      rw [if_neg n4]
      by_cases d : fX12_isBargain q Mm = 0
      · rw [if_pos d]
        refine ⟨0, Or.inl rfl, ?_, rfl, fun e => absurd e (by decide)⟩
        have ho : fX9_isOpen 2 q Mc = some 0 := by unfold fX9_isOpen; rw [hasB_eq hF.2.1, if_pos d]
        have hc : fX9_canClear 2 q Mc = some 0 := by unfold fX9_canClear; rw [hasB_eq hF.2.1, if_pos d]
        rw [ho, hc]
        rcases (show x = 0 ∨ x = 1 ∨ x = 2 ∨ x = 3 by omega) with rfl | rfl | rfl | rfl <;> rfl
      · obtain ⟨b, hb, rfl⟩ := isB_yes hB.2.2.2.1 (by omega) d
        obtain ⟨t1, t2, t3⟩ := hT.2.2.1 b (by omega)
        have t1 : Mc 9 b = Mm 199 (41 + b) := t1
        have oe := open_eq h0 h hb
        rw [if_neg d, jn_eq]
        by_cases c1 : x ≤ 1
        · obtain ⟨cc, hcc, y1, -⟩ := tw_all h0 h hb c1
          have hsd : fX9_hasSaid 2 (nI b) (nI x) Mc = if (jshr (Mm 199 (55 + b)) (nI x) &&& 1) = 1 then some 1 else some 0 := by
            unfold fX9_hasSaid
            rw [hasB_nI hF hB hb, if_neg one_ne, rd_nI (by omega), Option.bind_some, t2]
          have hch : fX12_canHop (nI b) (nI x) Mm = if Mm 199 (69 + b) = 0 then (if (jshr (Mm 199 (55 + b)) (nI x) &&& 1) = 1 then some 0 else some 1) else some 0 := by
            unfold fX12_canHop fX12_has
            rw [ladd 69 b, rd_nI (by omega), Option.bind_some, ladd 55 b, rd_nI (by omega), Option.bind_some]
            by_cases c1 : Mm 199 (69 + b) = 0
            · rw [if_pos c1, if_pos c1]
              by_cases c2 : (jshr (Mm 199 (55 + b)) (nI x) &&& 1) = 1
              · rw [if_pos c2, if_pos c2, if_neg one_ne]
              · rw [if_neg c2, if_neg c2, if_pos rfl]
            · rw [if_neg c1, if_neg c1]
          have cls : ((fX9_isOpen 2 (nI b) Mc).bind fun v1 => if v1 = 0 then some 0 else ((fX9_hasSaid 2 (nI b) (nI x) Mc).bind fun v2 => if v2 = 0 then (some 1) else (some 0))) = some cc := by
            rw [← y1, hch, oe, hsd]
            by_cases c1 : Mm 199 (69 + b) = 0
            · rw [if_pos c1, if_pos c1, Option.bind_some, if_neg one_ne]
              by_cases c2 : (jshr (Mm 199 (55 + b)) (nI x) &&& 1) = 1
              · rw [if_pos c2, if_pos c2, Option.bind_some, if_neg one_ne]
              · rw [if_neg c2, if_neg c2, Option.bind_some, if_pos rfl]
            · rw [if_neg c1, if_neg c1, Option.bind_some, if_pos rfl]
          refine ⟨cc, hcc, ?_, ?_, fun e => ⟨x, by omega, rfl, Or.inl ⟨by omega, P, B, n, b, h0, h, hb, rfl, fun _ => by rw [y1, e], fun q => by omega⟩⟩⟩
          · rcases (show x = 0 ∨ x = 1 by omega) with rfl | rfl <;> exact cls
          · rw [y1, Option.bind_some, if_pos hcc]
            rcases (show x = 0 ∨ x = 1 by omega) with rfl | rfl <;> rfl
        · have n0 : ¬ nI x = (0 : Int32) := nI_ne0 (by omega) (by omega)
          have n1 : ¬ nI x = (1 : Int32) := fun e => by have := (nI_eqb (show x < 2 ^ 31 by omega) (show 1 < 2 ^ 31 by omega)).mp e; omega
          have r69 : rd Mm 199 83 (nI (69 + b)) = some (Mm 199 (69 + b)) := rd_nI (by omega)
          have r41 : rd Mm 199 83 (nI (41 + b)) = some (Mm 199 (41 + b)) := rd_nI (by omega)
          rw [if_neg n0, if_neg n1, jn_eq, ladd 69 b, r69, ladd 41 b, r41]
          simp only [Option.bind_some]
          rcases (show x = 2 ∨ x = 3 by omega) with rfl | rfl
          · rw [if_neg (show ¬ nI 2 = (3 : Int32) from by decide), if_pos (show nI 2 = (2 : Int32) from rfl)]
            show ∃ v : Int32, (v = 0 ∨ v = 1) ∧ ((fX9_canClear 2 (nI b) Mc).bind fun v5 => if v5 = 0 then (some 0) else ((rd Mc 9 14 (nI b)).bind fun v6 => if 9 ≤ v6 then (some 0) else (some 1))) = some v ∧ _ ∧ _
            unfold fX9_canClear
            rw [hasB_nI hF hB hb, if_neg one_ne, rd_nI (by omega), Option.bind_some, t3]
            by_cases e : Mm 199 (69 + b) = 1
            · rw [if_pos e, if_pos e, Option.bind_some, if_pos rfl]
              exact ⟨0, Or.inl rfl, rfl, rfl, fun e => absurd e (by decide)⟩
            · rw [if_neg e, if_neg e, Option.bind_some, if_neg one_ne, rd_nI (by omega), t1, Option.bind_some]
              by_cases f : Mm 199 (41 + b) < 9
              · rw [if_pos f, if_neg (fun q => by rw [fa_le] at q; rw [fa_lt] at f; omega)]
                exact ⟨1, Or.inr rfl, rfl, rfl, fun _ => ⟨2, by omega, rfl, Or.inl ⟨by omega, P, B, n, b, h0, h, hb, rfl, fun q => by omega, fun q => by omega⟩⟩⟩
              · rw [if_neg f, if_pos (fa_of_nlt f)]
                exact ⟨0, Or.inl rfl, rfl, rfl, fun e => absurd e (by decide)⟩
          · rw [if_pos (show nI 3 = (3 : Int32) from rfl), if_neg (show ¬ nI 3 = (2 : Int32) from by decide)]
            show ∃ v : Int32, (v = 0 ∨ v = 1) ∧ ((fX9_isOpen 2 (nI b) Mc).bind fun v7 => if v7 = 0 ∨ v7 = 1 then some v7 else none) = some v ∧ _ ∧ _
            rw [oe]
            by_cases e : Mm 199 (69 + b) = 0
            · rw [if_pos e]
              exact ⟨1, Or.inr rfl, rfl, rfl, fun _ => ⟨3, by omega, rfl, Or.inl ⟨by omega, P, B, n, b, h0, h, hb, rfl, fun q => by omega, fun _ => e⟩⟩⟩
            · rw [if_neg e]
              exact ⟨0, Or.inl rfl, rfl, rfl, fun e => absurd e (by decide)⟩
  · rw [swt_no (n := 4) rfl (by decide) c]
    have ne : ∀ j, j ≤ 4 → ¬ p = nI j := fun j hj e => c (by subst e; exact ⟨nI_pos' (by omega), nI_le hj (by decide)⟩)
    refine ⟨0, Or.inl rfl, rfl, ?_, fun e => absurd e (by decide)⟩
    rw [if_neg (show ¬ p = 4 from ne 4 (by omega))]
    by_cases d : fX12_isBargain q Mm = 0
    · rw [if_pos d]
    · rw [if_neg d, jn_eq, if_neg (show ¬ p = 0 from ne 0 (by omega)), if_neg (show ¬ p = 1 from ne 1 (by omega)), jn_eq, if_neg (show ¬ p = 2 from ne 2 (by omega)), if_neg (show ¬ p = 3 from ne 3 (by omega))]
theorem hop_same {Mm Mm' : Mem} {b x : Int32} (h : Mm' 199 = Mm 199) : fX12_canHop b x Mm' = fX12_canHop b x Mm := by
  unfold fX12_canHop rd
  rw [h]
theorem s_act (p q : Int32) : Sm (fX11_act p q) (fX12_act p q) := fun Mc Mm hA => by
  have hA1 := AR_told hA
  obtain ⟨v, hv, e1, e2, e3⟩ := can_eq hA1 p q
  unfold fX11_act fX12_act
  rw [bnd_eq, e1, e2, Option.bind_some, Option.bind_some]
  rcases hv with rfl | rfl
  · rw [if_pos rfl, if_pos rfl]; exact ⟨_, _, _, rfl, rfl, hA1⟩
  rw [if_neg one_ne, if_neg one_ne]
  obtain ⟨Mc1, Mm1, k1, k2, k3, k4, k5, k6⟩ := keep_AR hA1
  rw [k1, k2, Option.bind_some, Option.bind_some]
  obtain ⟨P, B, n, h0, h, hn, hn1⟩ := AR_D0 k3
  obtain ⟨hT, hF, hB, -⟩ := D0_ask h0 h
  have hB14 := hB.2.1
  have hP12 := hB.1
  have m199 : Mm1 199 = mu Mm 198 0 0 199 := k5 199 (by omega) (by omega)
  obtain ⟨x, hx, rfl, hc⟩ := e3 rfl
  rcases hc with ⟨x3, P', B', n', b, g0, g1, gb, rfl, g2, g3⟩ | ⟨rfl, P', j, hP', g0, gj, rfl⟩
  · have eB : B' = B := by
      have a1 := g0.2.2.1.2.2.2.1
      have a2 := hB.2.2.2.1
      have a3 := g0.2.2.1.2.1
      rw [k6 7 (by omega), a1] at a2
      exact (nI_eqb (by omega) (by omega)).mp a2
    subst eB
    by_cases x1 : x ≤ 1
    · have c1 : ¬ (1 : Int32) < nI x := nI_nlt (show x ≤ 1 from x1) (by decide)
      have c2 : ¬ (2 : Int32) ≤ nI x := nI_ge (show x < 2 by omega) (by decide)
      obtain ⟨cc, hcc, y1, y2, y3⟩ := tw_all h0 h gb x1
      have : cc = 1 := by
        rw [hop_same m199, g2 x1] at y1
        exact (Option.some.inj y1).symm
      obtain ⟨r, Mc2, Mm2, r1, r2, r3, r4⟩ := y3 this
      have r2 : fX0_twist 2 (nI b) (nI x) 0 Mc1 = some (r, Mc2) := r2
      have n2 : ¬ nI x = (2 : Int32) := fun e => by have := (nI_eqb (show x < 2 ^ 31 by omega) (show 2 < 2 ^ 31 by omega)).mp e; omega
      have n3 : ¬ nI x = (3 : Int32) := fun e => by have := (nI_eqb (show x < 2 ^ 31 by omega) (show 3 < 2 ^ 31 by omega)).mp e; omega
      have n4 : ¬ nI x = (4 : Int32) := fun e => by have := (nI_eqb (show x < 2 ^ 31 by omega) (show 4 < 2 ^ 31 by omega)).mp e; omega
      rw [if_neg c1, r2, Option.bind_some]
      dsimp only [jn]
      rw [if_neg c2, r3, Option.bind_some, if_neg n2, if_neg n3, if_neg n4]
      exact ⟨_, _, _, rfl, rfl, DR_AR k3 hn hn1 r4⟩
    · rcases (show x = 2 ∨ x = 3 by omega) with rfl | rfl
      · have c1 : (1 : Int32) < nI 2 := by decide
        have c2 : (2 : Int32) ≤ nI 2 := by decide
        obtain ⟨Mc2, Mm2, r2, r3, r4⟩ := clear_eq h0 h gb
        rw [if_pos c1, if_pos (show nI 2 = (2 : Int32) from rfl), r2, Option.bind_some]
        dsimp only [jn]
        rw [if_pos c2, if_pos (show nI 2 = (2 : Int32) from rfl), r3, Option.bind_some, if_neg (show ¬ nI 2 = (3 : Int32) from by decide), if_neg (show ¬ nI 2 = (4 : Int32) from by decide)]
        exact ⟨_, _, _, rfl, rfl, DR_AR k3 hn hn1 r4⟩
      · have c1 : (1 : Int32) < nI 3 := by decide
        have c2 : (2 : Int32) ≤ nI 3 := by decide
        obtain ⟨Mc2, Mm2, r2, r3, r4⟩ := away_eq h0 h gb (by rw [m199]; exact g3 rfl)
        have r2 : fX0_blurAway 2 (nI b) 0 Mc1 = some Mc2 := r2
        rw [if_pos c1, if_neg (show ¬ nI 3 = (2 : Int32) from by decide), if_pos (show nI 3 = (3 : Int32) from rfl), r2, Option.bind_some]
        dsimp only [jn]
        rw [if_pos c2, if_neg (show ¬ nI 3 = (2 : Int32) from by decide), if_pos (show nI 3 = (3 : Int32) from rfl), r3, Option.bind_some, if_neg (show ¬ nI 3 = (4 : Int32) from by decide)]
        exact ⟨_, _, _, rfl, rfl, DR_AR k3 hn hn1 r4⟩
  · have eP : P' = P := by
      have a2 := hB.2.2.1
      rw [k6 6 (by omega), g0] at a2
      exact (nI_eqb (by omega) (by omega)).mp a2
    subst eP
    have c1 : (1 : Int32) < nI 4 := by decide
    have c2 : (2 : Int32) ≤ nI 4 := by decide
    have t3 : Mc1 5 j = Mm1 199 (29 + j) := (hT.2.1 j (by omega)).2.2
    have r4 := DR_owes h0 h (j := j) (by omega) (Mm1 199 (29 + j) - 1)
    rw [if_pos c1, if_neg (show ¬ nI 4 = (2 : Int32) from by decide), if_neg (show ¬ nI 4 = (3 : Int32) from by decide), rd_nI (by omega), t3, Option.bind_some, wr_nI (by omega), Option.bind_some]
    dsimp only [jn]
    rw [if_pos c2, if_neg (show ¬ nI 4 = (2 : Int32) from by decide), if_neg (show ¬ nI 4 = (3 : Int32) from by decide), if_pos (show nI 4 = (4 : Int32) from rfl), ladd 29 j, rd_nI (by omega), Option.bind_some, wr_nI (by omega), Option.bind_some]
    exact ⟨_, _, _, rfl, rfl, DR_AR k3 hn hn1 r4⟩
