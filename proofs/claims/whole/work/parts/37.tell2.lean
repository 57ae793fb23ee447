theorem areTwo_eq {Mc Mm : Mem} (h : Mc 2 4 = Mm 198 6) (p q : Int32) : fX9_areTwo p q Mc = if fX12_isPerson p Mm = 0 then 0 else if fX12_isPerson q Mm = 0 then 0 else if p = q then 0 else 1 := by
  unfold fX9_areTwo
  rw [hasP_eq h, hasP_eq h]
theorem s_bargain (p q z : Int32) : Sm (fX11_bargain p q z) (fX12_bargain p q z) := by
  intro Mc Mm h
  have h0 := h
  obtain ⟨⟨P, B, n, hBd, hTv, hFx, hBk, hLaw, hTw, hEv, hHe, hTo⟩, ⟨N, hN, hN2, hPa⟩, hTa, hFa, hIm, hCs⟩ := h
  obtain ⟨hP12, hB14, hP, hB, hbs⟩ := id hBd
  have hPc : Mc 2 4 = Mm 198 6 := hFx.1
  have hBc : Mc 2 5 = nI B := hFx.2.1.trans hB
  have told6 : ∀ x, fX12_isPerson x (mu Mm 198 0 0) = fX12_isPerson x Mm := fun x => by unfold fX12_isPerson; rw [mu_i (by omega)]
  have no : fX11_bargain p q z Mc = some (-1, Mc) → fX12_bargain p q z Mm = some (-1, mu Mm 198 0 0) → ∃ r Mc' Mm', fX11_bargain p q z Mc = some (r, Mc') ∧ fX12_bargain p q z Mm = some (r, Mm') ∧ AR Mc' Mm' := fun a b => ⟨-1, _, _, a, b, AR_told h0⟩
  by_cases c1 : fX12_isPerson p Mm = 0
  · refine no ?_ ?_
    · unfold fX11_bargain; rw [areTwo_eq hPc, if_pos c1, if_pos rfl]
    · unfold fX12_bargain; simp only [bnd]; rw [told6, if_pos c1]
  by_cases c2 : fX12_isPerson q Mm = 0
  · refine no ?_ ?_
    · unfold fX11_bargain; rw [areTwo_eq hPc, if_neg c1, if_pos c2, if_pos rfl]
    · unfold fX12_bargain; simp only [bnd]; rw [told6, told6, if_neg c1, if_pos c2]
  by_cases c3 : p = q
  · refine no ?_ ?_
    · unfold fX11_bargain; rw [areTwo_eq hPc, if_neg c1, if_neg c2, if_pos c3, if_pos rfl]
    · unfold fX12_bargain; simp only [bnd]; rw [told6, told6, if_neg c1, if_neg c2, if_pos c3]
  by_cases c4 : ¬ (1 ≤ z ∧ z ≤ 9)
  · refine no ?_ ?_
    · unfold fX11_bargain; rw [areTwo_eq hPc, if_neg c1, if_neg c2, if_neg c3, if_neg one_ne, isW_isIn, isIn_no c4, if_pos rfl]
    · unfold fX12_bargain; simp only [bnd]; rw [told6, told6, if_neg c1, if_neg c2, if_neg c3, isIn_no c4, if_pos rfl]
  have c4 := Decidable.not_not.mp c4
  by_cases c5 : ¬ B < 14
  · have hBe : B = 14 := by omega
    subst hBe
    refine no ?_ ?_
    · unfold fX11_bargain; rw [areTwo_eq hPc, if_neg c1, if_neg c2, if_neg c3, if_neg one_ne, isW_isIn, isIn_yes c4, if_neg one_ne, hBc, if_neg (by decide)]
    · unfold fX12_bargain; simp only [bnd]; rw [told6, told6, if_neg c1, if_neg c2, if_neg c3, isIn_yes c4, if_neg one_ne, mu_i (by omega), hB, if_pos (show nI 14 = 14 from rfl)]
  have c5 : B < 14 := by omega
  obtain ⟨f, hf, rfl⟩ := isP_yes hP (by omega) c1
  obtain ⟨s, hs, rfl⟩ := isP_yes hP (by omega) c2
  obtain ⟨x, hx1, hx9, rfl⟩ := in_of1 (m := 1) (n := 9) (by decide) (by decide) c4
  have hfs : f ≠ s := fun e => c3 (by rw [e])
  have l14 : (14 : Int32) = nI 14 := rfl
  have d1 : ¬ (14 : Int32) ≤ nI B := by rw [l14, nI_leI (by decide) (by omega)]; omega
  have d2 : nI B < (14 : Int32) := by rw [l14, nI_ltI (by omega) (by decide)]; omega
  have d3 : ¬ nI B = (14 : Int32) := by rw [l14, nI_eq (by omega) (by decide)]; omega
  have e1 : fX11_bargain (nI f) (nI s) (nI x) Mc = some (nI B, mu (mu (mu (mu (mu (mu (mu (mu Mc 6 B (nI f)) 7 B (nI s)) 8 B (nI x)) 9 B 9) 10 B 0) 11 B 0) 2 5 (nI (B + 1))) 105 0 0) := by
    unfold fX11_bargain fX9_addBargain fX6_forget
    rw [areTwo_eq hPc, if_neg c1, if_neg c2, if_neg c3, if_neg one_ne, isW_isIn, isIn_yes c4, if_neg one_ne, hBc, if_pos d2, if_neg d1, wr_nI c5]
    simp (disch := omega) only [bnd, Option.bind_some, mu_o, mu_i, mu_s, hBc, wr_nI c5, nI_1, nI_pred]
  have e2 : fX12_bargain (nI f) (nI s) (nI x) Mm = some (nI B, mu (mu (mu (mu (mu (mu (mu (mu (mu Mm 198 0 0) 202 B (nI f)) 203 B (nI s)) 204 B (nI x)) 199 (41 + B) 9) 199 (55 + B) 0) 199 (69 + B) 0) 198 7 (nI (B + 1))) 198 3 0) := by
    unfold fX12_bargain
    simp only [bnd]
    rw [told6, told6, if_neg c1, if_neg c2, if_neg c3, isIn_yes c4, if_neg one_ne, mu_i (by omega), hB, if_neg d3]
    simp (disch := omega) only [Option.bind_some, mu_o, mu_i, mu_s, hB, ladd 41 B, ladd 55 B, ladd 69 B, wr_nI c5, wr_nI (show 41 + B < 83 by omega), wr_nI (show 55 + B < 83 by omega), wr_nI (show 69 + B < 83 by omega), nI_1, nI_pred]
  have hc := Agr.of (wX11_bargain (nI f) (nI s) (nI x) Mc) e1
  have hm := Agr.of (wX12_bargain (nI f) (nI s) (nI x) Mm) e2
  obtain ⟨m, y, hm', hy, h1, h2, h3, -⟩ := hPa
  refine ⟨_, _, _, e1, e2, ⟨P, B + 1, n, ⟨hP12, by omega, ?_, rfl, ?_⟩, ?_, ⟨?_, rfl, ?_⟩, Bk_agr hc hm rfl rfl ?_ hBk, LawR_agr hc hm rfl rfl hLaw, ?_, ?_, ?_, ToR_agr hc hm rfl rfl hTo⟩, ⟨N, ?_, hN2, PaR_0 hy rfl rfl h3⟩, TaR_agr hc hm rfl rfl hTa, hFa, ImR_agr hc hm rfl rfl hIm, CsR_agr hc hm rfl rfl rfl rfl hCs⟩
  · exact hP
  · intro b hb
    by_cases hbB : b = B
    · subst hbB
      exact ⟨f, s, x, by simp (disch := omega) only [mu_o, mu_i, mu_s], by simp (disch := omega) only [mu_o, mu_i, mu_s], by simp (disch := omega) only [mu_o, mu_i, mu_s], hf, hs, hfs, hx1, hx9⟩
    · obtain ⟨f, s, q, a1, a2, a3, a4⟩ := hbs b (by omega)
      exact ⟨f, s, q, by simpa (disch := omega) only [mu_o, mu_i, mu_s] using a1, by simpa (disch := omega) only [mu_o, mu_i, mu_s] using a2, by simpa (disch := omega) only [mu_o, mu_i, mu_s] using a3, a4⟩
  · obtain ⟨⟨a1, a2, a3, a4⟩, hp, hb, hz⟩ := hTv
    refine ⟨⟨?_, ?_, ?_, ?_⟩, fun p hp' => ?_, fun b hb' => ?_, fun b hb' => ?_⟩
    · simpa (disch := omega) only [mu_o, mu_i, mu_s] using a1
    · simpa (disch := omega) only [mu_o, mu_i, mu_s] using a2
    · simpa (disch := omega) only [mu_o, mu_i, mu_s] using a3
    · simpa (disch := omega) only [mu_o, mu_i, mu_s] using a4
    · have := hp p hp'
      simpa (disch := omega) only [mu_o, mu_i, mu_s] using this
    · have := hb b hb'
      by_cases hbB : b = B
      · subst hbB
        simp (disch := omega) only [mu_o, mu_i, mu_s, and_self]
      · simpa (disch := omega) only [mu_o, mu_i, mu_s] using this
    · by_cases hbB : b = B
      · subst hbB
        exact ⟨0, by omega, by simp (disch := omega) only [mu_o, mu_i, mu_s]; rfl⟩
      · have := hz b hb'
        simpa (disch := omega) only [mu_o, mu_i, mu_s] using this
  · exact hFx.1
  · intro b hb
    have := hFx.2.2 b hb
    by_cases hbB : b = B
    · subst hbB
      simp (disch := omega) only [mu_o, mu_i, mu_s, and_self]
    · simpa (disch := omega) only [mu_o, mu_i, mu_s] using this
  · simp (disch := omega) only [mu_o, mu_i, mu_s]
  · obtain ⟨n', a1, a2, a3, a4⟩ := TwR_agr hc hm rfl rfl hTw
    refine ⟨n', a1, a2, a3, fun i hi => ?_⟩
    obtain ⟨b, s, b1, b2⟩ := a4 i hi
    exact ⟨b, s, by omega, b2⟩
  · obtain ⟨n', a1, a2, a3, a4⟩ := EvR_agr hc hm rfl rfl hEv
    refine ⟨n', a1, a2, a3, fun i hi => ?_⟩
    obtain ⟨b1, x, b2, b3, b4⟩ := a4 i hi
    refine ⟨b1, x, b2, b3, ?_⟩
    rcases b4 with b | ⟨b, q, q1, q2⟩ | b
    · exact Or.inl b
    · exact Or.inr (Or.inl ⟨b, q, by omega, q2⟩)
    · exact Or.inr (Or.inr b)
  · obtain ⟨n', a1, a2, a3, a4, a5⟩ := HeR_agr hc hm rfl rfl hHe
    refine ⟨n', a1, a2, a3, fun i hi => ?_, a5⟩
    obtain ⟨b, q, b1, b2⟩ := a4 i hi
    exact ⟨b, q, by omega, b2⟩
  · simpa (disch := omega) only [mu_o, mu_i, mu_s] using hN
