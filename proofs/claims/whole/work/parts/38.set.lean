theorem isOpen_eq {Mc Mm : Mem} {k B : Nat} (h5 : Mc k 5 = Mm 198 7) (hB : Mm 198 7 = nI B) (hB14 : B ≤ 14) (p : Int32) : fX9_isOpen k p Mc = some (if fX12_isBargain p Mm = 0 then 0 else if Mc (k + 9) p.toNatClampNeg = 0 then 1 else 0) := by
  unfold fX9_isOpen
  rw [hasB_eq h5]
  by_cases c : fX12_isBargain p Mm = 0
  · rw [if_pos c, if_pos c]
  · rw [if_neg c, if_neg c]
    obtain ⟨j, hj, rfl⟩ := isB_yes hB (by omega) c
    rw [rd_nI (by omega), Option.bind_some, nI_clamp (by omega)]
    split <;> rfl
/-- what the four told kinds do to both sides: a write of the class at (a, i), of the reference at 199, j -/
theorem s_set1 {Mc Mm : Mem} (h : AR Mc Mm) {a i j : Nat} (v : Int32) (ha : (a = 3 ∧ i < 12 ∧ j = 5 + i) ∨ (a = 9 ∧ i < 14 ∧ j = 41 + i) ∨ (a = 2 ∧ i = 1 ∧ j = 3) ∨ (a = 2 ∧ i = 2 ∧ j = 4)) : AR (mu (mu Mc a i v) 105 0 0) (mu (mu (mu Mm 198 0 0) 199 j v) 198 3 0) := by
  obtain ⟨⟨P, B, n, hBd, hTv, hFx, hBk, hLaw, hTw, hEv, hHe, hTo⟩, ⟨N, hN, hN2, hPa⟩, hTa, hFa, hIm, hCs⟩ := h
  have hc : Agr [(3, none), (9, none), (2, some 1), (2, some 2), (105, some 0)] Mc (mu (mu Mc a i v) 105 0 0) := by
    refine Agr.mu (Agr.mu Agr.rfl' ?_) (Or.inl (by simp))
    rcases ha with ⟨rfl, -, -⟩ | ⟨rfl, -, -⟩ | ⟨rfl, rfl, -⟩ | ⟨rfl, rfl, -⟩ <;> simp
  have hm : Agr [(198, some 0), (199, none), (198, some 3)] Mm (mu (mu (mu Mm 198 0 0) 199 j v) 198 3 0) := Agr.mu (Agr.mu (Agr.mu Agr.rfl' (Or.inl (by simp))) (Or.inr (by simp))) (Or.inl (by simp))
  obtain ⟨m, x, hm', hx, h1, h2, h3, -⟩ := hPa
  have hj2 : j ≠ 2 := by omega
  refine ⟨⟨P, B, n, Bd_agr hm rfl hBd, ?_, Fx_agr hc hm rfl rfl hFx, Bk_agr hc hm rfl rfl ?_ hBk, LawR_agr hc hm rfl rfl hLaw, TwR_agr hc hm rfl rfl hTw, EvR_agr hc hm rfl rfl hEv, HeR_agr hc hm rfl rfl hHe, ToR_agr hc hm rfl rfl hTo⟩, ⟨N, ?_, hN2, PaR_0 hx ?_ ?_ ?_⟩, TaR_agr hc hm rfl rfl hTa, ?_, ImR_agr hc hm rfl rfl hIm, CsR_agr hc hm rfl rfl ?_ ?_ hCs⟩
  · obtain ⟨⟨a1, a2, a3, a4⟩, hp, hb, hz⟩ := hTv
    have e1 : Mc 2 0 = Mm 199 1 := a1
    have e2 : Mc 2 1 = Mm 199 3 := a2
    have e3 : Mc 2 2 = Mm 199 4 := a3
    have e4 : Mc 2 3 = Mm 199 0 := a4
    have hp : ∀ p, p < 12 → Mc 3 p = Mm 199 (5 + p) ∧ Mc 4 p = Mm 199 (17 + p) ∧ Mc 5 p = Mm 199 (29 + p) := hp
    have hb : ∀ b, b < 14 → Mc 9 b = Mm 199 (41 + b) ∧ Mc 10 b = Mm 199 (55 + b) ∧ Mc 11 b = Mm 199 (69 + b) := hb
    rcases ha with ⟨rfl, hi, rfl⟩ | ⟨rfl, hi, rfl⟩ | ⟨rfl, rfl, rfl⟩ | ⟨rfl, rfl, rfl⟩
    · refine ⟨⟨?_, ?_, ?_, ?_⟩, fun p hp' => ?_, fun b hb' => ?_, fun b hb' => ?_⟩
      · simpa (disch := omega) only [mu_o, mu_i, mu_s] using e1
      · simpa (disch := omega) only [mu_o, mu_i, mu_s] using e2
      · simpa (disch := omega) only [mu_o, mu_i, mu_s] using e3
      · simpa (disch := omega) only [mu_o, mu_i, mu_s] using e4
      · have := hp p hp'
        by_cases hpi : p = i
        · subst hpi; simpa (disch := omega) only [mu_o, mu_i, mu_s, true_and] using this.2
        · simpa (disch := omega) only [mu_o, mu_i, mu_s] using this
      · simpa (disch := omega) only [mu_o, mu_i, mu_s] using hb b hb'
      · simpa (disch := omega) only [mu_o, mu_i, mu_s] using hz b hb'
    · refine ⟨⟨?_, ?_, ?_, ?_⟩, fun p hp' => ?_, fun b hb' => ?_, fun b hb' => ?_⟩
      · simpa (disch := omega) only [mu_o, mu_i, mu_s] using e1
      · simpa (disch := omega) only [mu_o, mu_i, mu_s] using e2
      · simpa (disch := omega) only [mu_o, mu_i, mu_s] using e3
      · simpa (disch := omega) only [mu_o, mu_i, mu_s] using e4
      · simpa (disch := omega) only [mu_o, mu_i, mu_s] using hp p hp'
      · have := hb b hb'
        by_cases hbi : b = i
        · subst hbi; simpa (disch := omega) only [mu_o, mu_i, mu_s, true_and] using this.2
        · simpa (disch := omega) only [mu_o, mu_i, mu_s] using this
      · simpa (disch := omega) only [mu_o, mu_i, mu_s] using hz b hb'
    · refine ⟨⟨?_, ?_, ?_, ?_⟩, fun p hp' => ?_, fun b hb' => ?_, fun b hb' => ?_⟩
      · simpa (disch := omega) only [mu_o, mu_i, mu_s] using e1
      · simp (disch := omega) only [mu_o, mu_i, mu_s]
      · simpa (disch := omega) only [mu_o, mu_i, mu_s] using e3
      · simpa (disch := omega) only [mu_o, mu_i, mu_s] using e4
      · simpa (disch := omega) only [mu_o, mu_i, mu_s] using hp p hp'
      · simpa (disch := omega) only [mu_o, mu_i, mu_s] using hb b hb'
      · simpa (disch := omega) only [mu_o, mu_i, mu_s] using hz b hb'
    · refine ⟨⟨?_, ?_, ?_, ?_⟩, fun p hp' => ?_, fun b hb' => ?_, fun b hb' => ?_⟩
      · simpa (disch := omega) only [mu_o, mu_i, mu_s] using e1
      · simpa (disch := omega) only [mu_o, mu_i, mu_s] using e2
      · simp (disch := omega) only [mu_o, mu_i, mu_s]
      · simpa (disch := omega) only [mu_o, mu_i, mu_s] using e4
      · simpa (disch := omega) only [mu_o, mu_i, mu_s] using hp p hp'
      · simpa (disch := omega) only [mu_o, mu_i, mu_s] using hb b hb'
      · simpa (disch := omega) only [mu_o, mu_i, mu_s] using hz b hb'
  · simp (disch := omega) only [mu_o, mu_i, mu_s]
  · simpa (disch := omega) only [mu_o, mu_i, mu_s] using hN
  · simp (disch := omega) only [mu_o, mu_i, mu_s]
  · simp (disch := omega) only [mu_o, mu_i, mu_s]
  · rw [mu_i (by omega), mu_o (by omega)]; exact h3
  · have q1 : mu (mu Mc a i v) 105 0 0 178 2 = Mc 178 2 := hc.f (L := [(178, some 2)]) rfl (by simp)
    have q2 : mu (mu Mc a i v) 105 0 0 178 3 = Mc 178 3 := hc.f (L := [(178, some 3)]) rfl (by simp)
    rw [q1, q2]
    simpa (disch := omega) only [mu_o, mu_i, mu_s] using hFa
  · simp (disch := omega) only [mu_o, mu_i, mu_s]
  · simp (disch := omega) only [mu_o, mu_i, mu_s]
theorem s_set (p q z : Int32) : Sm (fX11_set p q z) (fX12_set p q z) := by
  intro Mc Mm h
  have h0 := h
  obtain ⟨⟨P, B, n, hBd, hTv, hFx, -⟩, -⟩ := h
  obtain ⟨hP12, hB14, hP, hB, hbs⟩ := hBd
  have hPc : Mc 2 4 = Mm 198 6 := hFx.1
  have hBc : Mc 2 5 = Mm 198 7 := hFx.2.1
  have toldP : ∀ x, fX12_isPerson x (mu Mm 198 0 0) = fX12_isPerson x Mm := fun x => by unfold fX12_isPerson; rw [mu_i (by omega)]
  have toldB : ∀ x, fX12_isBargain x (mu Mm 198 0 0) = fX12_isBargain x Mm := fun x => by unfold fX12_isBargain; rw [mu_i (by omega)]
  have no : fX11_set p q z Mc = some (0, Mc) → fX12_set p q z Mm = some (0, mu Mm 198 0 0) → ∃ r Mc' Mm', fX11_set p q z Mc = some (r, Mc') ∧ fX12_set p q z Mm = some (r, Mm') ∧ AR Mc' Mm' := fun a b => ⟨0, _, _, a, b, AR_told h0⟩
  by_cases p0 : p = 0
  · subst p0
    by_cases c1 : fX12_isPerson q Mm = 0
    · refine no ?_ ?_
      · unfold fX11_set
        dsimp only [jn, bnd]
        rw [isW_isIn, hasP_eq hPc]
        rcases isIn_z z 0 9 with c | c
        · rw [c, if_pos rfl]
        · rw [c, if_neg one_ne, if_pos rfl, if_pos c1, if_neg (by decide), if_neg (by decide), if_neg (by decide)]
      · unfold fX12_set
        dsimp only [jn, bnd]
        rw [if_pos rfl, toldP, if_pos c1, if_pos rfl]
    · obtain ⟨j, hj, rfl⟩ := isP_yes hP (by omega) c1
      by_cases c2 : 0 ≤ z ∧ z ≤ 9
      · refine ⟨1, _, _, ?_, ?_, s_set1 h0 z (Or.inl ⟨rfl, (show j < 12 by omega), rfl⟩)⟩
        · unfold fX11_set fX6_forget
          dsimp only [jn, bnd]
          rw [isW_isIn, hasP_eq hPc, isIn_yes c2, if_neg one_ne, if_pos rfl, if_neg c1, wr_nI (by omega)]
          rfl
        · unfold fX12_set
          dsimp only [jn, bnd]
          rw [if_pos rfl, toldP, if_neg c1, isIn_yes c2, if_neg one_ne, if_neg one_ne, if_pos rfl, ladd 5 j, wr_nI (by omega)]
          rfl
      · refine no ?_ ?_
        · unfold fX11_set
          rw [isW_isIn, isIn_no c2, if_pos rfl]
        · unfold fX12_set
          dsimp only [jn, bnd]
          rw [if_pos rfl, toldP, if_neg c1, isIn_no c2, if_pos rfl, if_pos rfl]
  by_cases p1 : p = 1
  · subst p1
    by_cases c1 : fX12_isBargain q Mm = 0
    · refine no ?_ ?_
      · unfold fX11_set
        dsimp only [jn, bnd]
        rw [isW_isIn, isOpen_eq hBc hB hB14, if_pos c1]
        rcases isIn_z z 0 9 with c | c
        · rw [c, if_pos rfl]
        · rw [c, if_neg one_ne, if_neg (by decide), if_pos rfl]
          rfl
      · unfold fX12_set
        dsimp only [jn, bnd]
        rw [if_neg (by decide), if_pos rfl, toldB, if_pos c1, if_pos rfl]
    · obtain ⟨j, hj, rfl⟩ := isB_yes hB (by omega) c1
      have hj14 : j < 14 := by omega
      have hr : rd (mu Mm 198 0 0) 199 83 (69 + nI j) = some (Mm 199 (69 + j)) := by rw [ladd 69 j, rd_nI (by omega), mu_o (by omega)]
      have his : Mc 11 j = Mm 199 (69 + j) := (hTv.2.2.1 j hj14).2.2
      by_cases c2 : Mm 199 (69 + j) = 0
      · by_cases c3 : 1 ≤ z ∧ z ≤ 9
        · have c9 : 0 ≤ z ∧ z ≤ 9 := ⟨by have := c3.1; rw [fa_le] at *; have e0 : (0 : Int32).toInt = 0 := by decide
                                         have e1 : (1 : Int32).toInt = 1 := by decide
                                         omega, c3.2⟩
          have c8 : ¬ z ≤ 0 := by have := c3.1; rw [fa_le] at *; have e0 : (0 : Int32).toInt = 0 := by decide
                                  have e1 : (1 : Int32).toInt = 1 := by decide
                                  omega
          refine ⟨1, _, _, ?_, ?_, s_set1 h0 z (Or.inr (Or.inl ⟨rfl, hj14, rfl⟩))⟩
          · unfold fX11_set fX6_forget
            dsimp only [jn, bnd]
            rw [isW_isIn, isIn_yes c9, if_neg one_ne, if_neg (by decide), if_pos rfl, isOpen_eq hBc hB hB14, if_neg c1, nI_clamp (by omega), his, if_pos c2, Option.bind_some, if_neg one_ne, if_neg c8, wr_nI hj14]
            rfl
          · unfold fX12_set
            dsimp only [jn, bnd]
            rw [if_neg (by decide), if_pos rfl, toldB, if_neg c1, hr, Option.bind_some, if_pos c2, isIn_yes c3, if_neg one_ne, if_neg one_ne, if_neg (by decide), if_pos rfl, ladd 41 j, wr_nI (by omega)]
            rfl
        · refine no ?_ ?_
          · unfold fX11_set
            dsimp only [jn, bnd]
            rw [isW_isIn]
            by_cases c9 : 0 ≤ z ∧ z ≤ 9
            · have c8 : z ≤ 0 := by
                rw [fa_le]
                have e0 : (0 : Int32).toInt = 0 := by decide
                have e1 : (1 : Int32).toInt = 1 := by decide
                rcases Int.lt_or_le 0 z.toInt with q | q
                · exact absurd ⟨by rw [fa_le, e1]; omega, c9.2⟩ c3
                · omega
              rw [isIn_yes c9, if_neg one_ne, if_neg (by decide), if_pos rfl, isOpen_eq hBc hB hB14, if_neg c1, nI_clamp (by omega), his, if_pos c2, Option.bind_some, if_neg one_ne, if_pos c8, if_neg (by decide), if_neg (by decide)]
            · rw [isIn_no c9, if_pos rfl]
          · unfold fX12_set
            dsimp only [jn, bnd]
            rw [if_neg (by decide), if_pos rfl, toldB, if_neg c1, hr, Option.bind_some, if_pos c2, isIn_no c3, if_pos rfl, if_pos rfl]
      · refine no ?_ ?_
        · unfold fX11_set
          dsimp only [jn, bnd]
          rw [isW_isIn]
          rcases isIn_z z 0 9 with c | c
          · rw [c, if_pos rfl]
          · rw [c, if_neg one_ne, if_neg (by decide), if_pos rfl, isOpen_eq hBc hB hB14, if_neg c1, nI_clamp (by omega), his, if_neg c2, Option.bind_some, if_pos rfl, if_neg (by decide), if_neg (by decide)]
        · unfold fX12_set
          dsimp only [jn, bnd]
          rw [if_neg (by decide), if_pos rfl, toldB, if_neg c1, hr, Option.bind_some, if_neg c2, if_pos rfl]
  by_cases p23 : p = 2 ∨ p = 3
  · have c1 : fX12_isIn p 2 3 = 1 := by rcases p23 with rfl | rfl <;> decide
    have c0 : ¬ p ≤ 1 := by rcases p23 with rfl | rfl <;> decide
    by_cases c2 : 0 ≤ z ∧ z ≤ 9
    · rcases p23 with rfl | rfl
      · refine ⟨1, _, _, ?_, ?_, s_set1 h0 z (Or.inr (Or.inr (Or.inl ⟨rfl, rfl, rfl⟩)))⟩
        · unfold fX11_set fX6_forget
          dsimp only [jn, bnd]
          rw [isW_isIn, isIn_yes c2, if_neg one_ne, if_neg (by decide), if_neg (by decide), if_pos rfl]
          rfl
        · unfold fX12_set
          dsimp only [jn, bnd]
          rw [if_neg (by decide), if_neg (by decide), c1, if_neg one_ne, isIn_yes c2, if_neg one_ne, if_neg one_ne, if_neg (by decide), if_neg (by decide), if_neg c0, show (3 : Int32) + 2 - 2 = nI 3 from by decide, wr_nI (by omega)]
          rfl
      · refine ⟨1, _, _, ?_, ?_, s_set1 h0 z (Or.inr (Or.inr (Or.inr ⟨rfl, rfl, rfl⟩)))⟩
        · unfold fX11_set fX6_forget
          dsimp only [jn, bnd]
          rw [isW_isIn, isIn_yes c2, if_neg one_ne, if_neg (by decide), if_neg (by decide), if_neg (by decide), if_pos rfl]
          rfl
        · unfold fX12_set
          dsimp only [jn, bnd]
          rw [if_neg (by decide), if_neg (by decide), c1, if_neg one_ne, isIn_yes c2, if_neg one_ne, if_neg one_ne, if_neg (by decide), if_neg (by decide), if_neg c0, show (3 : Int32) + 3 - 2 = nI 4 from by decide, wr_nI (by omega)]
          rfl
    · refine no ?_ ?_
      · unfold fX11_set
        rw [isW_isIn, isIn_no c2, if_pos rfl]
      · unfold fX12_set
        dsimp only [jn, bnd]
        rw [if_neg p0, if_neg p1, c1, if_neg one_ne, isIn_no c2, if_pos rfl, if_pos rfl]
  · have c1 : fX12_isIn p 2 3 = 0 := by
      refine isIn_no (fun q => p23 ?_)
      obtain ⟨j, hj, hj3, rfl⟩ := in_of1 (m := 2) (n := 3) (by decide) (by decide) q
      rcases (show j = 2 ∨ j = 3 by omega) with rfl | rfl
      · exact Or.inl rfl
      · exact Or.inr rfl
    refine no ?_ ?_
    · unfold fX11_set
      dsimp only [jn, bnd]
      rw [isW_isIn]
      rcases isIn_z z 0 9 with c | c
      · rw [c, if_pos rfl]
      · rw [c, if_neg one_ne, if_neg p0, if_neg p1, if_neg (fun q => p23 (Or.inl q)), if_neg (fun q => p23 (Or.inr q))]
    · unfold fX12_set
      dsimp only [jn, bnd]
      rw [if_neg p0, if_neg p1, c1, if_pos rfl, if_pos rfl]
