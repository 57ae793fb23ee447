/-! ===== calls that tell: state, person, bargain, set ===== -/
theorem PaR_0 {Mc Mm : Mem} {N : Nat} {x : Nat} (hx : x < 6) (h0 : Mc 105 0 = 0) (h1 : Mm 198 3 = 0) (h2 : Mc 105 1 = nI x) : PaR Mc Mm N := ⟨0, x, by omega, hx, h0.trans nI_0.symm, h1.trans nI_0.symm, h2, fun _ => 0, fun i hi => absurd hi (Nat.not_lt_zero i), fun i hi => absurd hi (Nat.not_lt_zero i)⟩
theorem s_state (p : Int32) : Sm (fX11_state p) (fX12_state p) := by
  intro Mc Mm h
  obtain ⟨⟨P, B, n, hBd, hTv, hFx, hBk, hLaw, hTw, hEv, hHe, hTo⟩, ⟨N, hN, hN2, hPa⟩, hTa, hFa, hIm, hCs⟩ := h
  have e1 : fX11_state p Mc = some (Mc 2 0, mu (mu Mc 2 0 p) 105 0 0) := rfl
  have e2 : fX12_state p Mm = some (Mm 199 1, mu (mu (mu Mm 198 0 0) 199 1 p) 198 3 0) := rfl
  have hc := Agr.of (wX11_state p Mc) e1
  have hm := Agr.of (wX12_state p Mm) e2
  obtain ⟨m, x, hm', hx, h1, h2, h3, -⟩ := hPa
  rw [← hTv.1.1] at e2
  refine ⟨_, _, _, e1, e2, ⟨P, B, n, Bd_agr hm rfl hBd, ?_, Fx_agr hc hm rfl rfl hFx, Bk_agr hc hm rfl rfl rfl hBk, LawR_agr hc hm rfl rfl hLaw, TwR_agr hc hm rfl rfl hTw, EvR_agr hc hm rfl rfl hEv, HeR_agr hc hm rfl rfl hHe, ToR_agr hc hm rfl rfl hTo⟩, ⟨N, hN, hN2, PaR_0 hx rfl rfl h3⟩, TaR_agr hc hm rfl rfl hTa, hFa, ImR_agr hc hm rfl rfl hIm, CsR_agr hc hm rfl rfl rfl rfl hCs⟩
  obtain ⟨⟨a1, a2, a3, a4⟩, hp, hb, hz⟩ := hTv
  refine ⟨⟨rfl, a2, a3, a4⟩, fun p hp' => ?_, fun b hb' => ?_, fun b hb' => ?_⟩
  · have := hp p hp'
    simpa (disch := omega) only [mu_o, mu_i, mu_s] using this
  · have := hb b hb'
    simpa (disch := omega) only [mu_o, mu_i, mu_s] using this
  · have := hz b hb'
    simpa (disch := omega) only [mu_o, mu_i, mu_s] using this
theorem hasP_eq {Mc Mm : Mem} {k : Nat} (h : Mc k 4 = Mm 198 6) (p : Int32) : fX9_hasPerson k p Mc = fX12_isPerson p Mm := by
  unfold fX9_hasPerson fX12_isPerson; rw [h]
theorem hasB_eq {Mc Mm : Mem} {k : Nat} (h : Mc k 5 = Mm 198 7) (p : Int32) : fX9_hasBargain k p Mc = fX12_isBargain p Mm := by
  unfold fX9_hasBargain fX12_isBargain; rw [h]
theorem isP_yes {Mm : Mem} {P : Nat} (hP : Mm 198 6 = nI P) (hP2 : P < 2 ^ 31) {p : Int32} (h : ¬ fX12_isPerson p Mm = 0) : ∃ j, j < P ∧ p = nI j := by
  unfold fX12_isPerson at h
  by_cases h0 : p < 0
  · rw [if_pos h0] at h; exact absurd rfl h
  · rw [if_neg h0, hP] at h
    obtain ⟨j, hj, rfl⟩ := nI_of h0
    by_cases h1 : nI P ≤ nI j
    · rw [if_pos h1] at h; exact absurd rfl h
    · exact ⟨j, by rw [nI_leI hP2 hj] at h1; omega, rfl⟩
theorem isP_nI {Mm : Mem} {P j : Nat} (hP : Mm 198 6 = nI P) (hP2 : P < 2 ^ 31) (h : j < P) : fX12_isPerson (nI j) Mm = 1 := by
  unfold fX12_isPerson
  rw [if_neg (nI_pos (by omega)), hP, if_neg]
  rw [nI_leI hP2 (by omega)]; omega
theorem isB_yes {Mm : Mem} {P : Nat} (hP : Mm 198 7 = nI P) (hP2 : P < 2 ^ 31) {p : Int32} (h : ¬ fX12_isBargain p Mm = 0) : ∃ j, j < P ∧ p = nI j := by
  unfold fX12_isBargain at h
  by_cases h0 : p < 0
  · rw [if_pos h0] at h; exact absurd rfl h
  · rw [if_neg h0, hP] at h
    obtain ⟨j, hj, rfl⟩ := nI_of h0
    by_cases h1 : nI P ≤ nI j
    · rw [if_pos h1] at h; exact absurd rfl h
    · exact ⟨j, by rw [nI_leI hP2 hj] at h1; omega, rfl⟩
theorem isB_nI {Mm : Mem} {P j : Nat} (hP : Mm 198 7 = nI P) (hP2 : P < 2 ^ 31) (h : j < P) : fX12_isBargain (nI j) Mm = 1 := by
  unfold fX12_isBargain
  rw [if_neg (nI_pos (by omega)), hP, if_neg]
  rw [nI_leI hP2 (by omega)]; omega
/-- the reference's call writes told at least: nothing that matters -/
theorem AR_told {Mc Mm : Mem} (h : AR Mc Mm) : AR Mc (mu Mm 198 0 0) := AR_m (Sm := [(198, some 0)]) (Agr.mu (k := 198) (j := 0) (v := 0) Agr.rfl' (Or.inl (by simp))) rfl h
theorem s_person (p : Int32) : Sm (fX11_person p) (fX12_person p) := by
  intro Mc Mm h
  have h0 := h
  obtain ⟨⟨P, B, n, hBd, hTv, hFx, hBk, hLaw, hTw, hEv, hHe, hTo⟩, ⟨N, hN, hN2, hPa⟩, hTa, hFa, hIm, hCs⟩ := h
  obtain ⟨hP12, hB14, hP, hB, hbs⟩ := id hBd
  have hPc : Mc 2 4 = nI P := hFx.1.trans hP
  by_cases hin : 0 ≤ p ∧ p ≤ 9
  · by_cases hlt : P < 12
    · have l12 : (12 : Int32) = nI 12 := rfl
      have c1 : ¬ (12 : Int32) ≤ nI P := by rw [l12, nI_leI (by decide) (by omega)]; omega
      have c2 : nI P < (12 : Int32) := by rw [l12, nI_ltI (by omega) (by decide)]; omega
      have c3 : ¬ nI P = (12 : Int32) := by rw [l12, nI_eq (by omega) (by decide)]; omega
      have e1 : fX11_person p Mc = some (nI P, mu (mu (mu (mu (mu Mc 3 P p) 4 P 0) 5 P 0) 2 4 (nI (P + 1))) 105 0 0) := by
        unfold fX11_person fX9_addPerson fX6_forget bnd
        rw [isW_isIn, isIn_yes hin, if_neg one_ne, hPc, if_pos c2, if_neg c1, wr_nI hlt]
        simp (disch := omega) only [Option.bind_some, mu_o, mu_i, mu_s, hPc, wr_nI hlt, nI_1, nI_pred]
      have e2 : fX12_person p Mm = some (nI P, mu (mu (mu (mu (mu (mu Mm 198 0 0) 199 (5 + P) p) 199 (17 + P) 0) 199 (29 + P) 0) 198 6 (nI (P + 1))) 198 3 0) := by
        unfold fX12_person
        simp only [bnd]
        rw [isIn_yes hin, if_neg one_ne, mu_i (by omega), hP, if_neg c3]
        simp (disch := omega) only [Option.bind_some, mu_o, mu_i, mu_s, hP, ladd 5 P, ladd 17 P, ladd 29 P, wr_nI (show 5 + P < 83 by omega), wr_nI (show 17 + P < 83 by omega), wr_nI (show 29 + P < 83 by omega), nI_1, nI_pred]
      have hc := Agr.of (wX11_person p Mc) e1
      have hm := Agr.of (wX12_person p Mm) e2
      obtain ⟨m, x, hm', hx, h1, h2, h3, -⟩ := hPa
      refine ⟨_, _, _, e1, e2, ⟨P + 1, B, n, ⟨by omega, hB14, rfl, ?_, ?_⟩, ?_, ⟨rfl, ?_, ?_⟩, Bk_agr hc hm rfl rfl ?_ hBk, LawR_agr hc hm rfl rfl hLaw, TwR_agr hc hm rfl rfl hTw, ?_, ?_, ToR_agr hc hm rfl rfl hTo⟩, ⟨N, ?_, hN2, PaR_0 hx rfl rfl h3⟩, TaR_agr hc hm rfl rfl hTa, hFa, ImR_agr hc hm rfl rfl hIm, CsR_agr hc hm rfl rfl rfl rfl hCs⟩
      · exact hB
      · intro b hb
        obtain ⟨f, s, q, a1, a2, a3, a4, a5, a6⟩ := hbs b hb
        exact ⟨f, s, q, a1, a2, a3, by omega, by omega, a6⟩
      · obtain ⟨⟨a1, a2, a3, a4⟩, hp, hb, hz⟩ := hTv
        refine ⟨⟨?_, ?_, ?_, ?_⟩, fun p hp' => ?_, fun b hb' => ?_, fun b hb' => ?_⟩
        · simpa (disch := omega) only [mu_o, mu_i, mu_s] using a1
        · simpa (disch := omega) only [mu_o, mu_i, mu_s] using a2
        · simpa (disch := omega) only [mu_o, mu_i, mu_s] using a3
        · simpa (disch := omega) only [mu_o, mu_i, mu_s] using a4
        · have := hp p hp'
          by_cases hpP : p = P
          · subst hpP
            simp (disch := omega) only [mu_o, mu_i, mu_s, and_self]
          · simpa (disch := omega) only [mu_o, mu_i, mu_s] using this
        · have := hb b hb'
          simpa (disch := omega) only [mu_o, mu_i, mu_s] using this
        · have := hz b hb'
          simpa (disch := omega) only [mu_o, mu_i, mu_s] using this
      · exact hFx.2.1
      · exact hFx.2.2
      · simp (disch := omega) only [mu_o, mu_i, mu_s]
      · obtain ⟨n', a1, a2, a3, a4⟩ := EvR_agr hc hm rfl rfl hEv
        refine ⟨n', a1, a2, a3, fun i hi => ?_⟩
        obtain ⟨b1, x, b2, b3, b4⟩ := a4 i hi
        refine ⟨b1, x, b2, b3, ?_⟩
        rcases b4 with b | b | ⟨b, q, q1, q2⟩
        · exact Or.inl b
        · exact Or.inr (Or.inl b)
        · exact Or.inr (Or.inr ⟨b, q, by omega, q2⟩)
      · obtain ⟨n', a1, a2, a3, a4, a5⟩ := HeR_agr hc hm rfl rfl hHe
        refine ⟨n', a1, a2, a3, fun i hi => ?_, a5⟩
        obtain ⟨b, q, b1, b2, b3⟩ := a4 i hi
        exact ⟨b, q, b1, by omega, b3⟩
      · simpa (disch := omega) only [mu_o, mu_i, mu_s] using hN
    · have hPe : P = 12 := by omega
      subst hPe
      refine ⟨-1, Mc, mu Mm 198 0 0, ?_, ?_, AR_told h0⟩
      · unfold fX11_person
        rw [isW_isIn, isIn_yes hin, if_neg one_ne, hPc, if_neg (by decide)]
      · unfold fX12_person
        simp only [bnd]
        rw [isIn_yes hin, if_neg one_ne, mu_i (by omega), hP, if_pos (show nI 12 = 12 from rfl)]
  · refine ⟨-1, Mc, mu Mm 198 0 0, ?_, ?_, AR_told h0⟩
    · unfold fX11_person
      rw [isW_isIn, isIn_no hin, if_pos rfl]
    · unfold fX12_person
      simp only [bnd]
      rw [isIn_no hin, if_pos rfl]
