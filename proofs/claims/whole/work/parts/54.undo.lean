/-! ===== undo ===== -/
theorem u_L26 {m : Nat} (hm : m < 6) : ∀ (k F j : Nat) (M : Mem), j + k = 83 → k < F → M 198 3 = nI m → ∃ M', fX12_undo_L26 F (nI j) M = some (1, M') ∧ (∀ i, i < j → M' 199 i = M 199 i) ∧ (∀ i, j ≤ i → i < 83 → M' 199 i = M 200 (83 * m + i)) ∧ ∀ x, x ≠ 199 → M' x = M x
  | k, 0, j, M, _, h, _ => by omega
  | 0, F + 1, j, M, h1, h2, h3 => by
    have c : (83 : Int32) ≤ nI j := nI_le (show 83 ≤ j by omega) (by omega)
    exact ⟨M, by rw [fX12_undo_L26, if_pos c], fun i _ => rfl, fun i a b => by omega, fun x _ => rfl⟩
  | k + 1, F + 1, j, M, h1, h2, h3 => by
    have c : ¬ (83 : Int32) ≤ nI j := nI_ge (show j < 83 by omega) (by decide)
    obtain ⟨M', e1, e2, e3, e4⟩ := u_L26 hm k F (j + 1) (mu M 199 j (M 200 (83 * m + j))) (by omega) (by omega) (by rw [mu_o (by omega)]; exact h3)
    refine ⟨M', ?_, fun i hi => ?_, fun i a b => ?_, fun x hx => ?_⟩
    · rw [fX12_undo_L26, if_neg c, h3, lmul 83 m, nI_add, rd_nI (by omega), Option.bind_some, wr_nI (by omega), Option.bind_some, nI_1, e1]
    · rw [e2 i (by omega), mu_i (by omega)]
    · by_cases d : i = j
      · subst d; rw [e2 i (by omega), mu_s]
      · rw [e3 i (by omega) b, mu_o (by omega)]
    · rw [e4 x hx, mu_c hx]
theorem s_undo : Sm fX11_undo fX12_undo := by
  intro Mc Mm h
  have h0 := h
  obtain ⟨⟨P, B, n, hBd, hTv, hFx, hBk, hLaw, hTw, hEv, hHe, hTo⟩, ⟨N, hN, hN2, hPa⟩, hTa, hFa, hIm, hCs⟩ := h
  obtain ⟨m, x, hm6, hx, h1, h2, h3, β, hβ, h4⟩ := hPa
  cases m with
  | zero =>
    refine ⟨0, Mc, mu Mm 198 0 0, ?_, ?_, AR_told h0⟩
    · unfold fX11_undo fX6_goBack
      have c : ¬ (0 : Int32) < nI 0 := by decide
      rw [h1, if_neg c]; rfl
    · unfold fX12_undo
      dsimp only [bnd]
      have c : nI 0 = (0 : Int32) := rfl
      rw [mu_i (by omega), h2, if_pos c]
  | succ m =>
    obtain ⟨a1, a2, a3, a4⟩ := h4 m (by omega)
    have hy : (x + 6 - (m + 1) + m) % 6 = (x + 5) % 6 := by omega
    rw [hy] at a1 a2 a3
    obtain ⟨y, hyd⟩ : ∃ y, (x + 5) % 6 = y := ⟨_, rfl⟩
    rw [hyd] at a1 a2 a3
    have hy6 : y < 6 := by omega
    have hr : 106 + rtL.getD y 0 = 108 + 10 * y := by
      rcases (show y = 0 ∨ y = 1 ∨ y = 2 ∨ y = 3 ∨ y = 4 ∨ y = 5 by omega) with rfl | rfl | rfl | rfl | rfl | rfl <;> rfl
    have hk : kd (108 + 10 * y) = (9, 15) := by
      rcases (show y = 0 ∨ y = 1 ∨ y = 2 ∨ y = 3 ∨ y = 4 ∨ y = 5 by omega) with rfl | rfl | rfl | rfl | rfl | rfl <;> rfl
    obtain ⟨M6, e6, b1, b2, b3, b4⟩ := copy_is (M := mu (mu Mc 105 1 (nI y)) 105 0 (nI m)) (d := 2) (s := 108 + 10 * y) (by omega)
    have b4' : ∀ x i, (x < 2 ∨ 11 < x) → x ≠ 105 → M6 x i = Mc x i := fun x i q1 q2 => by rw [b4 x i q1, mu_o q2, mu_o q2]
    have m1 : M6 105 1 = nI y := by rw [b4 105 1 (by omega), mu_i (by omega), mu_s]
    have e1 : fX11_undo Mc = some (1, mu M6 12 0 (nI (β m))) := by
      unfold fX11_undo fX6_goBack
      have c : (0 : Int32) < nI (m + 1) := nI_lt (a := 0) (by omega) (by omega)
      have k : ∀ t : Int32, t = nI y → (bnd (mu Mc 105 1 t) fun M3 => bnd (mu M3 105 0 ((M3 105 0) - 1)) fun M4 => (rdt 106 6 (M4 105 1)).bind fun q5 => if kd q5 = (9, 15) then ((fX9_copyFrom 2 q5 M4).bind fun M6 => (rd M6 107 6 (M6 105 1)).bind fun v7 => bnd (mu M6 12 0 v7) fun M8 => some ((1 : Int32), M8)) else none) = some (1, mu M6 12 0 (nI (β m))) := fun t ht => by
        dsimp only [bnd]
        rw [ht, mu_i (show (0 : Nat) ≠ 1 by omega), h1, nI_pred, mu_i (show (1 : Nat) ≠ 0 by omega), mu_s, rdt_nI hy6, Option.bind_some, hr, if_pos hk, e6, Option.bind_some, m1, rd_nI hy6, Option.bind_some, b4' 107 y (by omega) (by omega), a3]
      rw [h1, if_pos c]
      dsimp only [jn]
      rw [h3]
      rcases Nat.eq_zero_or_pos x with q | q
      · subst q
        have c2 : nI 0 ≤ (0 : Int32) := by decide
        rw [if_pos c2, k 5 (by rw [show y = 5 by omega]; rfl)]; rfl
      · rw [if_neg (nI_nle q (by omega)), k _ (by rw [nI_sub1 q, show y = x - 1 by omega])]; rfl
    obtain ⟨M', f1, -, f3, f4⟩ := u_L26 (m := m) (by omega) 83 FU 0 (mu (mu Mm 198 0 0) 198 3 (nI m)) (by omega) (FU_gt (by omega)) mu_s
    rw [nI_0] at f1
    have e2 : fX12_undo Mm = some (1, M') := by
      unfold fX12_undo
      dsimp only [bnd]
      rw [mu_i (by omega), h2, if_neg (nI_ne0 (by omega) (by omega)), nI_pred, f1]
    have hR : ∀ i, i < 83 → M' 199 i = Mm 200 (83 * m + i) := fun i hi => by rw [f3 i (by omega) hi, mu_o (by omega), mu_o (by omega)]
    have hc := Agr.of (wX11_undo Mc) e1
    have hm := Agr.of (wX12_undo Mm) e2
    have dT : ∀ k i, 108 ≤ k → mu (mu Mc 105 1 (nI y)) 105 0 (nI m) k i = Mc k i := fun k i hk => by rw [mu_o (by omega), mu_o (by omega)]
    have c0 : ∀ i, i < 6 → mu M6 12 0 (nI (β m)) 2 i = Mc (108 + 10 * y) i := fun i hi => by rw [mu_o (by omega), b1 i hi, dT _ _ (by omega)]
    have hnN : n = N := by
      have := hBk.2.2.1
      rw [hN] at this
      have q := (nI_eq (by omega) (by have := hBk.1; omega)).mp this
      exact q.symm
    have hm2 : M' 199 2 = nI (β m) := by rw [hR 2 (by omega), a4]
    refine ⟨1, _, _, e1, e2, ⟨P, B, β m, Bd_agr hm rfl hBd, ?_, ?_, ?_, LawR_agr hc hm rfl rfl hLaw, TwR_agr hc hm rfl rfl hTw, EvR_agr hc hm rfl rfl hEv, HeR_agr hc hm rfl rfl hHe, ToR_agr hc hm rfl rfl hTo⟩, ⟨β m, hm2, by have := (hβ m (by omega)).1; omega, ?_⟩, TaR_agr hc hm rfl rfl hTa, ?_, ImR_agr hc hm rfl rfl hIm, CsR_agr hc hm rfl rfl ?_ ?_ hCs⟩
    · obtain ⟨⟨t1, t2, t3, t4⟩, tp, tb, tz⟩ := a1
      refine ⟨⟨?_, ?_, ?_, ?_⟩, fun p hp => ?_, fun b hb => ?_, fun b hb => ?_⟩
      · rw [c0 0 (by omega), hR 1 (by omega)]; exact t1
      · rw [c0 1 (by omega), hR 3 (by omega)]; exact t2
      · rw [c0 2 (by omega), hR 4 (by omega)]; exact t3
      · rw [c0 3 (by omega), hR 0 (by omega)]; exact t4
      · obtain ⟨q1, q2, q3⟩ := b2 p hp
        rw [hR _ (by omega), hR _ (by omega), hR _ (by omega), mu_o (by omega), mu_o (by omega), mu_o (by omega), q1, q2, q3, dT _ _ (by omega), dT _ _ (by omega), dT _ _ (by omega)]
        exact tp p hp
      · obtain ⟨q1, q2, q3, q4, q5, q6⟩ := b3 b hb
        rw [hR _ (by omega), hR _ (by omega), hR _ (by omega), mu_o (by omega), mu_o (by omega), mu_o (by omega), q4, q5, q6, dT _ _ (by omega), dT _ _ (by omega), dT _ _ (by omega)]
        exact tb b hb
      · rw [hR _ (by omega)]; exact tz b hb
    · refine ⟨?_, ?_, fun b hb => ?_⟩
      · rw [c0 4 (by omega), f4 198 (by omega), mu_i (by omega), mu_i (by omega)]; exact a2.1
      · rw [c0 5 (by omega), f4 198 (by omega), mu_i (by omega), mu_i (by omega)]; exact a2.2.1
      · obtain ⟨q1, q2, q3, q4, q5, q6⟩ := b3 b hb
        rw [f4 202 (by omega), f4 203 (by omega), f4 204 (by omega)]
        simp (disch := omega) only [mu_o]
        rw [q1, q2, q3, dT _ _ (by omega), dT _ _ (by omega), dT _ _ (by omega)]
        exact a2.2.2 b hb
    · have hb := (hβ m (by omega)).1
      obtain ⟨k1, k2, k3, k4⟩ := hBk
      refine ⟨by omega, mu_s, hm2, fun i hi => ?_⟩
      have := k4 i (by omega)
      rw [f4 205 (by omega)]
      simp (disch := omega) only [mu_o, b4']
      exact this
    · refine ⟨m, y, by omega, hy6, ?_, ?_, ?_, β, fun i hi => ⟨(hβ i (by omega)).2 m (by omega) (by omega), fun j q1 q2 => (hβ i (by omega)).2 j q1 (by omega)⟩, fun i hi => ?_⟩
      · rw [mu_o (by omega), b4 105 0 (by omega), mu_s]
      · rw [f4 198 (by omega), mu_s]
      · rw [mu_o (by omega), m1]
      · have hi2 : (y + 6 - m + i) % 6 = (x + 6 - (m + 1) + i) % 6 := by omega
        obtain ⟨g1, g2, g3, g4⟩ := h4 i (by omega)
        rw [hi2]
        obtain ⟨z, hz⟩ : ∃ z, (x + 6 - (m + 1) + i) % 6 = z := ⟨_, rfl⟩
        rw [hz] at g1 g2 g3 ⊢
        have hz6 : z < 6 := by omega
        have r200 : M' 200 = Mm 200 := by rw [f4 200 (by omega), mu_c (by omega), mu_c (by omega)]
        rw [r200]
        have dP : dj [(2, some 0), (2, some 1), (2, some 2), (2, some 3), (2, some 4), (2, some 5), (3, none), (4, none), (5, none), (6, none), (7, none), (8, none), (9, none), (10, none), (11, none), (12, some 0), (105, some 0), (105, some 1)] (ftTv (108 + 10 * z) ++ ftFx (108 + 10 * z)) = true := by
          rcases (show z = 0 ∨ z = 1 ∨ z = 2 ∨ z = 3 ∨ z = 4 ∨ z = 5 by omega) with rfl | rfl | rfl | rfl | rfl | rfl <;> decide +kernel
        refine ⟨Tv_agr hc (dj_sub dP fun q hq => mem_l hq) g1, Fx_agr hc hm (dj_sub dP fun q hq => mem_r hq) rfl g2, ?_, g4⟩
        rw [mu_o (by omega), b4' 107 z (by omega) (by omega)]; exact g3
    · rw [f4 198 (by omega)]
      simp (disch := omega) only [mu_o, mu_i, b4']
      exact hFa
    · rw [f4 226 (by omega), mu_c (by omega), mu_c (by omega)]
    · rw [f4 227 (by omega), mu_c (by omega), mu_c (by omega)]
