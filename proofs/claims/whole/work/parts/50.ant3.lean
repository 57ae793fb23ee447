theorem a_loop {N : Nat} (hN : N ≤ 300) : ∀ k F t V x y d c, t + k = N → k < F → aChk k V x y d c = true → ∃ V' x' y' d' c', aOk V' x' y' d' c' = true ∧ (∀ K, fX5_antWalk_L17 K (nI N) F (wI V) (nI x) (nI y) (aDx d) (aDy d) (nI t) = K (wI V') (nI x') (nI y')) ∧ ∀ M : Mem, (∀ i, i < 64 → M 228 i = nI (if V.testBit i then 1 else 0)) → ∃ M', ∀ K, fX12_ant_L64 K (nI N) F (nI x) (nI y) (nI d) (nI c) (nI t) M = K (nI x') (nI y') (nI c') M'
  | k, 0, t, V, x, y, d, c, _, h, _ => by omega
  | 0, F + 1, t, V, x, y, d, c, h1, h2, h3 => by
    have q : nI N ≤ nI t := nI_le (by omega) (by omega)
    exact ⟨V, x, y, d, c, h3, fun K => by rw [fX5_antWalk_L17, if_pos q], fun M hM => ⟨M, fun K => by rw [fX12_ant_L64, if_pos q]⟩⟩
  | k + 1, F + 1, t, V, x, y, d, c, h1, h2, h3 => by
    rw [aChk, Bool.and_eq_true] at h3
    obtain ⟨hx, hy, -⟩ := aOk_of h3.1
    obtain ⟨V', x', y', d', c', k1, k2, k3⟩ := a_loop hN k F (t + 1) _ _ _ _ _ (by omega) (by omega) h3.2
    refine ⟨V', x', y', d', c', k1, fun K => by rw [a_cl hN (by omega) h3.1, k2], fun M hM => ?_⟩
    obtain ⟨M', e⟩ := k3 (mu M 228 (8 * y + x) (nI (if V.testBit (8 * y + x) then 0 else 1))) (fun i hi => by
      rw [Nat.testBit_xor, Nat.testBit_two_pow]
      by_cases q : 8 * y + x = i
      · subst q
        rw [mu_s, decide_eq_true rfl]
        cases V.testBit (8 * y + x) <;> rfl
      · rw [mu_i (by omega), decide_eq_false q, Bool.xor_false]
        exact hM i hi)
    exact ⟨M', fun K => by rw [a_rf hN hM (by omega) h3.1, e]⟩
theorem s_ant (p q : Int32) : SmP (fun _ => fX11_ant p q) (fX12_ant p q) := SmP.fr (wX12_ant p q) (by decide +kernel) fun Mc Mm h => by
  unfold fX11_ant fX12_ant
  dsimp only [bnd, jn]
  rw [isW_isIn]
  by_cases c1 : ¬ (0 ≤ p ∧ p ≤ 300)
  · rw [isIn_no c1, if_pos rfl, if_pos rfl]; exact ⟨_, _, rfl, rfl⟩
  have c1 := Decidable.not_not.mp c1
  rw [isIn_yes c1, if_neg one_ne, if_neg one_ne]
  by_cases c2 : ¬ (0 ≤ q ∧ q ≤ 1)
  · rw [isIn_no c2, if_pos rfl, if_pos rfl]; exact ⟨_, _, rfl, rfl⟩
  have c2 := Decidable.not_not.mp c2
  rw [isIn_yes c2, if_neg one_ne, if_neg one_ne]
  obtain ⟨N, hN, rfl⟩ := in_of (n := 300) (by decide) c1
  obtain ⟨j, hj, rfl⟩ := in_of (n := 1) (by decide) c2
  obtain ⟨M1, e1, e2⟩ := a_zero 64 FU 0 (mu Mm 198 0 0) (by omega) (FU_gt (by omega)) (fun i hi => by omega)
  have hc : aChk N 0 3 3 0 0 = true := aChk_le (300 - N) N (by rw [show N + (300 - N) = 300 by omega]; exact aChk_all)
  obtain ⟨V', x', y', d', c', k1, k2, k3⟩ := a_loop hN N FU 0 0 3 3 0 0 (by omega) (FU_gt (by omega)) hc
  obtain ⟨M2, k3⟩ := k3 M1 (fun i hi => by rw [e2 i hi, Nat.zero_testBit]; rfl)
  obtain ⟨-, -, -, -, -, hb, -⟩ := aOk_of k1
  rw [nI_0] at e1
  have k2 : ∀ K, fX5_antWalk_L17 K (nI N) FU 0 3 3 0 (-1) 0 = K (wI V') (nI x') (nI y') := k2
  have k3 : ∀ K, fX12_ant_L64 K (nI N) FU 3 3 0 0 0 M1 = K (nI x') (nI y') (nI c') M2 := k3
  rw [e1, k3]
  unfold fX5_antWalk
  rw [k2, k2]
  rcases (show j = 0 ∨ j = 1 by omega) with rfl | rfl
  · exact ⟨8 * nI y' + nI x', M2, rfl, rfl⟩
  · exact ⟨nI c', M2, by rw [hb]; rfl, rfl⟩
