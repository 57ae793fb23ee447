/-! ===== text: the other texts are taken ===== -/
section TAKEO
abbrev ScO : List (Nat × Option Nat) := [(25, some 0), (26, none), (27, none), (28, none), (29, none), (30, some 0), (31, none), (32, none), (33, none), (34, none), (35, some 0), (36, none), (37, none), (38, none), (39, none), (105, some 0)]
abbrev SmO : List (Nat × Option Nat) := [(198, some 3), (198, some 35), (198, some 37), (198, some 39), (216, none), (217, none), (218, none)]
theorem AR_oth {Mc Mm Mc' Mm' : Mem} (h : AR Mc Mm) (hc : Agr ScO Mc Mc') (hm : Agr SmO Mm Mm') (h1 : ∀ P B, Bd P B Mm → TwR Mc 25 Mm B → TwR Mc' 25 Mm' B) (h2 : ∀ P B, Bd P B Mm → EvR Mc 30 Mm P B → EvR Mc' 30 Mm' P B) (h3 : ∀ P B, Bd P B Mm → HeR Mc 35 Mm P B → HeR Mc' 35 Mm' P B) (h4 : ∀ N, PaR Mc Mm N → PaR Mc' Mm' N) : AR Mc' Mm' := by
  obtain ⟨⟨P, B, n, hBd, hTv, hFx, hBk, hLaw, hTw, hEv, hHe, hTo⟩, ⟨N, hN, hN2, hPa⟩, hTa, hFa, hIm, hCs⟩ := h
  refine ⟨⟨P, B, n, Bd_agr hm rfl hBd, ?_, Fx_agr hc hm rfl rfl hFx, Bk_agr hc hm rfl rfl (hm 199 2 (by decide) (by decide)) hBk, LawR_agr hc hm rfl rfl hLaw, h1 P B hBd hTw, h2 P B hBd hEv, h3 P B hBd hHe, ToR_agr hc hm rfl rfl hTo⟩, ⟨N, ?_, hN2, h4 N hPa⟩, TaR_agr hc hm rfl rfl hTa, ?_, ImR_agr hc hm rfl rfl hIm, CsR_agr hc hm rfl rfl (hm 226 0 (by decide) (by decide)) (hm 227 0 (by decide) (by decide)) hCs⟩
  · have : Mm' 199 = Mm 199 := funext fun i => hm 199 i (by simp) (by simp)
    rw [this]; exact Tv_agr hc rfl hTv
  · rw [hm 199 2 (by decide) (by decide)]; exact hN
  · rw [hc 178 2 (by decide) (by decide), hc 178 3 (by decide) (by decide), hm 198 33 (by decide) (by decide), hm 198 34 (by decide) (by decide)]; exact hFa
theorem PaR_nil {Mc Mm Mc' Mm' : Mem} (z1 : Mc' 105 0 = 0) (z2 : Mm' 198 3 = 0) (z3 : Mc' 105 1 = Mc 105 1) : ∀ N, PaR Mc Mm N → PaR Mc' Mm' N := fun N h => by
  obtain ⟨n, x, hn, hx, a1, a2, a3, β, hβ, a4⟩ := h
  exact ⟨0, x, by omega, hx, z1, z2, z3.trans a3, fun _ => 0, fun i hi => absurd hi (by omega), fun i hi => absurd hi (by omega)⟩
theorem to_1 {n : Nat} (hn : n ≤ 16) : ∀ (k F j : Nat) (M : Mem), j + k = 3 * n → k < F → ∃ M', (∀ K, fX12_takesOther_L42 K 1 (nI n) F (nI j) M = K M') ∧ (∀ i, j ≤ i → i < 3 * n → M' 216 i = M 216 (48 + i)) ∧ ∀ a i, ¬ (a = 216 ∧ j ≤ i ∧ i < 3 * n) → M' a i = M a i
  | _, 0, _, _, _, h => absurd h (by omega)
  | 0, F + 1, j, M, h1, h2 => by
    have e3 : (3 * nI n : Int32) = nI (3 * n) := (show ∀ n, n < 17 → (3 * nI n : Int32) = nI (3 * n) by decide) n (by omega)
    refine ⟨M, fun K => ?_, fun i q1 q2 => absurd q2 (by omega), fun _ _ _ => rfl⟩
    rw [fX12_takesOther_L42, e3, if_pos (show nI (3 * n) ≤ nI j from nI_le (by omega) (by omega))]
  | k + 1, F + 1, j, M, h1, h2 => by
    have e3 : (3 * nI n : Int32) = nI (3 * n) := (show ∀ n, n < 17 → (3 * nI n : Int32) = nI (3 * n) by decide) n (by omega)
    obtain ⟨M', a1, a2, a3⟩ := to_1 hn k F (j + 1) (mu M 216 j (M 216 (48 + j))) (by omega) (by omega)
    refine ⟨M', fun K => ?_, fun i q1 q2 => ?_, fun a i q => ?_⟩
    · have e1 : (48 : Int32) + nI j = nI (48 + j) := nI_add 48 j
      rw [fX12_takesOther_L42, e3, if_neg (show ¬ nI (3 * n) ≤ nI j from nI_ge (by omega) (by omega)), if_pos rfl, e1, rd_nI (by omega), Option.bind_some, wr_nI (by omega), Option.bind_some, nI_1]
      exact a1 K
    · by_cases w : i = j
      · subst w; rw [a3 216 i (by omega), mu_s]
      · rw [a2 i (by omega) q2, mu_i (by omega)]
    · rw [a3 a i (by omega)]
      by_cases w : a = 216
      · subst w; exact mu_i (by omega)
      · exact mu_o w
theorem to_2 {n : Nat} (hn : n ≤ 16) : ∀ (k F j : Nat) (M : Mem), j + k = 4 * n → k < F → ∃ M', (∀ K, fX12_takesOther_L77 K 2 (nI n) F (nI j) M = K M') ∧ (∀ i, j ≤ i → i < 4 * n → M' 217 i = M 217 (64 + i)) ∧ ∀ a i, ¬ (a = 217 ∧ j ≤ i ∧ i < 4 * n) → M' a i = M a i
  | _, 0, _, _, _, h => absurd h (by omega)
  | 0, F + 1, j, M, h1, h2 => by
    have e3 : (4 * nI n : Int32) = nI (4 * n) := (show ∀ n, n < 17 → (4 * nI n : Int32) = nI (4 * n) by decide) n (by omega)
    refine ⟨M, fun K => ?_, fun i q1 q2 => absurd q2 (by omega), fun _ _ _ => rfl⟩
    rw [fX12_takesOther_L77, e3, if_pos (show nI (4 * n) ≤ nI j from nI_le (by omega) (by omega))]
  | k + 1, F + 1, j, M, h1, h2 => by
    have e3 : (4 * nI n : Int32) = nI (4 * n) := (show ∀ n, n < 17 → (4 * nI n : Int32) = nI (4 * n) by decide) n (by omega)
    obtain ⟨M', a1, a2, a3⟩ := to_2 hn k F (j + 1) (mu M 217 j (M 217 (64 + j))) (by omega) (by omega)
    refine ⟨M', fun K => ?_, fun i q1 q2 => ?_, fun a i q => ?_⟩
    · have e1 : (64 : Int32) + nI j = nI (64 + j) := nI_add 64 j
      rw [fX12_takesOther_L77, e3, if_neg (show ¬ nI (4 * n) ≤ nI j from nI_ge (by omega) (by omega)), if_pos rfl, e1, rd_nI (by omega), Option.bind_some, wr_nI (by omega), Option.bind_some, nI_1]
      exact a1 K
    · by_cases w : i = j
      · subst w; rw [a3 217 i (by omega), mu_s]
      · rw [a2 i (by omega) q2, mu_i (by omega)]
    · rw [a3 a i (by omega)]
      by_cases w : a = 217
      · subst w; exact mu_i (by omega)
      · exact mu_o w
theorem to_3 (z2 : Int32) : ∀ (k F j : Nat) (M : Mem), j + k = 14 → k < F → ∃ M', fX12_takesOther_L7 z2 F (nI j) M = some (mu M' 198 39 z2) ∧ (∀ i, j ≤ i → i < 14 → M' 218 i = M 218 (14 + i)) ∧ ∀ a i, ¬ (a = 218 ∧ j ≤ i ∧ i < 14) → M' a i = M a i
  | _, 0, _, _, _, h => absurd h (by omega)
  | 0, F + 1, j, M, h1, h2 => by
    refine ⟨M, ?_, fun i q1 q2 => absurd q2 (by omega), fun _ _ _ => rfl⟩
    rw [fX12_takesOther_L7, if_pos (show (14 : Int32) ≤ nI j from nI_le (a := 14) (by omega) (by omega)), bnd_eq]
  | k + 1, F + 1, j, M, h1, h2 => by
    obtain ⟨M', a1, a2, a3⟩ := to_3 z2 k F (j + 1) (mu M 218 j (M 218 (14 + j))) (by omega) (by omega)
    refine ⟨M', ?_, fun i q1 q2 => ?_, fun a i q => ?_⟩
    · have e1 : (14 : Int32) + nI j = nI (14 + j) := nI_add 14 j
      rw [fX12_takesOther_L7, if_neg (show ¬ (14 : Int32) ≤ nI j from nI_ge (b := 14) (by omega) (by decide)), e1, rd_nI (by omega), Option.bind_some, wr_nI (by omega), Option.bind_some, nI_1]
      exact a1
    · by_cases w : i = j
      · subst w; rw [a3 218 i (by omega), mu_s]
      · rw [a2 i (by omega) q2, mu_i (by omega)]
    · rw [a3 a i (by omega)]
      by_cases w : a = 218
      · subst w; exact mu_i (by omega)
      · exact mu_o w
theorem takes_1 {n : Nat} (hn : n ≤ 16) (M : Mem) : ∃ M', fX12_takesOther 1 (nI n) M = some M' ∧ M' 198 35 = nI n ∧ M' 198 3 = 0 ∧ (∀ i, i < 3 * n → M' 216 i = M 216 (48 + i)) ∧ ∀ a i, ¬ (a = 216 ∧ i < 3 * n) → ¬ (a = 198 ∧ (i = 3 ∨ i = 35)) → M' a i = M a i := by
  obtain ⟨M1, a1, a2, a3⟩ := to_1 hn (3 * n) FU 0 M (by omega) (FU_gt (by omega))
  have z0 : nI 0 = (0 : Int32) := rfl
  refine ⟨mu (mu M1 198 35 (nI n)) 198 3 0, ?_, by rw [mu_i (by omega), mu_s], mu_s, fun i hi => by rw [mu_o (by omega), mu_o (by omega), a2 i (by omega) hi], fun a i q1 q2 => ?_⟩
  · unfold fX12_takesOther
    rw [if_neg (show ¬ (1 : Int32) = 3 by decide), ← z0, a1]
    obtain ⟨F, hF⟩ : ∃ F, FU = F + 1 := ⟨FU - 1, by have := FU_gt (n := 1) (by omega); omega⟩
    rw [hF, fX12_takesOther_L77]
    rw [if_neg (show ¬ (1 : Int32) = 2 by decide), ite_self, jn_eq, if_pos rfl]
    rfl
  · by_cases w : a = 198
    · subst w; rw [mu_i (by omega), mu_i (by omega), a3 198 i (by omega)]
    · rw [mu_o w, mu_o w, a3 a i (by omega)]
end TAKEO
