/-! ===== even ===== -/
theorem v_sum {Mc Mm : Mem} (h : ∀ i, i < 9 → Mc 49 i = Mm 230 i) (l : Nat) (hl : l < 8) : ∃ s, fX10_sumOf (nI l) Mc = some s ∧ fX12_lineSum (nI l) Mm = some s := by
  have r := fun j (hj : j < 9) => rd_nI (M := Mc) (k := 49) (n := 9) (j := j) hj
  have q := fun j (hj : j < 9) => (rd_nI (M := Mm) (k := 230) (n := 9) (j := j) hj).trans (congrArg some (h j hj).symm)
  rcases (show l = 0 ∨ l = 1 ∨ l = 2 ∨ l = 3 ∨ l = 4 ∨ l = 5 ∨ l = 6 ∨ l = 7 by omega) with rfl | rfl | rfl | rfl | rfl | rfl | rfl | rfl
  · exact ⟨Mc 49 0 + Mc 49 1 + Mc 49 2, rfl, by rw [h 0 (by omega), h 1 (by omega), h 2 (by omega)]; rfl⟩
  · exact ⟨Mc 49 3 + Mc 49 4 + Mc 49 5, rfl, by rw [h 3 (by omega), h 4 (by omega), h 5 (by omega)]; rfl⟩
  · exact ⟨Mc 49 6 + Mc 49 7 + Mc 49 8, rfl, by rw [h 6 (by omega), h 7 (by omega), h 8 (by omega)]; rfl⟩
  · exact ⟨Mc 49 0 + Mc 49 3 + Mc 49 6, rfl, by rw [h 0 (by omega), h 3 (by omega), h 6 (by omega)]; rfl⟩
  · exact ⟨Mc 49 1 + Mc 49 4 + Mc 49 7, rfl, by rw [h 1 (by omega), h 4 (by omega), h 7 (by omega)]; rfl⟩
  · exact ⟨Mc 49 2 + Mc 49 5 + Mc 49 8, rfl, by rw [h 2 (by omega), h 5 (by omega), h 8 (by omega)]; rfl⟩
  · exact ⟨Mc 49 0 + Mc 49 4 + Mc 49 8, rfl, by rw [h 0 (by omega), h 4 (by omega), h 8 (by omega)]; rfl⟩
  · exact ⟨Mc 49 2 + Mc 49 4 + Mc 49 6, rfl, by rw [h 2 (by omega), h 4 (by omega), h 6 (by omega)]; rfl⟩
theorem v_lines {Mc Mm : Mem} (h : ∀ i, i < 9 → Mc 49 i = Mm 230 i) (z : Int32) : ∀ (k F j : Nat) (a : Int32), j + k = 8 → k < F → ∃ r, fX10_linesOfSum_L4 z Mc F a (nI j) = some r ∧ fX12_linesThatCome_L4 z Mm F a (nI j) = some r
  | k, 0, j, a, _, h2 => by omega
  | 0, F + 1, j, a, h1, h2 => by
    have c : (8 : Int32) ≤ nI j := nI_le (show 8 ≤ j by omega) (by omega)
    exact ⟨a, by rw [fX10_linesOfSum_L4, if_pos c], by rw [fX12_linesThatCome_L4, if_pos c]⟩
  | k + 1, F + 1, j, a, h1, h2 => by
    have c : ¬ (8 : Int32) ≤ nI j := nI_ge (show j < 8 by omega) (by decide)
    obtain ⟨s, s1, s2⟩ := v_sum h j (by omega)
    rw [fX10_linesOfSum_L4, fX12_linesThatCome_L4, if_neg c, if_neg c, s1, s2, Option.bind_some, Option.bind_some]
    dsimp only [jn, bnd]
    rw [nI_1 j]
    by_cases e : s = z
    · rw [if_pos e, if_pos e]; exact v_lines h z k F (j + 1) _ (by omega) (by omega)
    · rw [if_neg e, if_neg e]; exact v_lines h z k F (j + 1) _ (by omega) (by omega)
theorem v_all {Mc Mm : Mem} (h : ∀ i, i < 9 → Mc 49 i = Mm 230 i) (z : Int32) : ∃ r, fX10_linesOfSum z Mc = some r ∧ fX12_linesThatCome z Mm = some r := by
  have := v_lines h z 8 FU 0 0 (by omega) (FU_gt (by omega))
  rw [nI_0] at this
  exact this
theorem mu_mu (M : Mem) (k j : Nat) (a b : Int32) : mu (mu M k j a) k j b = mu M k j b := by
  funext x i
  by_cases hx : x = k
  · subst hx
    by_cases hi : i = j
    · subst hi; rw [mu_s, mu_s]
    · rw [mu_i hi, mu_i hi, mu_i hi]
  · rw [mu_o hx, mu_o hx, mu_o hx]
theorem mu_same (M : Mem) (k j : Nat) : mu M k j (M k j) = M := by
  funext x i
  by_cases hx : x = k
  · subst hx
    by_cases hi : i = j
    · subst hi; rw [mu_s]
    · rw [mu_i hi]
  · rw [mu_o hx]
theorem v_in {Mc Mm : Mem} (h : ∀ i, i < 9 → Mc 49 i = Mm 230 i) {z : Nat} (hz : z < 9) (v : Int32) : ∀ (k F j : Nat) (a c : Int32), j + k = 31 → k < F → ∃ c' a', (∀ K, fX10_waysToEven_L20 K (nI z) v F c (nI j) (mu Mc 49 z a) = K c' (mu Mc 49 z a')) ∧ ∀ K, fX12_even_L52 K (nI z) v F c (nI j) (mu Mm 230 z a) = K c' (mu Mm 230 z a')
  | k, 0, j, a, c, _, h2 => by omega
  | 0, F + 1, j, a, c, h1, h2 => by
    have c1 : (30 : Int32) < nI j := nI_lt (show 30 < j by omega) (by omega)
    have c2 : (31 : Int32) ≤ nI j := nI_le (show 31 ≤ j by omega) (by omega)
    exact ⟨c, a, fun K => by rw [fX10_waysToEven_L20, if_pos c1], fun K => by rw [fX12_even_L52, if_pos c2]⟩
  | k + 1, F + 1, j, a, c, h1, h2 => by
    have c1 : ¬ (30 : Int32) < nI j := nI_nlt (show j ≤ 30 by omega) (by decide)
    have c2 : ¬ (31 : Int32) ≤ nI j := nI_ge (show j < 31 by omega) (by decide)
    have h' : ∀ i, i < 9 → mu Mc 49 z (nI j) 49 i = mu Mm 230 z (nI j) 230 i := fun i hi => by
      by_cases e : i = z
      · subst e; rw [mu_s, mu_s]
      · rw [mu_i e, mu_i e]; exact h i hi
    have ih := fun c' => v_in h hz v k F (j + 1) (nI j) c' (by omega) (by omega)
    by_cases e : nI j = v
    · obtain ⟨c', a', k1, k2⟩ := ih c
      refine ⟨c', a', fun K => ?_, fun K => ?_⟩
      · rw [fX10_waysToEven_L20, if_neg c1, wr_nI hz, Option.bind_some, mu_mu]
        dsimp only [jn]
        rw [if_pos e, nI_1 j, k1]
      · rw [fX12_even_L52, if_neg c2, wr_nI hz, Option.bind_some, mu_mu]
        dsimp only [jn]
        rw [if_pos e, nI_1 j, k2]
    · obtain ⟨s, s1, s2⟩ := v_sum h' 0 (by omega)
      obtain ⟨r, r1, r2⟩ := v_all h' s
      rw [nI_0] at s1 s2
      by_cases e8 : r = 8
      · obtain ⟨c', a', k1, k2⟩ := ih (c + 1)
        refine ⟨c', a', fun K => ?_, fun K => ?_⟩
        · rw [fX10_waysToEven_L20, if_neg c1, wr_nI hz, Option.bind_some, mu_mu]
          dsimp only [jn]
          rw [if_neg e, s1, Option.bind_some, r1, Option.bind_some, if_pos e8, nI_1 j, k1]
        · rw [fX12_even_L52, if_neg c2, wr_nI hz, Option.bind_some, mu_mu]
          dsimp only [jn, bnd]
          rw [if_neg e, s2, Option.bind_some, r2, Option.bind_some, if_pos e8, nI_1 j, k2]
      · obtain ⟨c', a', k1, k2⟩ := ih c
        refine ⟨c', a', fun K => ?_, fun K => ?_⟩
        · rw [fX10_waysToEven_L20, if_neg c1, wr_nI hz, Option.bind_some, mu_mu]
          dsimp only [jn]
          rw [if_neg e, s1, Option.bind_some, r1, Option.bind_some, if_neg e8, nI_1 j, k1]
        · rw [fX12_even_L52, if_neg c2, wr_nI hz, Option.bind_some, mu_mu]
          dsimp only [jn, bnd]
          rw [if_neg e, s2, Option.bind_some, r2, Option.bind_some, if_neg e8, nI_1 j, k2]
theorem v_out {Mc Mm : Mem} (h : ∀ i, i < 9 → Mc 49 i = Mm 230 i) : ∀ (k F j : Nat) (c : Int32), j + k = 9 → k < F → ∃ c', fX10_waysToEven_L4 F c (nI j) Mc = some (c', Mc) ∧ fX12_even_L35 F c (nI j) Mm = some (c', Mm)
  | k, 0, j, c, _, h2 => by omega
  | 0, F + 1, j, c, h1, h2 => by
    have c1 : (9 : Int32) ≤ nI j := nI_le (show 9 ≤ j by omega) (by omega)
    exact ⟨c, by rw [fX10_waysToEven_L4, if_pos c1], by rw [fX12_even_L35, if_pos c1]⟩
  | k + 1, F + 1, j, c, h1, h2 => by
    have c1 : ¬ (9 : Int32) ≤ nI j := nI_ge (show j < 9 by omega) (by decide)
    have hj := h j (by omega)
    obtain ⟨c', a', k1, k2⟩ := v_in h (show j < 9 by omega) (Mc 49 j) 31 FU 0 (Mc 49 j) c (by omega) (FU_gt (by omega))
    obtain ⟨c2, e1, e2⟩ := v_out h k F (j + 1) c' (by omega) (by omega)
    rw [nI_0] at k1 k2
    rw [mu_same] at k1
    rw [hj, mu_same] at k2
    refine ⟨c2, ?_, ?_⟩
    · rw [fX10_waysToEven_L4, if_neg c1, rd_nI (by omega), Option.bind_some, k1, wr_nI (by omega), Option.bind_some, mu_mu, mu_same, nI_1 j, e1]
    · rw [fX12_even_L35, if_neg c1, rd_nI (by omega), Option.bind_some, k2, wr_nI (by omega), Option.bind_some, mu_mu, mu_same, nI_1 j, e2]
theorem s_even (p : Int32) : Sm (fX11_even p) (fX12_even p) := fun Mc Mm hA => by
  have h : ∀ i, i < 9 → Mc 49 i = mu Mm 198 0 0 230 i := fun i hi => by
    obtain ⟨⟨P, B, n, hBd, hTv, hFx, hBk, hLaw, hTw, hEv, hHe, hTo⟩, -⟩ := hA
    obtain ⟨x, -, x1, x2⟩ := hTo.2.2.2.2 i hi
    rw [mu_o (by omega), x2]; exact x1
  by_cases c0 : p = -1
  · have := v_out h 9 FU 0 0 (by omega) (FU_gt (by omega))
    rw [nI_0] at this
    obtain ⟨c', e1, e2⟩ := this
    refine ⟨c', Mc, mu Mm 198 0 0, ?_, ?_, AR_told hA⟩
    · unfold fX11_even fX10_waysToEven; rw [if_pos c0, e1]; rfl
    · unfold fX12_even; dsimp only [bnd]; rw [if_pos c0, e2]
  by_cases c1 : ¬ (0 ≤ p ∧ p ≤ 90)
  · refine ⟨-1, Mc, mu Mm 198 0 0, ?_, ?_, AR_told hA⟩
    · unfold fX11_even; rw [if_neg c0, isW_isIn, isIn_no c1, if_pos rfl]
    · unfold fX12_even; dsimp only [bnd]; rw [if_neg c0, isIn_no c1, if_pos rfl]
  have c1 := Decidable.not_not.mp c1
  obtain ⟨r, r1, r2⟩ := v_all h p
  refine ⟨r, Mc, mu Mm 198 0 0, ?_, ?_, AR_told hA⟩
  · unfold fX11_even; rw [if_neg c0, isW_isIn, isIn_yes c1, if_neg one_ne, r1]; rfl
  · unfold fX12_even; dsimp only [bnd]; rw [if_neg c0, isIn_yes c1, if_neg one_ne, r2]; rfl
