/-! ===== game ===== -/
def GaR (Mc Mm : Mem) : Prop := RwR Mc 45 (Mm 231 0) (Mm 232) 5 1 9 1 ∧ RwR Mc 47 (Mm 231 1) (fun i => Mm 232 (8 + i)) 8 0 200 1
theorem g_barL {Mc Mm : Mem} {n : Nat} {z : Int32} (hn8 : n ≤ 8) (hc : Mc 47 0 = nI n) (hm : Mm 231 1 = nI n) (hi : ∀ i, i < n → Mc 48 i = Mm 232 (8 + i)) : ∀ (k F j : Nat), j + k = n → k < F → ∃ b : Int32, (b = 0 ∨ b = 1) ∧ fX7_has_L2 47 z Mc F (nI j) = some b ∧ fX12_isBarred_L2 z Mm F (nI j) = some b
  | k, 0, j, _, h => by omega
  | k, F + 1, j, h1, h2 => by
    have r1 : rd Mm 231 2 1 = some (Mm 231 1) := rd_nI (j := 1) (by decide)
    have e8 : kn (47 + 1) = 8 := rfl
    rw [fX7_has_L2, fX12_isBarred_L2, r1, Option.bind_some, hc, hm]
    cases k with
    | zero =>
      rw [if_pos (nI_le (by omega) (by omega)), if_pos (nI_le (by omega) (by omega))]
      exact ⟨0, Or.inl rfl, rfl, rfl⟩
    | succ k =>
      rw [if_neg (nI_ge (by omega) (by omega)), if_neg (nI_ge (by omega) (by omega)), e8, rd_nI (by omega), ladd 8 j, rd_nI (by omega), Option.bind_some, Option.bind_some, ← hi j (by omega), nI_1]
      by_cases q : Mc 48 j = z
      · rw [if_pos q, if_pos q]; exact ⟨1, Or.inr rfl, rfl, rfl⟩
      · rw [if_neg q, if_neg q]; exact g_barL hn8 hc hm hi k F (j + 1) (by omega) (by omega)
theorem g_bar {Mc Mm : Mem} (h : GaR Mc Mm) (z : Int32) : ∃ b : Int32, (b = 0 ∨ b = 1) ∧ fX7_has 47 z Mc = some b ∧ fX12_isBarred z Mm = some b := by
  obtain ⟨-, -, -, -, n, hn, h1, h2, h3⟩ := h
  have := g_barL (z := z) hn h1 h2 (fun i hi => by obtain ⟨x, -, -, x1, x2⟩ := h3 i hi; exact x1.trans x2.symm) n FU 0 (by omega) (FU_gt (by omega))
  rw [nI_0] at this
  exact this
def WiR (Mc Mm : Mem) (t : Nat) : Prop := ∀ s, s < t → (fX7_has 47 (nI s) Mc = some 0 → Mc 52 s = Mm 233 s ∧ (Mm 233 s = 0 ∨ Mm 233 s = 1)) ∧ (fX7_has 47 (nI s) Mc = some 1 → Mc 52 s = 0)
theorem g_stepL {Mc Mm : Mem} {n t s : Nat} (hG : GaR Mc Mm) (hn5 : n ≤ 5) (hc : Mc 45 0 = nI n) (hm : Mm 231 0 = nI n) (hi : ∀ i, i < n → ∃ x, 1 ≤ x ∧ x ≤ 9 ∧ Mc 46 i = nI x ∧ Mm 232 i = nI x) (hW : WiR Mc Mm t) (hst : s ≤ t) (hs : s ≤ 200) : ∀ (k F j : Nat) (y : Int32), j + k = n → k < F → ∃ r, fX10_leastStep_L4 (nI s) Mc F y (nI j) = some r ∧ fX12_goodStep_L4 (nI s) Mm F y (nI j) = some r
  | k, 0, j, y, _, h => by omega
  | k, F + 1, j, y, h1, h2 => by
    have r0 : rd Mm 231 2 0 = some (Mm 231 0) := rd_nI (j := 0) (by decide)
    rw [fX10_leastStep_L4, fX12_goodStep_L4, r0, Option.bind_some, hc, hm]
    cases k with
    | zero =>
      rw [if_pos (nI_le (by omega) (by omega)), if_pos (nI_le (by omega) (by omega))]
      exact ⟨y, rfl, rfl⟩
    | succ k =>
      obtain ⟨x, x1, x2, x3, x4⟩ := hi j (by omega)
      have ih := fun y' => g_stepL hG hn5 hc hm hi hW hst hs k F (j + 1) y' (by omega) (by omega)
      rw [if_neg (nI_ge (by omega) (by omega)), if_neg (nI_ge (by omega) (by omega)), rd_nI (by omega), rd_nI (by omega), Option.bind_some, Option.bind_some, x3, x4]
      dsimp only [jn, bnd]
      rw [nI_1 j, Option.bind_some]
      by_cases c : s < x
      · have c0 : nI s - nI x < 0 := by
          rw [fa_lt, pk_sub_toInt (by omega) (by omega)]
          have : (0 : Int32).toInt = 0 := by decide
          omega
        rw [if_pos c0, if_pos c0]; exact ih y
      rw [pk_sub (by omega)]
      have c0 : ¬ nI (s - x) < (0 : Int32) := nI_nlt (show 0 ≤ s - x by omega) (by omega)
      have c2 : ¬ (200 : Int32) < nI (s - x) := nI_nlt (show s - x ≤ 200 by omega) (by decide)
      rw [if_neg c0, if_neg c0, if_neg c2]
      obtain ⟨b, hb, b1, b2⟩ := g_bar hG (nI (s - x))
      rw [b1, b2, Option.bind_some, Option.bind_some]
      rcases hb with rfl | rfl
      · obtain ⟨w1, w2⟩ := (hW (s - x) (by omega)).1 b1
        rw [if_pos rfl, if_pos rfl, rd_nI (by omega), rd_nI (by omega), Option.bind_some, Option.bind_some, w1]
        rcases w2 with w2 | w2
        · have h01 : ¬ (0 : Int32) = 1 := by decide
          rw [w2, if_pos rfl, if_neg h01]
          by_cases d : y = -1
          · rw [if_pos d, if_pos d]; exact ih _
          · rw [if_neg d, if_neg d, Option.bind_some]
            by_cases e : y ≤ nI x
            · rw [if_pos e, if_pos e]; exact ih _
            · rw [if_neg e, if_neg e]; exact ih _
        · have h10 : ¬ (1 : Int32) = 0 := by decide
          rw [w2, if_neg h10, if_pos rfl]; exact ih _
      · rw [if_neg one_ne, if_neg one_ne]; exact ih _
theorem g_step {Mc Mm : Mem} {t s : Nat} (hG : GaR Mc Mm) (hW : WiR Mc Mm t) (hst : s ≤ t) (hs : s ≤ 200) : ∃ r, fX10_leastStep (nI s) Mc = some r ∧ fX12_goodStep (nI s) Mm = some r := by
  obtain ⟨⟨-, -, -, n, hn, h1, h2, h3⟩, -⟩ := id hG
  have := g_stepL hG hn h1 h2 h3 hW hst hs n FU 0 (-1) (by omega) (FU_gt (by omega))
  rw [nI_0] at this
  exact this
theorem GaR_mu {Mc Mm : Mem} {a b : Nat} {v w : Int32} (h : GaR Mc Mm) : GaR (mu Mc 52 a v) (mu Mm 233 b w) := by
  unfold GaR RwR at *
  simpa (disch := omega) only [mu_o] using h
theorem GaR_muc {Mc Mm : Mem} {a : Nat} {v : Int32} (h : GaR Mc Mm) : GaR (mu Mc 52 a v) Mm := by
  unfold GaR RwR at *
  simpa (disch := omega) only [mu_o] using h
theorem GaR_mum {Mc Mm : Mem} {a : Nat} {v : Int32} (h : GaR Mc Mm) : GaR Mc (mu Mm 233 a v) := by
  unfold GaR RwR at *
  simpa (disch := omega) only [mu_o] using h
theorem has_mu {Mc Mm : Mem} {a : Nat} {v : Int32} (h : GaR Mc Mm) (z : Int32) : fX7_has 47 z (mu Mc 52 a v) = fX7_has 47 z Mc := by
  obtain ⟨b, -, b1, b2⟩ := g_bar h z
  obtain ⟨b', -, b3, b4⟩ := g_bar (GaR_muc (a := a) (v := v) h) z
  rw [b3, b1, ← b4, b2]
theorem bar_mu {Mc Mm : Mem} {a : Nat} {v : Int32} (h : GaR Mc Mm) (z : Int32) : fX12_isBarred z (mu Mm 233 a v) = fX12_isBarred z Mm := by
  obtain ⟨b, -, b1, b2⟩ := g_bar h z
  obtain ⟨b', -, b3, b4⟩ := g_bar (GaR_mum (a := a) (v := v) h) z
  rw [b4, b2, ← b3, b1]
theorem g_count {K : Int32 → Option (Int32 × Mem)} {M : Mem} {N : Nat} (hN : N ≤ 200) : ∀ (k F t c : Nat), t + k = N + 1 → k < F → fX10_winningSquares_L9 K (nI N) M F (nI c) (nI t) = K (nI (c + cnt (fun s => decide (M 52 s ≠ 0)) k t))
  | k, 0, t, c, _, h => by omega
  | 0, F + 1, t, c, h1, h2 => by
    rw [fX10_winningSquares_L9, if_pos (nI_lt (by omega) (by omega))]; rfl
  | k + 1, F + 1, t, c, h1, h2 => by
    have c2 : ¬ (200 : Int32) < nI t := nI_nlt (show t ≤ 200 by omega) (by decide)
    rw [fX10_winningSquares_L9, if_neg (nI_nlt (by omega) (by omega)), if_neg c2, rd_nI (by omega), Option.bind_some, cnt]
    dsimp only [jn]
    rw [nI_1 t]
    by_cases q : M 52 t = 0
    · rw [if_pos q, g_count hN k F (t + 1) _ (by omega) (by omega), if_neg (by simp [q]), Nat.zero_add]
    · rw [if_neg q, nI_1, g_count hN k F (t + 1) _ (by omega) (by omega), if_pos (by simp [q]), Nat.add_assoc]
theorem g_work {N : Nat} (hN : N ≤ 200) : ∀ (k F t c : Nat) (Mc Mm : Mem), t + k = N + 1 → k < F → GaR Mc Mm → WiR Mc Mm t → ∃ Mc' Mm', (∀ K, fX10_workWins_L2 K (nI N) F (nI t) Mc = K Mc') ∧ (∀ s, s < t → Mc' 52 s = Mc 52 s) ∧ GaR Mc' Mm' ∧ WiR Mc' Mm' (N + 1) ∧ ∀ K, fX12_game_L34 K (nI N) F (nI c) (nI t) Mm = K (nI (c + cnt (fun s => decide (Mc' 52 s ≠ 0)) k t)) Mm'
  | k, 0, t, c, Mc, Mm, _, h, _, _ => by omega
  | 0, F + 1, t, c, Mc, Mm, h1, h2, hG, hW => by
    have q : nI N < nI t := nI_lt (by omega) (by omega)
    have e : t = N + 1 := by omega
    subst e
    exact ⟨Mc, Mm, fun K => by rw [fX10_workWins_L2, if_pos q], fun s _ => rfl, hG, hW, fun K => by rw [fX12_game_L34, if_pos q]; rfl⟩
  | k + 1, F + 1, t, c, Mc, Mm, h1, h2, hG, hW => by
    have q : ¬ nI N < nI t := nI_nlt (by omega) (by omega)
    have c2 : ¬ (200 : Int32) < nI t := nI_nlt (show t ≤ 200 by omega) (by decide)
    obtain ⟨b, hb, b1, b2⟩ := g_bar hG (nI t)
    obtain ⟨r, r1, r2⟩ := g_step hG hW (Nat.le_refl t) (by omega)
    have key : ∃ (w u : Int32) (m : Nat), (∀ K, fX10_workWins_L2 K (nI N) (F + 1) (nI t) Mc = fX10_workWins_L2 K (nI N) F (nI (t + 1)) (mu Mc 52 t w)) ∧ (∀ K, fX12_game_L34 K (nI N) (F + 1) (nI c) (nI t) Mm = fX12_game_L34 K (nI N) F (nI (c + m)) (nI (t + 1)) (mu Mm 233 t u)) ∧ (b = 0 → w = u ∧ (u = 0 ∨ u = 1)) ∧ (b = 1 → w = 0) ∧ (m = if decide (w ≠ 0) then 1 else 0) := by
      have n0 : nzb 0 = 0 := by decide
      have n1 : nzb 1 = 1 := by decide
      have cl : ∀ K, fX10_workWins_L2 K (nI N) (F + 1) (nI t) Mc = fX10_workWins_L2 K (nI N) F (nI (t + 1)) (mu Mc 52 t (if b = 0 then (if r = -1 then 0 else 1) else 0)) := fun K => by
        rw [fX10_workWins_L2, if_neg q, if_neg c2, b1, Option.bind_some]
        dsimp only [jn]
        rw [wr_nI (by omega), wr_nI (by omega), Option.bind_some, Option.bind_some, r1, Option.bind_some, nI_1 t, n0, n1]
        rcases hb with rfl | rfl
        · rw [if_pos rfl, if_pos rfl]; split <;> rfl
        · rw [if_neg one_ne, if_neg one_ne]
      have rf : ∀ K, fX12_game_L34 K (nI N) (F + 1) (nI c) (nI t) Mm = fX12_game_L34 K (nI N) F (nI (c + if b = 0 then (if r = -1 then 0 else 1) else 0)) (nI (t + 1)) (mu Mm 233 t (if r = -1 then 0 else 1)) := fun K => by
        rw [fX12_game_L34, if_neg q, r2, Option.bind_some]
        dsimp only [jn, bnd]
        rw [wr_nI (by omega), wr_nI (by omega), Option.bind_some, Option.bind_some, bar_mu hG, bar_mu hG, b2, Option.bind_some, Option.bind_some, rd_nI (by omega), rd_nI (by omega), mu_s, mu_s, Option.bind_some, Option.bind_some, nI_1 t]
        rcases hb with rfl | rfl
        · rw [if_pos rfl, if_pos rfl, if_pos rfl]
          by_cases d : r = -1
          · rw [if_pos d, if_pos d, if_pos d, addl c 0]
          · rw [if_neg d, if_neg d, if_neg d, addl c 1]
        · rw [if_neg one_ne, if_neg one_ne, if_neg one_ne, Nat.add_zero]
          by_cases d : r = -1
          · rw [if_pos d, if_pos d]; rfl
          · rw [if_neg d, if_neg d]; rfl
      refine ⟨_, _, _, cl, rf, fun e => ?_, fun e => ?_, ?_⟩
      · rw [if_pos e]
        refine ⟨rfl, ?_⟩
        by_cases d : r = -1
        · rw [if_pos d]; exact Or.inl rfl
        · rw [if_neg d]; exact Or.inr rfl
      · rw [if_neg (by rw [e]; decide)]
      · rcases hb with rfl | rfl
        · rw [if_pos rfl, if_pos rfl]
          by_cases d : r = -1
          · rw [if_pos d, if_pos d]; rfl
          · rw [if_neg d, if_neg d]; rfl
        · rw [if_neg one_ne, if_neg one_ne]; rfl
    obtain ⟨w, u, m, cl, rf, w0, w1, hm⟩ := key
    have hG' := GaR_mu (a := t) (b := t) (v := w) (w := u) hG
    have hW' : WiR (mu Mc 52 t w) (mu Mm 233 t u) (t + 1) := fun s hs => by
      rw [has_mu hG]
      by_cases e : s = t
      · subst e
        rw [mu_s, mu_s, b1]
        exact ⟨fun h => w0 (Option.some.inj h), fun h => w1 (Option.some.inj h)⟩
      · rw [mu_i e, mu_i e]
        exact hW s (by omega)
    obtain ⟨Mc', Mm', k1, k2, k3, k4, k5⟩ := g_work hN k F (t + 1) (c + m) _ _ (by omega) (by omega) hG' hW'
    refine ⟨Mc', Mm', fun K => by rw [cl, k1], fun s hs => by rw [k2 s (by omega), mu_i (by omega)], k3, k4, fun K => ?_⟩
    rw [rf, k5, cnt, hm, k2 t (by omega), mu_s, Nat.add_assoc]
theorem Sm.fr {F1 F2 : Mem → Option (Int32 × Mem)} {S1 S2 : List (Nat × Option Nat)} (w1 : ∀ M, Fr S1 rmW M (F1 M)) (w2 : ∀ M, Fr S2 rmW M (F2 M)) (d1 : dj S1 fcAll = true) (d2 : dj S2 fmAll = true) (h : ∀ Mc Mm, AR Mc Mm → ∃ r Mc' Mm', F1 Mc = some (r, Mc') ∧ F2 Mm = some (r, Mm')) : Sm F1 F2 := fun Mc Mm hA => by
  obtain ⟨r, Mc', Mm', e1, e2⟩ := h Mc Mm hA
  exact ⟨r, Mc', Mm', e1, e2, AR_c (Agr.of (w1 Mc) e1) d1 (AR_m (Agr.of (w2 Mm) e2) d2 hA)⟩
theorem s_game (p q : Int32) : Sm (fX11_game p q) (fX12_game p q) := Sm.fr (wX11_game p q) (wX12_game p q) (by decide +kernel) (by decide +kernel) fun Mc Mm hA => by
  have hG : GaR Mc (mu Mm 198 0 0) := by
    obtain ⟨⟨P, B, n, hBd, hTv, hFx, hBk, hLaw, hTw, hEv, hHe, hTo⟩, -⟩ := hA
    have h0 : GaR Mc Mm := ⟨hTo.2.2.1, hTo.2.2.2.1⟩
    unfold GaR RwR at *
    simpa (disch := omega) only [mu_o] using h0
  unfold fX11_game fX12_game
  dsimp only [bnd]
  rw [isW_isIn]
  by_cases c1 : ¬ (0 ≤ p ∧ p ≤ 200)
  · rw [isIn_no c1, if_pos rfl, if_pos rfl]; exact ⟨_, _, _, rfl, rfl⟩
  have c1 := Decidable.not_not.mp c1
  rw [isIn_yes c1, if_neg one_ne, if_neg one_ne]
  by_cases c2 : ¬ (0 ≤ q ∧ q ≤ 1)
  · rw [isIn_no c2, if_pos rfl, if_neg (fun e => c2 (by rw [e]; decide)), if_neg (fun e => c2 (by rw [e]; decide))]; exact ⟨_, _, _, rfl, rfl⟩
  have c2 := Decidable.not_not.mp c2
  rw [isIn_yes c2, if_neg one_ne]
  obtain ⟨N, hN, rfl⟩ := in_of (n := 200) (by decide) c1
  obtain ⟨j, hj, rfl⟩ := in_of (n := 1) (by decide) c2
  obtain ⟨Mc', Mm', k1, -, k3, k4, k5⟩ := g_work hN (N + 1) FU 0 0 Mc _ (by omega) (FU_gt (by omega)) hG (fun s hs => by omega)
  rw [nI_0] at k1 k5
  have k1 : fX10_workWins (nI N) Mc = some Mc' := by unfold fX10_workWins; rw [k1]
  rw [k5]
  rcases (show j = 0 ∨ j = 1 by omega) with rfl | rfl
  · obtain ⟨b, hb, b1, b2⟩ := g_bar k3 (nI N)
    obtain ⟨r, r1, r2⟩ := g_step k3 k4 (show N ≤ N + 1 by omega) hN
    have n1 : ¬ nI 0 = 1 := by decide
    rw [if_pos (by decide), if_neg n1]
    unfold fX10_winningStep
    rw [k1, Option.bind_some, b1, b2, Option.bind_some, Option.bind_some, r1, r2, Option.bind_some, Option.bind_some]
    rcases hb with rfl | rfl
    · rw [if_pos rfl, if_pos rfl]; exact ⟨_, _, _, rfl, rfl⟩
    · rw [if_neg one_ne, if_neg one_ne]; exact ⟨_, _, _, rfl, rfl⟩
  · have n1 : nI 1 = 1 := by decide
    have n0 : ¬ nI 1 = 0 := by decide
    have kc := g_count (K := fun e5 => some (e5, Mc')) (M := Mc') hN (N + 1) FU 0 0 (by omega) (FU_gt (by omega))
    rw [nI_0] at kc
    rw [if_neg n0, if_pos n1, if_pos n1]
    unfold fX10_winningSquares
    rw [k1, Option.bind_some, kc]
    exact ⟨_, _, _, rfl, rfl⟩
