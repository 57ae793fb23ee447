theorem a_dir : ∀ d, d < 4 → ((-(1 : Int32)) * aDy d = aDx ((d + 1) % 4) ∧ (1 : Int32) * aDx d = aDy ((d + 1) % 4)) ∧ ((-(-1 : Int32)) * aDy d = aDx ((d + 3) % 4) ∧ (-1 : Int32) * aDx d = aDy ((d + 3) % 4)) := by decide +kernel
theorem a_mv : ∀ x, x < 8 → ∀ d, d < 4 → (nI x + aDx d) &&& 7 = nI ((x + aOx d) % 8) ∧ (nI x + aDy d) &&& 7 = nI ((x + aOy d) % 8) := by decide +kernel
theorem aOk_of {V x y d c : Nat} (h : aOk V x y d c = true) : x < 8 ∧ y < 8 ∧ d < 4 ∧ decide (jlcmp ((jlushr (wI V) (nI (8 * y + x))) &&& 1) 0 = 0) = (!V.testBit (8 * y + x)) ∧ wI V ^^^ jlshl 1 (nI (8 * y + x)) = wI (V ^^^ 2 ^ (8 * y + x)) ∧ fJ13_bitCount_95d88 (wI V) = nI c ∧ c < 100 ∧ (V.testBit (8 * y + x) = true → 1 ≤ c) := by
  unfold aOk at h
  rw [Bool.and_eq_true, Bool.and_eq_true, Bool.and_eq_true, Bool.and_eq_true, Bool.and_eq_true, Bool.and_eq_true, Bool.and_eq_true] at h
  obtain ⟨h1, h2, h3, h4, h5, h6, h7, h8⟩ := h
  refine ⟨of_decide_eq_true h1, of_decide_eq_true h2, of_decide_eq_true h3, of_decide_eq_true h4, of_decide_eq_true h5, of_decide_eq_true h6, of_decide_eq_true h7, fun q => ?_⟩
  rw [q] at h8
  exact of_decide_eq_true h8
theorem aChk_s : ∀ k V x y d c, aChk (k + 1) V x y d c = true → aChk k V x y d c = true
  | 0, V, x, y, d, c, h => by
    rw [aChk, Bool.and_eq_true] at h
    exact h.1
  | k + 1, V, x, y, d, c, h => by
    rw [aChk, Bool.and_eq_true] at h
    rw [aChk, Bool.and_eq_true]
    exact ⟨h.1, aChk_s k _ _ _ _ _ h.2⟩
theorem aChk_le {V x y d c : Nat} : ∀ m k, aChk (k + m) V x y d c = true → aChk k V x y d c = true
  | 0, _, h => h
  | m + 1, k, h => aChk_le m k (aChk_s _ _ _ _ _ _ h)
theorem a_zero : ∀ (k F j : Nat) (M : Mem), j + k = 64 → k < F → (∀ i, i < j → M 228 i = 0) → ∃ M', (∀ K, fX12_ant_L31 K F (nI j) M = K M') ∧ ∀ i, i < 64 → M' 228 i = 0
  | k, 0, j, M, _, h, _ => by omega
  | 0, F + 1, j, M, h1, h2, h3 => by
    have c : (64 : Int32) ≤ nI j := nI_le (show 64 ≤ j by omega) (by omega)
    exact ⟨M, fun K => by rw [fX12_ant_L31, if_pos c], fun i hi => h3 i (by omega)⟩
  | k + 1, F + 1, j, M, h1, h2, h3 => by
    have c : ¬ (64 : Int32) ≤ nI j := nI_ge (show j < 64 by omega) (by decide)
    obtain ⟨M', e1, e2⟩ := a_zero k F (j + 1) (mu M 228 j 0) (by omega) (by omega) (fun i hi => by
      by_cases d : i = j
      · subst d; exact mu_s
      · rw [mu_i (by omega)]; exact h3 i (by omega))
    exact ⟨M', fun K => by rw [fX12_ant_L31, if_neg c, wr_nI (by omega), Option.bind_some, nI_1, e1], e2⟩
theorem a_cl {N : Nat} (hN : N ≤ 300) {K : Int64 → Int32 → Int32 → Option Int32} {F t V x y d c : Nat} (ht : t < N) (h : aOk V x y d c = true) : fX5_antWalk_L17 K (nI N) (F + 1) (wI V) (nI x) (nI y) (aDx d) (aDy d) (nI t) = fX5_antWalk_L17 K (nI N) F (wI (V ^^^ 2 ^ (8 * y + x))) (nI ((x + aOx (aD V (8 * y + x) d)) % 8)) (nI ((y + aOy (aD V (8 * y + x) d)) % 8)) (aDx (aD V (8 * y + x) d)) (aDy (aD V (8 * y + x) d)) (nI (t + 1)) := by
  obtain ⟨hx, hy, hd, h4, h5, h6, h7, h8⟩ := aOk_of h
  obtain ⟨⟨d1, d2⟩, d3, d4⟩ := a_dir d hd
  rw [fX5_antWalk_L17, if_neg (nI_ge ht (by omega))]
  dsimp only [jn, bnd]
  rw [lmul 8 y, nI_add, h5, nI_1 t]
  unfold aD
  cases hb : V.testBit (8 * y + x) with
  | false =>
    rw [hb] at h4
    rw [if_pos (of_decide_eq_true h4), d1, d2, if_neg (by decide), (a_mv x hx _ (by omega)).1, (a_mv y hy _ (by omega)).2]
  | true =>
    rw [hb] at h4
    rw [if_neg (of_decide_eq_false h4), d3, d4, if_pos rfl, (a_mv x hx _ (by omega)).1, (a_mv y hy _ (by omega)).2]
theorem a_ox : ∀ d, d < 4 → (∀ (α : Type) (J : Int32 → α), (if nI d = 1 then J 1 else if nI d = 3 then J 7 else J 0) = J (nI (aOx d))) ∧ ∀ (α : Type) (J : Int32 → α), (if nI d = 2 then J 1 else if nI d = 0 then J 7 else J 0) = J (nI (aOy d)) := fun d hd => by
  rcases (show d = 0 ∨ d = 1 ∨ d = 2 ∨ d = 3 by omega) with rfl | rfl | rfl | rfl <;> exact ⟨fun α J => rfl, fun α J => rfl⟩
theorem a_rf {N : Nat} (hN : N ≤ 300) {K : Int32 → Int32 → Int32 → Mem → Option (Int32 × Mem)} {F t V x y d c : Nat} {M : Mem} (hM : ∀ i, i < 64 → M 228 i = nI (if V.testBit i then 1 else 0)) (ht : t < N) (h : aOk V x y d c = true) : fX12_ant_L64 K (nI N) (F + 1) (nI x) (nI y) (nI d) (nI c) (nI t) M = fX12_ant_L64 K (nI N) F (nI ((x + aOx (aD V (8 * y + x) d)) % 8)) (nI ((y + aOy (aD V (8 * y + x) d)) % 8)) (nI (aD V (8 * y + x) d)) (nI (aC V (8 * y + x) c)) (nI (t + 1)) (mu M 228 (8 * y + x) (nI (if V.testBit (8 * y + x) then 0 else 1))) := by
  obtain ⟨hx, hy, hd, h4, h5, h6, h7, h8⟩ := aOk_of h
  have hr := hM (8 * y + x) (by omega)
  have l4 : (4 : Int32) = nI 4 := rfl
  have l8 : (8 : Int32) = nI 8 := rfl
  rw [fX12_ant_L64, if_neg (nI_ge ht (by omega))]
  dsimp only [jn, bnd]
  rw [lmul 8 y, nI_add, rd_nI (by omega), Option.bind_some, hr, Option.bind_some, Option.bind_some, nI_1 t]
  have ho : aOx (aD V (8 * y + x) d) ≤ 7 ∧ aOy (aD V (8 * y + x) d) ≤ 7 := by
    unfold aOx aOy
    constructor <;> (repeat' split) <;> omega
  have hd' : aD V (8 * y + x) d < 4 := Nat.mod_lt _ (by omega)
  obtain ⟨o1, o2⟩ := a_ox _ hd'
  have m1 : ∀ a b, a < 8 → b ≤ 7 → jrem (nI a + nI b) 8 = nI ((a + b) % 8) := fun a b ha hb => by
    unfold jrem; rw [nI_add, l8, pk_rem (by omega) (by decide) (by decide)]
  have fin : ∀ (w cc : Int32), w = nI (aD V (8 * y + x) d) → cc = nI (aC V (8 * y + x) c) → ∀ (M1 : Mem), (if w = 1 then (if w = 2 then fX12_ant_L64 K (nI N) F (jrem (nI x + 1) 8) (jrem (nI y + 1) 8) w cc (nI (t + 1)) M1 else if w = 0 then fX12_ant_L64 K (nI N) F (jrem (nI x + 1) 8) (jrem (nI y + 7) 8) w cc (nI (t + 1)) M1 else fX12_ant_L64 K (nI N) F (jrem (nI x + 1) 8) (jrem (nI y + 0) 8) w cc (nI (t + 1)) M1) else if w = 3 then (if w = 2 then fX12_ant_L64 K (nI N) F (jrem (nI x + 7) 8) (jrem (nI y + 1) 8) w cc (nI (t + 1)) M1 else if w = 0 then fX12_ant_L64 K (nI N) F (jrem (nI x + 7) 8) (jrem (nI y + 7) 8) w cc (nI (t + 1)) M1 else fX12_ant_L64 K (nI N) F (jrem (nI x + 7) 8) (jrem (nI y + 0) 8) w cc (nI (t + 1)) M1) else (if w = 2 then fX12_ant_L64 K (nI N) F (jrem (nI x + 0) 8) (jrem (nI y + 1) 8) w cc (nI (t + 1)) M1 else if w = 0 then fX12_ant_L64 K (nI N) F (jrem (nI x + 0) 8) (jrem (nI y + 7) 8) w cc (nI (t + 1)) M1 else fX12_ant_L64 K (nI N) F (jrem (nI x + 0) 8) (jrem (nI y + 0) 8) w cc (nI (t + 1)) M1)) = fX12_ant_L64 K (nI N) F (nI ((x + aOx (aD V (8 * y + x) d)) % 8)) (nI ((y + aOy (aD V (8 * y + x) d)) % 8)) (nI (aD V (8 * y + x) d)) (nI (aC V (8 * y + x) c)) (nI (t + 1)) M1 := fun w cc hw hc M1 => by
    subst hw hc
    rw [← m1 x _ hx ho.1, ← m1 y _ hy ho.2]
    rw [← o1 _ (fun a => fX12_ant_L64 K (nI N) F (jrem (nI x + a) 8) (jrem (nI y + nI (aOy (aD V (8 * y + x) d))) 8) (nI (aD V (8 * y + x) d)) (nI (aC V (8 * y + x) c)) (nI (t + 1)) M1)]
    have o3 := fun xx => o2 _ (fun a => fX12_ant_L64 K (nI N) F xx (jrem (nI y + a) 8) (nI (aD V (8 * y + x) d)) (nI (aC V (8 * y + x) c)) (nI (t + 1)) M1)
    try dsimp only at o3
    try dsimp only
    rw [o3, o3, o3]
  cases hb : V.testBit (8 * y + x) with
  | false =>
    rw [hb] at hr
    have hf : ¬ (false = true) := by decide
    rw [if_neg hf, if_neg hf, if_pos (by decide), show (1 : Int32) - nI 0 = nI 1 by decide, wr_nI (by omega), Option.bind_some, rd_nI (by omega), mu_s, Option.bind_some]
    refine fin _ _ ?_ ?_ _
    · unfold jrem aD; rw [hb, if_neg (by decide), nI_1, l4, pk_rem (by omega) (by decide) (by decide)]
    · unfold aC; rw [hb, if_neg (by decide), show (2 : Int32) * nI 1 = nI 2 by decide, nI_add, nI_sub1 (by omega)]; rfl
  | true =>
    rw [hb] at hr
    have hc1 := h8 hb
    rw [if_pos rfl, if_neg (by decide), if_pos rfl, show (1 : Int32) - nI 1 = nI 0 by decide, wr_nI (by omega), Option.bind_some, rd_nI (by omega), mu_s, Option.bind_some]
    refine fin _ _ ?_ ?_ _
    · unfold jrem aD; rw [hb, if_pos rfl, addl d 3, l4, pk_rem (by omega) (by decide) (by decide)]
    · unfold aC; rw [hb, if_pos rfl, show (2 : Int32) * nI 0 = nI 0 by decide, nI_add, Nat.add_zero, nI_sub1 (by omega)]
