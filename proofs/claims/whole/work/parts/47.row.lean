/-! ===== row ===== -/
theorem and1 (w : Int32) : w &&& 1 = 0 ∨ w &&& 1 = 1 := by
  have h : (w &&& 1).toBitVec.toNat = w.toBitVec.toNat % 2 := by
    show (w.toBitVec &&& 1#32).toNat = _
    rw [BitVec.toNat_and]
    exact Nat.and_one_is_mod _
  rcases Nat.mod_two_eq_zero_or_one w.toBitVec.toNat with q | q
  · left
    refine Int32.toBitVec_inj.mp (BitVec.eq_of_toNat_eq ?_)
    rw [h, q]; rfl
  · right
    refine Int32.toBitVec_inj.mp (BitVec.eq_of_toNat_eq ?_)
    rw [h, q]; rfl
theorem shl0_nI : ∀ n, n < 31 → jshl 0 (nI n) = 0 := by decide +kernel
theorem or_0 (w : Int32) : w ||| 0 = w := by
  refine Int32.toBitVec_inj.mp (BitVec.eq_of_toNat_eq ?_)
  show (w.toBitVec ||| 0#32).toNat = _
  rw [BitVec.toNat_or]
  exact Nat.or_zero _
theorem or_nI {A j : Nat} (h : A < 2 ^ j) (hj : j < 31) : nI A ||| jshl 1 (nI j) = nI (A + 2 ^ j) := by
  rw [shl1_nI j hj, fa_or]
  congr 1
  rw [Nat.or_comm, Nat.add_comm]
  have := Nat.two_pow_add_eq_or_of_lt h 1
  rw [Nat.mul_one] at this
  exact this.symm
theorem row1 {z0 z1 : Int32} : ∀ (k F j A : Nat), j + k = 16 → k < F → A < 2 ^ j → ∃ x, x < 65536 ∧ fX5_nextRow_L4 z0 z1 F (nI A) (nI j) = some (nI x) ∧ ∀ K M z2, jrem z2 256 = z1 → fX12_row_L63 K z2 z0 M F (nI A) (nI j) = K (nI x)
  | k, 0, j, A, _, h, _ => by omega
  | 0, F + 1, j, A, h1, h2, h3 => by
    have hj : j = 16 := by omega
    subst hj
    refine ⟨A, by simpa using h3, ?_, fun K M z2 hz => ?_⟩
    · rw [fX5_nextRow_L4, if_pos (by decide)]
    · rw [fX12_row_L63, if_pos (by decide)]
  | k + 1, F + 1, j, A, h1, h2, h3 => by
    have c16 : ¬ (16 : Int32) ≤ nI j := nI_ge (show j < 16 by omega) (by decide)
    have e15 : nI j + 16 - 1 = nI j + 15 := by
      rw [addl j 16, addl j 15, nI_sub1 (by omega)]; rfl
    have step : ∀ w : Int32, (w = 0 ∨ w = 1) → ∃ A', A' < 2 ^ (j + 1) ∧ nI A ||| jshl w (nI j) = nI A' ∧ (w = 0 → A' = A) := fun w hw => by
      rw [Nat.pow_succ]
      rcases hw with rfl | rfl
      · exact ⟨A, by omega, by rw [shl0_nI j (by omega), or_0], fun _ => rfl⟩
      · exact ⟨A + 2 ^ j, by omega, or_nI h3 (by omega), fun q => absurd q (by decide)⟩
    generalize hx3 : 4 * (jshr z0 (jrem (nI j + 1) 16) &&& 1) + 2 * (jshr z0 (nI j) &&& 1) + (jshr z0 (jrem (nI j + 15) 16) &&& 1) = x3
    obtain ⟨A', a1, a2, a3⟩ := step _ (and1 (jshr z1 x3))
    obtain ⟨x, x1, x2, x4⟩ := row1 (z0 := z0) (z1 := z1) k F (j + 1) A' (by omega) (by omega) a1
    refine ⟨x, x1, ?_, fun K M z2 hz => ?_⟩
    · rw [fX5_nextRow_L4, if_neg c16]
      dsimp only [bnd]
      rw [e15, hx3, a2, nI_1, x2]
    · rw [fX12_row_L63, if_neg c16]
      dsimp only [bnd, jn]
      rw [hx3, hz, nI_1]
      unfold fX12_has
      rcases and1 (jshr z1 x3) with q | q
      · rw [if_pos (by rw [q]; decide), ← a3 q, x4 K M z2 hz]
      · rw [if_neg (by rw [q]; decide)]
        rw [q] at a2
        rw [a2, x4 K M z2 hz]
theorem row2 {z2 : Int32} {N : Nat} (hN : z2 / 256 = nI N) (hN2 : N ≤ 30) : ∀ (k F j x : Nat), j + k = N → k < F → x < 65536 → ∃ x', x' < 65536 ∧ (∀ K, fX11_row_L39 K z2 F (nI x) (nI j) = K (nI x')) ∧ ∀ K M, fX12_row_L47 K z2 M F (nI x) (nI j) = K (nI x')
  | k, 0, j, x, _, h, _ => by omega
  | 0, F + 1, j, x, h1, h2, h3 => by
    have c : z2 / 256 ≤ nI j := by rw [hN]; exact nI_le (by omega) (by omega)
    refine ⟨x, h3, fun K => ?_, fun K M => ?_⟩
    · rw [fX11_row_L39, if_pos c]
    · rw [fX12_row_L47, if_pos c]
  | k + 1, F + 1, j, x, h1, h2, h3 => by
    have c : ¬ z2 / 256 ≤ nI j := by rw [hN]; exact nI_ge (by omega) (by omega)
    obtain ⟨y, y1, y2, y3⟩ := row1 (z0 := nI x) (z1 := jrem z2 256) 16 FU 0 0 (by omega) (FU_gt (by omega)) (by decide)
    obtain ⟨x', x1, x2, x4⟩ := row2 hN hN2 k F (j + 1) y (by omega) (by omega) y1
    rw [nI_0] at y2 y3
    refine ⟨x', x1, fun K => ?_, fun K M => ?_⟩
    · rw [fX11_row_L39, if_neg c, fX5_nextRow, y2, Option.bind_some, nI_1, x2]
    · rw [fX12_row_L47, if_neg c, y3 _ _ _ rfl, nI_1, x4]
theorem s_row (p q w : Int32) : SmP (fun _ => fX11_row p q w) (fX12_row p q w) := SmP.told fun Mc Mm h => by
  unfold fX11_row fX12_row
  dsimp only [bnd]
  rw [isW_isIn]
  by_cases c1 : ¬ (0 ≤ p ∧ p ≤ 65535)
  · rw [isIn_no c1, if_pos rfl, if_pos rfl]; exact ⟨_, rfl, rfl⟩
  have c1 := Decidable.not_not.mp c1
  rw [isIn_yes c1, if_neg one_ne, if_neg one_ne]
  by_cases c2 : ¬ (0 ≤ q ∧ q ≤ 7935)
  · rw [isIn_no c2, if_pos rfl, if_pos rfl]; exact ⟨_, rfl, rfl⟩
  have c2 := Decidable.not_not.mp c2
  rw [isIn_yes c2, if_neg one_ne, if_neg one_ne]
  by_cases c3 : ¬ (0 ≤ w ∧ w ≤ 1)
  · rw [isIn_no c3, if_pos rfl, if_pos rfl]; exact ⟨_, rfl, rfl⟩
  have c3 := Decidable.not_not.mp c3
  rw [isIn_yes c3, if_neg one_ne, if_neg one_ne]
  obtain ⟨x, hx, rfl⟩ := in_of (n := 65535) (by decide) c1
  obtain ⟨y, hy, rfl⟩ := in_of (n := 7935) (by decide) c2
  have hN : nI y / 256 = nI (y / 256) := pk_div (by omega) (by decide) (by decide)
  obtain ⟨x', x1, x2, x3⟩ := row2 hN (by omega) (y / 256) FU 0 x (by omega) (FU_gt (by omega)) (by omega)
  rw [nI_0] at x2 x3
  rw [x2, x3]
  by_cases e : w = 0
  · rw [if_pos e, if_pos e]; exact ⟨_, rfl, rfl⟩
  · rw [if_neg e, if_neg e, ones_bc x1]; exact ⟨_, rfl, rfl⟩
