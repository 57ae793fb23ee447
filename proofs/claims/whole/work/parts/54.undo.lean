/-! ===== undo ===== -/
theorem u_L26 {m : Nat} (hm : m < 6) : ∀ (k F j : Nat) (M : Mem), j + k = 83 → k < F → M 198 3 = nI m → ∃ M', fX12_undo_L26 F (nI j) M = some (1, M') ∧ (∀ i, i < j → M' 199 i = M 199 i) ∧ (∀ i, j ≤ i → i < 83 → M' 199 i = M 200 (83 * m + i)) ∧ ∀ x, x ≠ 199 → M' x = M x
  | k, 0, j, M, _, h, _ => by omega
  | 0, F + 1, j, M, h1, h2, h3 => by
    have c : (83 : Int32) ≤ nI j := nI_le (show 83 ≤ j by omega) (by omega)
    exact ⟨M, by rw [fX12_undo_L26, if_pos c], fun i _ => rfl, fun i a b => by omega, fun x _ => rfl⟩
  | k + 1, F + 1, j, M, h1, h2, h3 => by
    have c : ¬ (83 : Int32) ≤ nI j := nI_ge (show j < 83 by omega) (by decide)
    obtain ⟨M', e1, e2, e3, e4⟩ := u_L26 hm k F (j + 1) (mu M 199 j (M 200 (83 * m + j))) (by omega) (by omega) (by rw [mu_o (by omega)]; exact h3)
    refine ⟨M', ?_, fun i hi => ?_, fun i a b => ?_, fun x hx => ?_⟩
    · rw [fX12_undo_L26, if_neg c, h3, lmul 83 m, nI_add, rd_nI (by omega), Option.bind_some, wr_nI (by omega), Option.bind_some, nI_1, e1]
    · rw [e2 i (by omega), mu_i (by omega)]
    · by_cases d : i = j
      · subst d; rw [e2 i (by omega), mu_s]
      · rw [e3 i (by omega) b, mu_o (by omega)]
    · rw [e4 x hx, mu_c hx]
