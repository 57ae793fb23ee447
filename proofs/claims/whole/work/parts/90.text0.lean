/-! ===== text: the law is taken ===== -/
section TEXT0
theorem tl_1 {n : Nat} (hn : n ≤ 16) : ∀ (k F l : Nat) (M : Mem), l + k = n → k < F → M 198 26 = 0 → ∃ M', (∀ K, fX12_takesLaw_L2 K (nI n) F (nI l) M = K M') ∧ (∀ a i, a = 209 ∨ a = 210 ∨ a = 211 ∨ a = 212 → l ≤ i → i < n → M' a i = M a (32 + i)) ∧ ∀ a i, ¬ ((a = 209 ∨ a = 210 ∨ a = 211 ∨ a = 212) ∧ l ≤ i ∧ i < n) → M' a i = M a i
  | _, 0, _, _, _, h, _ => absurd h (by omega)
  | 0, F + 1, l, M, h1, h2, h3 => by
    refine ⟨M, fun K => ?_, fun a i _ q1 q2 => absurd q2 (by omega), fun _ _ _ => rfl⟩
    rw [fX12_takesLaw_L2, if_pos (show nI n ≤ nI l from nI_le (by omega) (by omega))]
  | k + 1, F + 1, l, M, h1, h2, h3 => by
    obtain ⟨M1, hM1⟩ : ∃ M1, M1 = mu (mu (mu (mu M 209 l (M 209 (32 + l))) 210 l (M 210 (32 + l))) 211 l (M 211 (32 + l))) 212 l (M 212 (32 + l)) := ⟨_, rfl⟩
    have o : ∀ a i, ¬ ((a = 209 ∨ a = 210 ∨ a = 211 ∨ a = 212) ∧ i = l) → M1 a i = M a i := fun a i q => by
      have s : ∀ (M : Mem) (a' : Nat) (v : Int32), (a' = 209 ∨ a' = 210 ∨ a' = 211 ∨ a' = 212) → mu M a' l v a i = M a i := fun M a' v qa => by
        by_cases w : a = a'
        · subst w; exact mu_i (fun w => q ⟨qa, w⟩)
        · exact mu_o w
      rw [hM1, s _ _ _ (by omega), s _ _ _ (by omega), s _ _ _ (by omega), s _ _ _ (by omega)]
    have v : ∀ a, (a = 209 ∨ a = 210 ∨ a = 211 ∨ a = 212) → M1 a l = M a (32 + l) := fun a q => by
      rw [hM1]
      rcases q with rfl | rfl | rfl | rfl
      · rw [mu_o (by omega), mu_o (by omega), mu_o (by omega), mu_s]
      · rw [mu_o (by omega), mu_o (by omega), mu_s]
      · rw [mu_o (by omega), mu_s]
      · rw [mu_s]
    obtain ⟨M', a1, a2, a3⟩ := tl_1 hn k F (l + 1) M1 (by omega) (by omega) (by rw [o 198 26 (by omega)]; exact h3)
    refine ⟨M', fun K => ?_, fun a i q q1 q2 => ?_, fun a i q => ?_⟩
    · have e1 : ∀ j : Nat, (32 : Int32) + nI j = nI (32 + j) := fun j => nI_add 32 j
      have e2 : (16 * (0 : Int32)) + nI l = nI l := by
        show nI 0 + nI l = nI l
        rw [nI_add, Nat.zero_add]
      rw [fX12_takesLaw_L2, if_neg (show ¬ nI n ≤ nI l from nI_ge (by omega) (by omega)), e1, rd_nI (by omega), Option.bind_some, h3, e2, wr_nI (by omega), Option.bind_some, rd_nI (by omega), Option.bind_some, mu_o (by omega), mu_o (by omega), h3, e2, wr_nI (by omega), Option.bind_some, rd_nI (by omega), Option.bind_some, mu_o (by omega), mu_o (by omega), mu_o (by omega), mu_o (by omega), h3, e2, wr_nI (by omega), Option.bind_some, rd_nI (by omega), Option.bind_some, mu_o (by omega), mu_o (by omega), mu_o (by omega), mu_o (by omega), mu_o (by omega), mu_o (by omega), h3, e2, wr_nI (by omega), Option.bind_some, nI_1, ← hM1]
      exact a1 K
    · by_cases w : i = l
      · subst w; rw [a3 a i (by omega), v a q]
      · rw [a2 a i q (by omega) q2, o a (32 + i) (by omega)]
    · rw [a3 a i (by omega), o a i (by omega)]
theorem tl_2 {z : Nat} (hz : z ≤ 400) : ∀ (k F l : Nat) (M : Mem), l + k = z → k < F → M 198 26 = 0 → M 198 27 = nI z → ∃ M', (∀ K, fX12_takesLaw_L107 K F (nI l) M = K M') ∧ (∀ a i, a = 213 ∨ a = 214 → l ≤ i → i < z → M' a i = M a (800 + i)) ∧ ∀ a i, ¬ ((a = 213 ∨ a = 214) ∧ l ≤ i ∧ i < z) → M' a i = M a i
  | _, 0, _, _, _, h, _, _ => absurd h (by omega)
  | 0, F + 1, l, M, h1, h2, h3, h4 => by
    refine ⟨M, fun K => ?_, fun a i _ q1 q2 => absurd q2 (by omega), fun _ _ _ => rfl⟩
    rw [fX12_takesLaw_L107, h4, if_pos (show nI z ≤ nI l from nI_le (by omega) (by omega))]
  | k + 1, F + 1, l, M, h1, h2, h3, h4 => by
    obtain ⟨M1, hM1⟩ : ∃ M1, M1 = mu (mu M 213 l (M 213 (800 + l))) 214 l (M 214 (800 + l)) := ⟨_, rfl⟩
    have o : ∀ a i, ¬ ((a = 213 ∨ a = 214) ∧ i = l) → M1 a i = M a i := fun a i q => by
      have s : ∀ (M : Mem) (a' : Nat) (v : Int32), (a' = 213 ∨ a' = 214) → mu M a' l v a i = M a i := fun M a' v qa => by
        by_cases w : a = a'
        · subst w; exact mu_i (fun w => q ⟨qa, w⟩)
        · exact mu_o w
      rw [hM1, s _ _ _ (by omega), s _ _ _ (by omega)]
    have v : ∀ a, (a = 213 ∨ a = 214) → M1 a l = M a (800 + l) := fun a q => by
      rw [hM1]
      rcases q with rfl | rfl
      · rw [mu_o (by omega), mu_s]
      · rw [mu_s]
    obtain ⟨M', a1, a2, a3⟩ := tl_2 hz k F (l + 1) M1 (by omega) (by omega) (by rw [o 198 26 (by omega)]; exact h3) (by rw [o 198 27 (by omega)]; exact h4)
    refine ⟨M', fun K => ?_, fun a i q q1 q2 => ?_, fun a i q => ?_⟩
    · have e1 : ∀ j : Nat, (800 : Int32) + nI j = nI (800 + j) := fun j => nI_add 800 j
      have e2 : (400 * (0 : Int32)) + nI l = nI l := by
        show nI 0 + nI l = nI l
        rw [nI_add, Nat.zero_add]
      rw [fX12_takesLaw_L107, h4, if_neg (show ¬ nI z ≤ nI l from nI_ge (by omega) (by omega)), e1, rd_nI (by omega), Option.bind_some, h3, e2, wr_nI (by omega), Option.bind_some, rd_nI (by omega), Option.bind_some, mu_o (by omega), mu_o (by omega), h3, e2, wr_nI (by omega), Option.bind_some, nI_1, ← hM1]
      exact a1 K
    · by_cases w : i = l
      · subst w; rw [a3 a i (by omega), v a q]
      · rw [a2 a i q (by omega) q2, o a (800 + i) (by omega)]
    · rw [a3 a i (by omega), o a i (by omega)]
theorem takes_law {n z : Nat} {M : Mem} (hn : n ≤ 16) (hz : z ≤ 400) (h6 : M 198 26 = 0) (h7 : M 198 27 = nI z) : ∃ M', fX12_takesLaw (nI n) M = some M' ∧ M' 208 0 = nI n ∧ (∀ a i, a = 209 ∨ a = 210 ∨ a = 211 ∨ a = 212 → i < n → M' a i = M a (32 + i)) ∧ ∀ a i, a = 213 ∨ a = 214 → i < z → M' a i = M a (800 + i) := by
  obtain ⟨M1, a1, a2, a3⟩ := tl_1 hn n FU 0 M (by omega) (FU_gt (by omega)) h6
  obtain ⟨M2, b1, b2, b3⟩ := tl_2 hz z FU 0 M1 (by omega) (FU_gt (by omega)) (by rw [a3 198 26 (by omega)]; exact h6) (by rw [a3 198 27 (by omega)]; exact h7)
  have z0 : nI 0 = (0 : Int32) := rfl
  refine ⟨mu M2 208 0 (nI n), ?_, mu_s, fun a i q hi => ?_, fun a i q hi => ?_⟩
  · have h62 : M2 198 26 = nI 0 := by rw [b3 198 26 (by omega), a3 198 26 (by omega)]; exact h6
    unfold fX12_takesLaw
    rw [← z0, a1]
    rw [b1, h62, wr_nI (by omega), Option.bind_some]
  · rw [mu_o (by omega), b3 a i (by omega), a2 a i q (by omega) hi]
  · rw [mu_o (by omega), b2 a i q (by omega) hi, a3 a (800 + i) (by omega)]
theorem LawR_new {n z : Nat} {Mc Mm Mc' Mm' : Mem} (hn : n ≤ 16) (hz : z ≤ 400) (c0 : Mc 181 0 = nI n) (c1 : Mc 181 1 = nI z) (hcd : ∀ j, j < z → cdR (Mc 186 j) (Mm 213 (800 + j)) (Mm 214 (800 + j))) (hl : LnR n z Mc Mm)
    (d0 : Mc' 17 0 = Mc 181 0) (d1 : Mc' 17 1 = Mc 181 1) (dl : ∀ i, i < 16 → Mc' 18 i = Mc 182 i ∧ Mc' 19 i = Mc 183 i ∧ Mc' 20 i = Mc 184 i ∧ Mc' 21 i = Mc 185 i) (dc : ∀ i, i < 400 → Mc' 22 i = Mc 186 i)
    (m0 : Mm' 208 0 = nI n) (ml : ∀ a i, a = 209 ∨ a = 210 ∨ a = 211 ∨ a = 212 → i < n → Mm' a i = Mm a (32 + i)) (mc : ∀ a i, a = 213 ∨ a = 214 → i < z → Mm' a i = Mm a (800 + i)) : LawR Mc' 17 Mm' := by
  refine ⟨n, z, hn, hz, d0.trans c0, m0, d1.trans c1, fun i hi => ?_, fun l hll => ?_⟩
  · show cdR (Mc' 22 i) _ _
    rw [dc i (by omega), mc 213 i (by omega) hi, mc 214 i (by omega) hi]; exact hcd i hi
  · obtain ⟨w, e, b, t, a1, a2, a3, a4, ⟨b1, b2, b3, b4, b5, b6, b7, b8⟩, a6, a7⟩ := hl l hll
    obtain ⟨f1, f2, f3, f4⟩ := dl l (by omega)
    have tc : ∀ i n, i + n ≤ z → tck (Mm' 213) (Mm' 214) i n [] = tck (dop Mm) (dar Mm) i n [] := fun i n q => tck_congr n i [] fun j hj => ⟨mc 213 j (by omega) (by omega), mc 214 j (by omega) (by omega)⟩
    refine ⟨w, e, b, t, a1, a2, a3, a4, f1.trans b1, (ml 209 l (by omega) hll).trans b2, f2.trans b3, (ml 210 l (by omega) hll).trans b4, f3.trans b5, (ml 211 l (by omega) hll).trans b6, f4.trans b7, (ml 212 l (by omega) hll).trans b8, ?_, fun x => ?_⟩
    · rw [tc e (b - e) (by omega)]; exact a6
    · rw [tc b (t - b) (by omega)]; exact a7 x
end TEXT0
