/-! ===== own: both walks ===== -/
theorem diff_kap {v : Nat} (hv : v < 10000) : fX5_ownDifference (nI v) = some (nI (kap v)) := by
  rw [ownDiff_nI hv, pk_sub (kap_of v).1]; rfl
theorem ownOf_kap {v : Nat} (hv : v < 10000) (M : Mem) : ∃ M', fX12_ownOf (nI v) M = some (nI (kap v), M') := by
  obtain ⟨M', e⟩ := ownOf_nI hv M
  rw [pk_sub (kap_of v).1] at e
  exact ⟨M', e⟩
theorem jmax_nI {a b : Nat} (ha : a < 2 ^ 31) (hb : b < 2 ^ 31) : jmax (nI a) (nI b) = nI (max a b) := by
  unfold jmax
  by_cases h : a < b
  · rw [if_pos (nI_lt h hb), Nat.max_eq_right (by omega)]
  · rw [if_neg (nI_nlt (by omega) ha), Nat.max_eq_left (by omega)]
theorem greater_nI {a b : Nat} (ha : a < 2 ^ 31) (hb : b < 2 ^ 31) : fX12_greater (nI a) (nI b) = nI (max a b) := by
  unfold fX12_greater
  by_cases h : a ≤ b
  · rw [if_pos (nI_le h hb), Nat.max_eq_right (by omega)]
  · rw [if_neg (nI_ge (by omega) ha), Nat.max_eq_left (by omega)]
theorem kap_0 : kap 0 = 0 := by decide +kernel
theorem o_zero {K49 : Int32 → Option Int32} {K27 : Int32 → Int32 → Option Int32} : ∀ (k F m t : Nat), t + k = 21 → k < F → m < 10000 → fX5_ownDifferences_L7 K49 K27 F (nI 0) (nI m) (nI t) = K49 (nI m)
  | k, 0, m, t, _, h, _ => by omega
  | 0, F + 1, m, t, h1, h2, h3 => by
    have c : (20 : Int32) < nI t := nI_lt (show 20 < t by omega) (by omega)
    rw [fX5_ownDifferences_L7, if_pos c]
  | k + 1, F + 1, m, t, h1, h2, h3 => by
    have c : ¬ (20 : Int32) < nI t := nI_nlt (show t ≤ 20 by omega) (by decide)
    rw [fX5_ownDifferences_L7, if_neg c]
    dsimp only [bnd]
    rw [if_neg (by decide), diff_kap (by omega), kap_0, Option.bind_some, jmax_nI (by omega) (by omega), nI_1, show max m 0 = m by omega]
    exact o_zero k F m (t + 1) (by omega) (by omega) h3
theorem o_walk : ∀ (f F v mc t : Nat), gok f v = true → v < 10000 → mc < 10000 → t + f ≤ 8 → 24 < F + t → ∃ mx t' : Nat,
    ((∀ K49 K27, fX5_ownDifferences_L7 K49 K27 F (nI v) (nI mc) (nI t) = K27 (nI mx) (nI t')) ∧ ∀ M, ∃ M', ∀ K, fX12_own_L37 K F (nI v) (nI (max mc v)) (nI t) M = K 6174 (nI mx) (nI t') M') ∨
    ((∀ K49 K27, fX5_ownDifferences_L7 K49 K27 F (nI v) (nI mc) (nI t) = K49 (nI mx)) ∧ ∀ M, ∃ M', ∀ K, fX12_own_L37 K F (nI v) (nI (max mc v)) (nI t) M = K 0 (nI mx) (nI t') M')
  | f, 0, v, mc, t, _, _, _, h1, h2 => by omega
  | f, F + 1, v, mc, t, hg, hv, hm, h1, h2 => by
    have c : ¬ (20 : Int32) < nI t := nI_nlt (show t ≤ 20 by omega) (by decide)
    by_cases a : v = 6174
    · subst a
      refine ⟨max mc 6174, t, Or.inl ⟨fun K49 K27 => ?_, fun M => ⟨M, fun K => ?_⟩⟩⟩
      · rw [fX5_ownDifferences_L7, if_neg c]
        dsimp only [bnd]
        rw [if_pos (by decide), jmax_nI (by omega) (by omega)]
      · rw [fX12_own_L37, if_pos (by decide)]; rfl
    by_cases b : v = 0
    · subst b
      refine ⟨mc, t, Or.inr ⟨fun K49 K27 => ?_, fun M => ⟨M, fun K => ?_⟩⟩⟩
      · exact o_zero (21 - t) (F + 1) mc t (by omega) (by omega) hm
      · rw [fX12_own_L37, if_neg (by decide), if_pos (by decide), show max mc 0 = mc by omega]; rfl
    have n1 : ¬ nI v = (6174 : Int32) := fun w => a ((nI_eqb (b := 6174) (by omega) (by decide)).mp w)
    have n2 : ¬ nI v = (0 : Int32) := fun w => b ((nI_eqb (b := 0) (by omega) (by decide)).mp w)
    obtain ⟨k1, k2, k3⟩ := kap_of v
    cases f with
    | zero =>
      unfold gok at hg
      rw [Bool.or_eq_true] at hg
      rcases hg with q | q
      · exact absurd (Nat.eq_of_beq_eq_true q) a
      · exact absurd (Nat.eq_of_beq_eq_true q) b
    | succ f =>
      have hg' : gok f (kap v) = true := by
        unfold gok at hg
        rw [Bool.or_eq_true, Bool.or_eq_true] at hg
        rcases hg with (q | q) | q
        · exact absurd (Nat.eq_of_beq_eq_true q) a
        · exact absurd (Nat.eq_of_beq_eq_true q) b
        · exact q
      have e1 : ∀ K49 K27, fX5_ownDifferences_L7 K49 K27 (F + 1) (nI v) (nI mc) (nI t) = fX5_ownDifferences_L7 K49 K27 F (nI (kap v)) (nI (max mc v)) (nI (t + 1)) := fun K49 K27 => by
        rw [fX5_ownDifferences_L7, if_neg c]
        dsimp only [bnd]
        rw [if_neg n1, diff_kap hv, Option.bind_some, jmax_nI (by omega) (by omega), nI_1]
      have e2 : ∀ M, ∃ M', ∀ K, fX12_own_L37 K (F + 1) (nI v) (nI (max mc v)) (nI t) M = fX12_own_L37 K F (nI (kap v)) (nI (max (max mc v) (kap v))) (nI (t + 1)) M' := fun M => by
        obtain ⟨M', e⟩ := ownOf_kap hv M
        refine ⟨M', fun K => ?_⟩
        rw [fX12_own_L37, if_neg n1, if_neg n2, e, Option.bind_some]
        dsimp only [bnd]
        rw [greater_nI (by omega) (by omega), nI_1]
      obtain ⟨mx, t', ⟨w1, w2⟩ | ⟨w1, w2⟩⟩ := o_walk f F (kap v) (max mc v) (t + 1) hg' k2 (by omega) (by omega) (by omega)
      · refine ⟨mx, t', Or.inl ⟨fun K49 K27 => by rw [e1, w1], fun M => ?_⟩⟩
        obtain ⟨M1, q1⟩ := e2 M
        obtain ⟨M2, q2⟩ := w2 M1
        exact ⟨M2, fun K => by rw [q1, q2]⟩
      · refine ⟨mx, t', Or.inr ⟨fun K49 K27 => by rw [e1, w1], fun M => ?_⟩⟩
        obtain ⟨M1, q1⟩ := e2 M
        obtain ⟨M2, q2⟩ := w2 M1
        exact ⟨M2, fun K => by rw [q1, q2]⟩
theorem s_own (p q : Int32) : SmP (fun _ => fX11_own p q) (fX12_own p q) := SmP.fr (wX12_own p q) (by decide +kernel) fun Mc Mm h => by
  unfold fX11_own fX12_own
  dsimp only [bnd, jn]
  rw [isW_isIn]
  by_cases c1 : ¬ (0 ≤ p ∧ p ≤ 9999)
  · rw [isIn_no c1, if_pos rfl, if_pos rfl]; exact ⟨_, _, rfl, rfl⟩
  have c1 := Decidable.not_not.mp c1
  rw [isIn_yes c1, if_neg one_ne, if_neg one_ne]
  by_cases c2 : ¬ (0 ≤ q ∧ q ≤ 1)
  · rw [isIn_no c2, if_pos rfl, if_pos rfl]; exact ⟨_, _, rfl, rfl⟩
  have c2 := Decidable.not_not.mp c2
  rw [isIn_yes c2, if_neg one_ne, if_neg one_ne]
  obtain ⟨v, hv, rfl⟩ := in_of (n := 9999) (by decide) c1
  obtain ⟨j, hj, rfl⟩ := in_of (n := 1) (by decide) c2
  have hg : gok 8 v = true := by
    unfold gok
    rw [(kap_of v).2.2, Bool.or_true]
  have hw := o_walk 8 FU v v 0 hg (by omega) (by omega) (by omega) (FU_gt (n := 24) (by omega))
  rw [show max v v = v by omega, nI_0] at hw
  obtain ⟨mx, t', ⟨w1, w2⟩ | ⟨w1, w2⟩⟩ := hw
  · obtain ⟨M', w2⟩ := w2 (mu Mm 198 0 0)
    rw [w2]
    unfold fX5_ownDifferences
    rw [w1, w1]
    rcases (show j = 0 ∨ j = 1 by omega) with rfl | rfl
    · exact ⟨nI t', M', rfl, rfl⟩
    · exact ⟨nI mx, M', rfl, rfl⟩
  · obtain ⟨M', w2⟩ := w2 (mu Mm 198 0 0)
    rw [w2]
    unfold fX5_ownDifferences
    rw [w1, w1]
    rcases (show j = 0 ∨ j = 1 by omega) with rfl | rfl
    · exact ⟨-1, M', rfl, rfl⟩
    · exact ⟨nI mx, M', rfl, rfl⟩
