/-! ===== parts: the chains ===== -/
theorem pa_z1 : ∀ (k F j : Nat) (M : Mem), j + k = 313 → k < F → (∀ i, i < j → M 197 i = 0) → ∃ M', (∀ K, fX5_chainOfParts_L2 K F (nI j) M = K M') ∧ ∀ i, i < 313 → M' 197 i = 0
  | k, 0, j, M, _, h, _ => by omega
  | 0, F + 1, j, M, h1, h2, h3 => by
    have c : (313 : Int32) ≤ nI j := nI_le (show 313 ≤ j by omega) (by omega)
    exact ⟨M, fun K => by rw [fX5_chainOfParts_L2, if_pos c], fun i hi => h3 i (by omega)⟩
  | k + 1, F + 1, j, M, h1, h2, h3 => by
    have c : ¬ (313 : Int32) ≤ nI j := nI_ge (show j < 313 by omega) (by decide)
    obtain ⟨M', e1, e2⟩ := pa_z1 k F (j + 1) (mu M 197 j 0) (by omega) (by omega) (fun i hi => by
      by_cases q : i = j
      · subst q; exact mu_s
      · rw [mu_i q]; exact h3 i (by omega))
    exact ⟨M', fun K => by rw [fX5_chainOfParts_L2, if_neg c, wr_nI (by omega), Option.bind_some, nI_1, e1], e2⟩
theorem pa_z2 : ∀ (k F j : Nat) (M : Mem), j + k = 10000 → k < F → (∀ i, i < j → M 224 i = 0) → ∃ M', (∀ K, fX12_parts_L31 K F (nI j) M = K M') ∧ ∀ i, i < 10000 → M' 224 i = 0
  | k, 0, j, M, _, h, _ => by omega
  | 0, F + 1, j, M, h1, h2, h3 => by
    have c : (10000 : Int32) ≤ nI j := nI_le (show 10000 ≤ j by omega) (by omega)
    exact ⟨M, fun K => by rw [fX12_parts_L31, if_pos c], fun i hi => h3 i (by omega)⟩
  | k + 1, F + 1, j, M, h1, h2, h3 => by
    have c : ¬ (10000 : Int32) ≤ nI j := nI_ge (show j < 10000 by omega) (by decide)
    obtain ⟨M', e1, e2⟩ := pa_z2 k F (j + 1) (mu M 224 j 0) (by omega) (by omega) (fun i hi => by
      by_cases q : i = j
      · subst q; exact mu_s
      · rw [mu_i q]; exact h3 i (by omega))
    exact ⟨M', fun K => by rw [fX12_parts_L31, if_neg c, wr_nI (by omega), Option.bind_some, nI_1, e1], e2⟩
theorem pa_loop {N : Nat} (hN : N = 10000) : ∀ (k F v t : Nat) (vis : Nat → Bool) (Mc Mm : Mem), t + k = 10000 → k < F → v < 2 ^ 31 → (∀ i, i < 10000 → Mm 224 i = if vis i then 1 else 0) → (∀ i, i < 10000 → (Mc 197 (i / 32)).toBitVec.toNat.testBit (i % 32) = vis i) → vis 0 = false → fb_ct vis N = t → ∃ (v' t' : Nat) (Mc' Mm' : Mem), (∀ K, fX5_chainOfParts_L29 K F (nI v) (nI t) Mc = K (nI v') (nI t') Mc') ∧ ∀ K, fX12_parts_L56 K F (nI v) (nI t) Mm = K (nI v') (nI t') Mm'
  | k, 0, v, t, vis, Mc, Mm, _, h, _, _, _, _, _ => by omega
  | 0, F + 1, v, t, vis, Mc, Mm, h1, h2, h3, h4, h5, h6, h7 => by
    exfalso
    have := fb_ct_all.mp (show fb_ct vis N = N by omega) 0 (by omega)
    rw [h6] at this
    cases this
  | k + 1, F + 1, v, t, vis, Mc, Mm, h1, h2, h3, h4, h5, h6, h7 => by
    have ct : ¬ (10000 : Int32) < nI t := nI_nlt (show t ≤ 10000 by omega) (by decide)
    by_cases cv : 1 ≤ v ∧ v ≤ 9999
    · have c0 : ¬ nI v ≤ (0 : Int32) := nI_nle (by omega) (by omega)
      have c9 : ¬ (9999 : Int32) < nI v := nI_nlt (show v ≤ 9999 by omega) (by decide)
      have e5 : jshr (nI v) 5 = nI (v / 32) := jshr_nI (p := 5) (by omega) (by omega)
      have e31 : nI v &&& 31 = nI (v % 32) := pk_andN (by omega) 5 (by decide)
      have hin : fX12_isIn (nI v) 1 9999 = 1 := isIn_yes ⟨nI_le (show 1 ≤ v by omega) (by omega), nI_le (show v ≤ 9999 by omega) (by decide)⟩
      have hb := h5 v (by omega)
      have hr := h4 v (by omega)
      by_cases cs : vis v = true
      · have b1 : (jshr (Mc 197 (v / 32)) (nI (v % 32)) &&& 1) = 1 := (bitI (by omega)).mpr (by rw [hb, cs])
        refine ⟨v, t, Mc, Mm, fun K => ?_, fun K => ?_⟩
        · rw [fX5_chainOfParts_L29, if_neg ct, if_neg c0, if_neg c9, e5, rd_nI (by omega), Option.bind_some, e31, if_pos b1]
        · rw [fX12_parts_L56, hin, if_neg one_ne, rd_nI (by omega), Option.bind_some, hr, cs, if_pos rfl, if_neg one_ne]
      · have cs : vis v = false := by
          cases h : vis v with
          | true => exact absurd h cs
          | false => rfl
        have b1 : ¬ (jshr (Mc 197 (v / 32)) (nI (v % 32)) &&& 1) = 1 := fun q => by
          have := (bitI (by omega)).mp q
          rw [hb, cs] at this; cases this
        have hv' : ∀ i, i < 10000 → mu Mm 224 v 1 224 i = if (if i = v then true else vis i) then 1 else 0 := fun i hi => by
          by_cases q : i = v
          · subst q; rw [mu_s, if_pos rfl, if_pos rfl]
          · rw [mu_i q, if_neg q]; exact h4 i hi
        have hb' : ∀ i, i < 10000 → (mu Mc 197 (v / 32) (Mc 197 (v / 32) ||| jshl 1 (nI (v % 32))) 197 (i / 32)).toBitVec.toNat.testBit (i % 32) = if i = v then true else vis i := fun i hi => by
          by_cases q : i / 32 = v / 32
          · rw [q, mu_s, bitS (by omega) (by omega), ← q, h5 i hi]
            by_cases q2 : i = v
            · subst q2; rw [if_pos rfl, decide_eq_true rfl, Bool.or_true]
            · rw [if_neg q2, decide_eq_false (by omega), Bool.or_false]
          · rw [mu_i q, if_neg (fun q2 => q (by rw [q2]))]; exact h5 i hi
        have hct : fb_ct (fun i => if i = v then true else vis i) N = t + 1 := by
          have := fb_ct_upd vis true (i := v) (n := N) (by omega)
          rw [cs, h7] at this
          simpa using this
        obtain ⟨v', t', Mc', Mm', g1, g2⟩ := pa_loop hN k F (sP v) (t + 1) (fun i => if i = v then true else vis i) _ _ (by omega) (by omega) (sP_bd (by omega)) hv' hb' (by rw [if_neg (by omega)]; exact h6) hct
        refine ⟨v', t', Mc', Mm', fun K => ?_, fun K => ?_⟩
        · rw [fX5_chainOfParts_L29, if_neg ct, if_neg c0, if_neg c9, e5, rd_nI (by omega), Option.bind_some, e31, if_neg b1, Option.bind_some, wr_nI (by omega), Option.bind_some, sum_cls (by omega) (by omega), Option.bind_some, nI_1, g1]
        · rw [fX12_parts_L56, hin, if_neg one_ne, rd_nI (by omega), Option.bind_some, hr, cs, if_neg (show ¬ false = true by decide), if_pos rfl, wr_nI (by omega), Option.bind_some, sum_ref (by omega) (by omega), Option.bind_some, bnd_eq, nI_1, g2]
    · refine ⟨v, t, Mc, Mm, fun K => ?_, fun K => ?_⟩
      · rw [fX5_chainOfParts_L29, if_neg ct]
        rcases Nat.eq_zero_or_pos v with e | e
        · subst e
          have c0 : nI 0 ≤ (0 : Int32) := by decide
          rw [if_pos c0]
        · have c9 : (9999 : Int32) < nI v := nI_lt (show 9999 < v by omega) (by omega)
          rw [if_neg (nI_nle e (by omega)), if_pos c9]
      · rw [fX12_parts_L56, isIn_no (fun q => cv ?_), if_pos rfl]
        have q1 : nI 1 ≤ nI v := q.1
        have q2 : nI v ≤ nI 9999 := q.2
        exact ⟨(nI_leI (by omega) h3).mp q1, (nI_leI h3 (by omega)).mp q2⟩
theorem s_parts (p q : Int32) : Sm (fX11_parts p q) (fX12_parts p q) := Sm.fr (wX11_parts p q) (wX12_parts p q) (by decide +kernel) (by decide +kernel) fun Mc Mm hA => by
  unfold fX11_parts fX12_parts
  rw [isW_isIn, bnd_eq]
  by_cases c1 : ¬ (1 ≤ p ∧ p ≤ 999)
  · rw [isIn_no c1, if_pos rfl, if_pos rfl]; exact ⟨_, _, _, rfl, rfl⟩
  have c1 := Decidable.not_not.mp c1
  rw [isIn_yes c1, if_neg one_ne, if_neg one_ne]
  by_cases c2 : ¬ (0 ≤ q ∧ q ≤ 1)
  · rw [isIn_no c2, if_pos rfl, if_pos rfl]; exact ⟨_, _, _, rfl, rfl⟩
  have c2 := Decidable.not_not.mp c2
  rw [isIn_yes c2, if_neg one_ne, if_neg one_ne, jn_eq]
  obtain ⟨n, hn1, hn, rfl⟩ := in_of1 (m := 1) (n := 999) (by decide) (by decide) c1
  obtain ⟨j, hj, rfl⟩ := in_of (n := 1) (by decide) c2
  obtain ⟨M1, z1, z2⟩ := pa_z1 313 FU 0 Mc (by omega) (FU_gt (by omega)) (fun i hi => by omega)
  obtain ⟨M2, y1, y2⟩ := pa_z2 10000 FU 0 (mu Mm 198 0 0) (by omega) (FU_gt (by omega)) (fun i hi => by omega)
  obtain ⟨v, t, Mc', Mm', g1, g2⟩ := pa_loop (N := 10000) rfl 10000 FU n 0 (fun _ => false) M1 M2 (by omega) (FU_gt (by omega)) (by omega) (fun i hi => by rw [y2 i hi]; rfl) (fun i hi => by rw [z2 (i / 32) (by omega)]; exact Nat.zero_testBit _) rfl (by rw [fb_ct_zero]; intro k _; rfl)
  rw [nI_0] at z1 y1 g1 g2
  have cl : ∀ b, fX5_chainOfParts (nI n) b Mc = if b = 0 then some (nI v, Mc') else some (nI t, Mc') := fun b => by
    unfold fX5_chainOfParts
    rw [z1, g1]
  rw [y1, g2]
  rcases (show j = 0 ∨ j = 1 by omega) with rfl | rfl
  · refine ⟨nI t, Mc', Mm', ?_, ?_⟩
    · rw [if_pos (show nI 0 = 0 from rfl)]
      simp only [cl]
      rw [if_neg one_ne]; rfl
    · rw [if_pos (show nI 0 = 0 from rfl)]
  · refine ⟨nI v, Mc', Mm', ?_, ?_⟩
    · rw [if_neg (show ¬ nI 1 = 0 from by decide)]
      simp only [cl]
      rfl
    · rw [if_neg (show ¬ nI 1 = 0 from by decide)]
