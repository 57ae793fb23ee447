theorem rl_no {M : Mem} {K : Option (Int32 × Mem)} {w n : Nat} {z : Int32} (hw : w < 2) (hn : M 231 w = nI n) (hn8 : n ≤ 8) (h : ∀ j, j < n → M 232 (8 * w + j) ≠ z) : ∀ (f i : Nat), i ≤ n → n - i < f → fX12_rule_L77 K (nI w) z M f (nI i) = K
  | 0, i, hi, hf => by omega
  | f + 1, i, hi, hf => by
    rw [fX12_rule_L77, rd_nI hw, hn, Option.bind_some]
    by_cases c1 : n ≤ i
    · rw [if_pos (nI_le c1 (by omega))]
    · rw [if_neg (nI_ge (show i < n by omega) (by omega)), lmul 8 w, nI_add, rd_nI (by omega), Option.bind_some, if_neg (h i (by omega)), nI_1, rl_no hw hn hn8 h f (i + 1) (by omega) (by omega)]
theorem rl_yes {M : Mem} {K : Option (Int32 × Mem)} {w n : Nat} {z : Int32} (hw : w < 2) (hn : M 231 w = nI n) (hn8 : n ≤ 8) : ∀ (f i j : Nat), i ≤ j → j < n → M 232 (8 * w + j) = z → n - i < f → fX12_rule_L77 K (nI w) z M f (nI i) = some (-1, M)
  | 0, i, j, hi, hj, hz, hf => by omega
  | f + 1, i, j, hi, hj, hz, hf => by
    rw [fX12_rule_L77, rd_nI hw, hn, Option.bind_some, if_neg (nI_ge (show i < n by omega) (by omega)), lmul 8 w, nI_add, rd_nI (by omega), Option.bind_some]
    by_cases c1 : M 232 (8 * w + i) = z
    · rw [if_pos c1]
    · have : i ≠ j := fun e => c1 (e ▸ hz)
      rw [if_neg c1, nI_1, rl_yes hw hn hn8 f (i + 1) j (by omega) hj hz (by omega)]
/-- one of the two rows of GAME: w 0 the steps (Row at 45), 1 the barred squares (at 47) -/
theorem s_rule1 {Mc Mm : Mem} (h0 : AR Mc Mm) {w k lo hi cap : Nat} (hw : (w = 0 ∧ k = 45 ∧ lo = 1 ∧ hi = 9 ∧ cap = 5) ∨ (w = 1 ∧ k = 47 ∧ lo = 0 ∧ hi = 200 ∧ cap = 8)) (p : Int32) : ∃ r Mc' Mm', fX7_tell k p Mc = some (r, Mc') ∧ fX12_rule (nI w) p Mm = some (r, Mm') ∧ AR Mc' Mm' := by
  obtain ⟨⟨P, B, n, hBd, hTv, hFx, hBk, hLaw, hTw, hEv, hHe, hTo⟩, -⟩ := id h0
  obtain ⟨t1, t2, t3, t4, t5⟩ := hTo
  have hR : RwR Mc k (Mm 231 w) (fun i => Mm 232 (8 * w + i)) cap lo hi 1 := by
    rcases hw with ⟨rfl, rfl, rfl, rfl, rfl⟩ | ⟨rfl, rfl, rfl, rfl, rfl⟩
    · have e : (fun i => Mm 232 (8 * 0 + i)) = Mm 232 := by funext i; congr 1; omega
      rw [e]; exact t3
    · exact t4
  have hw2 : w < 2 := by omega
  have hin : fX12_isIn (nI w) 0 1 = 1 := by rcases hw with ⟨rfl, -⟩ | ⟨rfl, -⟩ <;> decide
  have hkn : kn (k + 1) = cap := by rcases hw with ⟨rfl, rfl, rfl, rfl, rfl⟩ | ⟨rfl, rfl, rfl, rfl, rfl⟩ <;> rfl
  have hcap : cap ≤ 8 ∧ hi ≤ 200 := by omega
  obtain ⟨a1, a2, a3, m, b1, b2, b3, b4⟩ := id hR
  have b3' : mu Mm 198 0 0 231 w = nI m := by rw [mu_o (by omega)]; exact b3
  have e0 : fX12_rule (nI w) p Mm = if p = -1 then some (0, mu (mu Mm 198 0 0) 231 w 0) else if fX12_isIn p (nI lo) (nI hi) = 0 then some (-1, mu Mm 198 0 0) else if nI m = nI cap then some (-1, mu Mm 198 0 0) else fX12_rule_L77 ((rd (mu Mm 198 0 0) 231 2 (nI w)).bind fun v9 => (wr (mu Mm 198 0 0) 232 16 ((8 * nI w) + v9) p).bind fun M10 => (rd M10 231 2 (nI w)).bind fun v11 => (wr M10 231 2 (nI w) (v11 + 1)).bind fun M12 => (rd M12 231 2 (nI w)).bind fun v13 => some (v13, M12)) (nI w) p (mu Mm 198 0 0) FU 0 := by
    unfold fX12_rule
    dsimp only [jn, bnd]
    rw [hin, if_neg one_ne, wr_nI hw2, Option.bind_some]
    have r1 : rd (mu Mm 198 0 0) 231 2 (nI w) = some (nI m) := by rw [rd_nI hw2, b3']
    rcases hw with ⟨rfl, rfl, rfl, rfl, rfl⟩ | ⟨rfl, rfl, rfl, rfl, rfl⟩
    · rw [if_pos (show nI 0 = 0 from rfl), show (1 : Int32) - nI 0 = nI 1 from by decide, show (9 : Int32) = nI 9 from rfl, r1]
      simp only [Option.bind_some]
      rw [if_pos (show nI 0 = 0 from rfl), show (5 : Int32) = nI 5 from rfl]
    · rw [if_neg (show ¬ nI 1 = 0 from by decide), show (1 : Int32) - nI 1 = nI 0 from by decide, show (200 : Int32) = nI 200 from rfl, r1]
      simp only [Option.bind_some]
      rw [if_neg (show ¬ nI 1 = 0 from by decide)]
      rfl
  rw [e0]
  have hoth : ∀ {Sc : List (Nat × Option Nat)} {Mc' Mm' : Mem}, Agr Sc Mc Mc' → dj Sc ((k, some 2) :: (k, some 3) :: (k, some 4) :: (ftRw 41 ++ (ftRw 43 ++ [(49, none)]))) = true → (w = 0 → dj Sc (ftRw 47) = true) → (w = 1 → dj Sc (ftRw 45) = true) → Mm' 198 43 = Mm 198 43 → Mm' 221 = Mm 221 → Mm' 198 48 = Mm 198 48 → Mm' 225 = Mm 225 → Mm' 230 = Mm 230 → (∀ j, j ≠ w → Mm' 231 j = Mm 231 j) → (∀ i, i < 8 → Mm' 232 (8 * (1 - w) + i) = Mm 232 (8 * (1 - w) + i)) → RwR Mc' k (Mm' 231 w) (fun i => Mm' 232 (8 * w + i)) cap lo hi 1 → ToR Mc' 40 Mm' := by
    intro Sc Mc' Mm' hc d0 d1 d2 g1 g2 g3 g4 g5 g6 g7 hR'
    have d3 : dj Sc (ftRw 41) = true := dj_sub d0 (fun q h => List.mem_cons_of_mem _ (List.mem_cons_of_mem _ (List.mem_cons_of_mem _ (mem_l h))))
    have d4 : dj Sc (ftRw 43) = true := dj_sub d0 (fun q h => List.mem_cons_of_mem _ (List.mem_cons_of_mem _ (List.mem_cons_of_mem _ (mem_r (mem_l h)))))
    have d5 : Mc' 49 = Mc 49 := hc.c d0 (List.mem_cons_of_mem _ (List.mem_cons_of_mem _ (List.mem_cons_of_mem _ (mem_r (mem_r (by simp))))))
    refine ⟨RwR_agr hc d3 g1 g2 t1, RwR_agr hc d4 g3 g4 t2, ?_, ?_, ?_⟩
    · rcases hw with ⟨rfl, rfl, rfl, rfl, rfl⟩ | ⟨rfl, rfl, rfl, rfl, rfl⟩
      · have e : (fun i => Mm' 232 (8 * 0 + i)) = Mm' 232 := by funext i; congr 1; omega
        rw [e] at hR'; exact hR'
      · obtain ⟨x1, x2, x3, m', y1, y2, y3, y4⟩ := RwR_agr hc (d2 rfl) (g6 0 (by omega)) rfl t3
        refine ⟨x1, x2, x3, m', y1, y2, y3, fun i hi => ?_⟩
        obtain ⟨z, z1, z2, z3, z4⟩ := y4 i hi
        refine ⟨z, z1, z2, z3, ?_⟩
        have := g7 i (by omega)
        rw [show 8 * (1 - 1) + i = i by omega] at this
        rw [this]; exact z4
    · rcases hw with ⟨rfl, rfl, rfl, rfl, rfl⟩ | ⟨rfl, rfl, rfl, rfl, rfl⟩
      · obtain ⟨x1, x2, x3, m', y1, y2, y3, y4⟩ := RwR_agr hc (d1 rfl) (g6 1 (by omega)) rfl t4
        refine ⟨x1, x2, x3, m', y1, y2, y3, fun i hi => ?_⟩
        obtain ⟨z, z1, z2, z3, z4⟩ := y4 i hi
        refine ⟨z, z1, z2, z3, ?_⟩
        have := g7 i (by omega)
        exact this.trans z4
      · exact hR'
    · show ∀ i, i < 9 → ∃ x, x ≤ 30 ∧ Mc' 49 i = nI x ∧ Mm' 230 i = nI x
      rw [d5, g5]; exact t5
  by_cases c0 : p = -1
  · subst c0
    rw [if_pos rfl, tell_none]
    have hc : Agr [(k, some 0)] Mc (mu Mc k 0 0) := Agr.mu Agr.rfl' (Or.inl (by simp))
    have hm : Agr [(198, some 0), (231, none)] Mm (mu (mu Mm 198 0 0) 231 w 0) := Agr.mu (Agr.mu Agr.rfl' (Or.inl (by simp))) (Or.inr (by simp))
    refine ⟨_, _, _, rfl, rfl, AR_to h0 hc hm ?_ (by decide +kernel) (hoth hc ?_ ?_ ?_ ?_ ?_ ?_ ?_ ?_ ?_ ?_ ?_)⟩
    · rcases hw with ⟨rfl, rfl, rfl, rfl, rfl⟩ | ⟨rfl, rfl, rfl, rfl, rfl⟩ <;> decide +kernel
    · rcases hw with ⟨rfl, rfl, rfl, rfl, rfl⟩ | ⟨rfl, rfl, rfl, rfl, rfl⟩ <;> decide +kernel
    · intro hw0; rcases hw with ⟨rfl, rfl, rfl, rfl, rfl⟩ | ⟨rfl, rfl, rfl, rfl, rfl⟩
      · decide +kernel
      · omega
    · intro hw0; rcases hw with ⟨rfl, rfl, rfl, rfl, rfl⟩ | ⟨rfl, rfl, rfl, rfl, rfl⟩
      · omega
      · decide +kernel
    · simp (disch := omega) only [mu_o, mu_i, mu_s]
    · rw [mu_c (by omega), mu_c (by omega)]
    · simp (disch := omega) only [mu_o, mu_i, mu_s]
    · rw [mu_c (by omega), mu_c (by omega)]
    · rw [mu_c (by omega), mu_c (by omega)]
    · intro j hj; rw [mu_i hj, mu_o (by omega)]
    · intro i hi; simp (disch := omega) only [mu_o, mu_i, mu_s]
    · rw [mu_s]
      have := RwR_clear hR
      rw [mu_c (show (232 : Nat) ≠ 231 by omega), mu_c (show (232 : Nat) ≠ 198 by omega)]
      exact this
  rw [if_neg c0]
  by_cases c1 : ¬ (nI lo ≤ p ∧ p ≤ nI hi)
  · rw [isIn_no c1, if_pos rfl]
    exact ⟨-1, Mc, _, tell_out c0 a1 a2 c1, rfl, AR_told h0⟩
  have c1 := Decidable.not_not.mp c1
  rw [isIn_yes c1, if_neg one_ne]
  obtain ⟨x, hx1, hx, rfl⟩ := in_of1 (m := lo) (n := hi) (by omega) (by omega) c1
  by_cases c2 : m = cap
  · subst c2
    rw [if_pos rfl]
    exact ⟨-1, Mc, _, tell_full c0 a1 a2 c1 hkn (by omega) b2, rfl, AR_told h0⟩
  rw [if_neg (show ¬ nI m = nI cap from by rw [nI_eq (by omega) (by omega)]; omega)]
  have hval : ∀ j, j < m → mu Mm 198 0 0 232 (8 * w + j) = Mc (k + 1) j := fun j hj => by
    obtain ⟨z, -, -, z3, z4⟩ := b4 j hj
    rw [mu_o (by omega), z3]; exact z4
  by_cases c3 : ∃ j, j < m ∧ Mc (k + 1) j = nI x
  · obtain ⟨j, hj, hz⟩ := c3
    have e2 := rl_yes (K := (rd (mu Mm 198 0 0) 231 2 (nI w)).bind fun v9 => (wr (mu Mm 198 0 0) 232 16 ((8 * nI w) + v9) (nI x)).bind fun M10 => (rd M10 231 2 (nI w)).bind fun v11 => (wr M10 231 2 (nI w) (v11 + 1)).bind fun M12 => (rd M12 231 2 (nI w)).bind fun v13 => some (v13, M12)) hw2 b3' (by omega) FU 0 j (by omega) hj ((hval j hj).trans hz) (FU_gt (by omega))
    rw [nI_0] at e2
    exact ⟨-1, Mc, _, tell_twice c0 a1 a2 c1 hkn (by omega) b2 (by omega) a3 hj hz, e2, AR_told h0⟩
  · have e2 := rl_no (K := (rd (mu Mm 198 0 0) 231 2 (nI w)).bind fun v9 => (wr (mu Mm 198 0 0) 232 16 ((8 * nI w) + v9) (nI x)).bind fun M10 => (rd M10 231 2 (nI w)).bind fun v11 => (wr M10 231 2 (nI w) (v11 + 1)).bind fun M12 => (rd M12 231 2 (nI w)).bind fun v13 => some (v13, M12)) (z := nI x) hw2 b3' (by omega) (fun j hj e => c3 ⟨j, hj, (hval j hj).symm.trans e⟩) FU 0 (by omega) (FU_gt (by omega))
    rw [nI_0] at e2
    have e3 : fX12_rule_L77 ((rd (mu Mm 198 0 0) 231 2 (nI w)).bind fun v9 => (wr (mu Mm 198 0 0) 232 16 ((8 * nI w) + v9) (nI x)).bind fun M10 => (rd M10 231 2 (nI w)).bind fun v11 => (wr M10 231 2 (nI w) (v11 + 1)).bind fun M12 => (rd M12 231 2 (nI w)).bind fun v13 => some (v13, M12)) (nI w) (nI x) (mu Mm 198 0 0) FU 0 = some (nI (m + 1), mu (mu (mu Mm 198 0 0) 232 (8 * w + m) (nI x)) 231 w (nI (m + 1))) := by
      rw [e2, rd_nI hw2, b3', Option.bind_some, lmul 8 w, nI_add, wr_nI (by omega), Option.bind_some, rd_nI hw2, Option.bind_some, wr_nI hw2, Option.bind_some, rd_nI hw2, mu_s, Option.bind_some, mu_o (by omega), b3', nI_1]
    rw [e3, tell_ok c0 a1 a2 c1 hkn (by omega) b2 (by omega) (Or.inr fun j hj e => c3 ⟨j, hj, e⟩)]
    have hc : Agr [(k, some 0), (k + 1, none)] Mc (mu (mu Mc (k + 1) m (nI x)) k 0 (nI (m + 1))) := Agr.mu (Agr.mu Agr.rfl' (Or.inr (by simp))) (Or.inl (by simp))
    have hm : Agr [(198, some 0), (232, none), (231, none)] Mm (mu (mu (mu Mm 198 0 0) 232 (8 * w + m) (nI x)) 231 w (nI (m + 1))) := Agr.mu (Agr.mu (Agr.mu Agr.rfl' (Or.inl (by simp))) (Or.inr (by simp))) (Or.inr (by simp))
    refine ⟨_, _, _, rfl, rfl, AR_to h0 hc hm ?_ (by decide +kernel) (hoth hc ?_ ?_ ?_ ?_ ?_ ?_ ?_ ?_ ?_ ?_ ?_)⟩
    · rcases hw with ⟨rfl, rfl, rfl, rfl, rfl⟩ | ⟨rfl, rfl, rfl, rfl, rfl⟩ <;> decide +kernel
    · rcases hw with ⟨rfl, rfl, rfl, rfl, rfl⟩ | ⟨rfl, rfl, rfl, rfl, rfl⟩ <;> decide +kernel
    · intro hw0; rcases hw with ⟨rfl, rfl, rfl, rfl, rfl⟩ | ⟨rfl, rfl, rfl, rfl, rfl⟩
      · decide +kernel
      · omega
    · intro hw0; rcases hw with ⟨rfl, rfl, rfl, rfl, rfl⟩ | ⟨rfl, rfl, rfl, rfl, rfl⟩
      · omega
      · decide +kernel
    · simp (disch := omega) only [mu_o, mu_i, mu_s]
    · rw [mu_c (by omega), mu_c (by omega), mu_c (by omega)]
    · simp (disch := omega) only [mu_o, mu_i, mu_s]
    · rw [mu_c (by omega), mu_c (by omega), mu_c (by omega)]
    · rw [mu_c (by omega), mu_c (by omega), mu_c (by omega)]
    · intro j hj; rw [mu_i hj, mu_o (by omega), mu_o (by omega)]
    · intro i hi; simp (disch := omega) only [mu_o, mu_i, mu_s]
    · rw [mu_s]
      refine RwR_add (by omega) hR b3 (by omega) ⟨hx1, hx⟩ (fun i hi => ?_) ?_
      · simp (disch := omega) only [mu_o, mu_i, mu_s]
      · simp (disch := omega) only [mu_o, mu_i, mu_s]
theorem s_rule (p q : Int32) : Sm (fX11_rule p q) (fX12_rule p q) := by
  intro Mc Mm h
  by_cases c0 : p = 0
  · subst c0
    obtain ⟨r, Mc', Mm', e1, e2, e3⟩ := s_rule1 h (Or.inl ⟨rfl, rfl, rfl, rfl, rfl⟩) q
    exact ⟨r, Mc', Mm', by unfold fX11_rule; rw [if_pos rfl, e1]; rfl, e2, e3⟩
  by_cases c1 : p = 1
  · subst c1
    obtain ⟨r, Mc', Mm', e1, e2, e3⟩ := s_rule1 h (Or.inr ⟨rfl, rfl, rfl, rfl, rfl⟩) q
    exact ⟨r, Mc', Mm', by unfold fX11_rule; rw [if_neg (by decide), if_pos rfl, e1]; rfl, e2, e3⟩
  refine ⟨-1, Mc, _, by unfold fX11_rule; rw [if_neg c0, if_neg c1], ?_, AR_told h⟩
  unfold fX12_rule
  dsimp only [bnd]
  rw [isIn_no (fun q => ?_), if_pos rfl]
  obtain ⟨j, hj, rfl⟩ := in_of (n := 1) (by decide) q
  rcases (show j = 0 ∨ j = 1 by omega) with rfl | rfl
  · exact c0 rfl
  · exact c1 rfl
