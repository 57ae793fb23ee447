/-! ===== told rows: jump, turn, rule, nine; end, fault ===== -/
abbrev ftC0 : List (Nat × Option Nat) := ftTv 2 ++ (ftFx 2 ++ (ftBk 12 ++ (ftLaw 17 ++ (ftBk 25 ++ (ftBk 30 ++ ftBk 35)))))
abbrev fcT : List (Nat × Option Nat) := ftC0 ++ (((0, some 2) :: ftC 53) ++ (ftPa ++ (ftCs ++ [(178, some 1), (179, none), (178, some 2), (178, some 3)])))
abbrev fmT : List (Nat × Option Nat) := [(198, some 3), (198, some 5), (198, some 13), (198, some 33), (198, some 34), (198, some 35), (198, some 37), (198, some 39), (198, some 59), (199, none), (200, none), (205, none), (206, none), (207, none), (216, none), (217, none), (218, none), (226, none), (227, none), (234, none)] ++ (ftBd ++ fmLaw)
theorem AR_to {Sc Sm : List (Nat × Option Nat)} {Mc Mm Mc' Mm' : Mem} (h : AR Mc Mm) (hc : Agr Sc Mc Mc') (hm : Agr Sm Mm Mm') (dc : dj Sc fcT = true) (dm : dj Sm fmT = true) (hTo : ToR Mc' 40 Mm') : AR Mc' Mm' := by
  obtain ⟨⟨P, B, n, hBd, hTv, hFx, hBk, hLaw, hTw, hEv, hHe, -⟩, ⟨N, hN, hN2, hPa⟩, hTa, hFa, hIm, hCs⟩ := h
  have c0 : dj Sc ftC0 = true := dj_sub dc (fun q h => mem_l h)
  have c1 : dj Sc ((0, some 2) :: ftC 53) = true := dj_sub dc (fun q h => mem_r (mem_l h))
  have c2 : dj Sc ftPa = true := dj_sub dc (fun q h => mem_r (mem_r (mem_l h)))
  have c3 : dj Sc ftCs = true := dj_sub dc (fun q h => mem_r (mem_r (mem_r (mem_l h))))
  have c4 : dj Sc [(178, some 1), (179, none), (178, some 2), (178, some 3)] = true := dj_sub dc (fun q h => mem_r (mem_r (mem_r (mem_r h))))
  have m0 : Mm' 199 = Mm 199 := hm.c dm (by simp)
  have mB : dj Sm ftBd = true := dj_sub dm (fun q h => mem_r (mem_l h))
  refine ⟨⟨P, B, n, Bd_agr hm mB hBd, ?_, Fx_agr hc hm (dj_sub c0 (fun q h => mem_r (mem_l h))) mB hFx, Bk_agr hc hm (dj_sub c0 (fun q h => mem_r (mem_r (mem_l h)))) (dj_sub dm (by simp)) (congrFun m0 2) hBk, LawR_agr hc hm (dj_sub c0 (fun q h => mem_r (mem_r (mem_r (mem_l h))))) (dj_sub dm (fun q h => mem_r (mem_r h))) hLaw, TwR_agr hc hm (dj_sub c0 (fun q h => mem_r (mem_r (mem_r (mem_r (mem_l h)))))) (dj_sub dm (by simp)) hTw, EvR_agr hc hm (dj_sub c0 (fun q h => mem_r (mem_r (mem_r (mem_r (mem_r (mem_l h))))))) (dj_sub dm (by simp)) hEv, HeR_agr hc hm (dj_sub c0 (fun q h => mem_r (mem_r (mem_r (mem_r (mem_r (mem_r h))))))) (dj_sub dm (by simp)) hHe, hTo⟩, ⟨N, ?_, hN2, PaR_agr (Nat.le_refl _) hc hm c2 (dj_sub dm (by simp)) hPa⟩, TaR_agr hc hm (dj_sub c4 (by simp)) (dj_sub dm (by simp)) hTa, ?_, ImR_agr hc hm c1 (dj_sub dm (by simp)) hIm, CsR_agr hc hm c3 (dj_sub dm (by simp)) (congrFun (hm.c dm (by simp)) 0) (congrFun (hm.c dm (by simp)) 0) hCs⟩
  · rw [m0]; exact Tv_agr hc (dj_sub c0 (fun q h => mem_l h)) hTv
  · rw [m0]; exact hN
  · rw [hc.f c4 (a := 178) (i := 2) (by simp), hc.f c4 (a := 178) (i := 3) (by simp), hm.f dm (a := 198) (i := 33) (by simp), hm.f dm (a := 198) (i := 34) (by simp)]; exact hFa
theorem FU_gt {n : Nat} (h : n ≤ 99999 := by omega) : n < FU := Nat.lt_of_le_of_lt h (Nat.lt_of_lt_of_le (by decide) (Nat.le_of_ble_eq_true (show Nat.ble 100000 FU = true from rfl)))
theorem has_no {M : Mem} {k c n : Nat} {z : Int32} (hc : kn (k + 1) = c) (hn : M k 0 = nI n) (hnc : n ≤ c) (hc31 : c < 2 ^ 31) (h : ∀ j, j < n → M (k + 1) j ≠ z) : ∀ (f i : Nat), i ≤ n → n - i < f → fX7_has_L2 k z M f (nI i) = some 0
  | 0, i, hi, hf => by omega
  | f + 1, i, hi, hf => by
    rw [fX7_has_L2, hn]
    by_cases c1 : n ≤ i
    · rw [if_pos (nI_le c1 (by omega))]
    · rw [if_neg (nI_ge (show i < n by omega) (by omega)), hc, rd_nI (by omega) hc31, Option.bind_some, if_neg (h i (by omega)), nI_1, has_no hc hn hnc hc31 h f (i + 1) (by omega) (by omega)]
theorem has_yes {M : Mem} {k c n : Nat} {z : Int32} (hc : kn (k + 1) = c) (hn : M k 0 = nI n) (hnc : n ≤ c) (hc31 : c < 2 ^ 31) : ∀ (f i j : Nat), i ≤ j → j < n → M (k + 1) j = z → n - i < f → fX7_has_L2 k z M f (nI i) = some 1
  | 0, i, j, hi, hj, hz, hf => by omega
  | f + 1, i, j, hi, hj, hz, hf => by
    rw [fX7_has_L2, hn, if_neg (nI_ge (show i < n by omega) (by omega)), hc, rd_nI (by omega) hc31, Option.bind_some]
    by_cases c1 : M (k + 1) i = z
    · rw [if_pos c1]
    · have : i ≠ j := fun e => c1 (e ▸ hz)
      rw [if_neg c1, nI_1, has_yes hc hn hnc hc31 f (i + 1) j (by omega) hj hz (by omega)]
theorem tell_none {M : Mem} {k : Nat} : fX7_tell k (-1) M = some (0, mu M k 0 0) := by unfold fX7_tell; rw [if_pos rfl]; rfl
theorem tell_out {M : Mem} {k : Nat} {p lo hi : Int32} (hp : ¬ p = -1) (h2 : M k 2 = lo) (h3 : M k 3 = hi) (h : ¬ (lo ≤ p ∧ p ≤ hi)) : fX7_tell k p M = some (-1, M) := by
  unfold fX7_tell; rw [if_neg hp, h2, h3, isW_isIn, isIn_no h, if_pos rfl]
theorem tell_full {M : Mem} {k c : Nat} {p lo hi : Int32} (hp : ¬ p = -1) (h2 : M k 2 = lo) (h3 : M k 3 = hi) (h : lo ≤ p ∧ p ≤ hi) (hc : kn (k + 1) = c) (hc31 : c < 2 ^ 31) (hn : M k 0 = nI c) : fX7_tell k p M = some (-1, M) := by
  unfold fX7_tell; rw [if_neg hp, h2, h3, isW_isIn, isIn_yes h, if_neg one_ne, hc, hn, if_pos (nI_le (Nat.le_refl _) hc31)]
theorem tell_ok {M : Mem} {k c n : Nat} {p lo hi : Int32} (hp : ¬ p = -1) (h2 : M k 2 = lo) (h3 : M k 3 = hi) (h : lo ≤ p ∧ p ≤ hi) (hc : kn (k + 1) = c) (hc31 : c < 99999) (hn : M k 0 = nI n) (hnc : n < c) (hu : M k 4 = 0 ∨ ∀ j, j < n → M (k + 1) j ≠ p) : fX7_tell k p M = some (nI (n + 1), mu (mu M (k + 1) n p) k 0 (nI (n + 1))) := by
  unfold fX7_tell
  dsimp only [jn, bnd]
  have e : (wr M (k + 1) c (nI n) p).bind (fun M2 => some (mu M2 k 0 (M2 k 0 + 1) k 0, mu M2 k 0 (M2 k 0 + 1))) = some (nI (n + 1), mu (mu M (k + 1) n p) k 0 (nI (n + 1))) := by
    rw [wr_nI hnc (by omega), Option.bind_some, mu_s, mu_o (by omega), hn, nI_1]
  rw [if_neg hp, h2, h3, isW_isIn, isIn_yes h, if_neg one_ne, hc, hn, if_neg (by rw [nI_leI (by omega) (by omega)]; omega), e]
  by_cases c1 : M k 4 = 0
  · rw [if_pos c1]
  · rw [if_neg c1]
    rcases hu with hu | hu
    · exact absurd hu c1
    · unfold fX7_has
      have e0 := has_no hc hn (by omega) (by omega) hu FU 0 (by omega) (FU_gt (by omega))
      rw [nI_0] at e0
      rw [e0, Option.bind_some, if_pos rfl]
theorem tell_twice {M : Mem} {k c n j : Nat} {p lo hi : Int32} (hp : ¬ p = -1) (h2 : M k 2 = lo) (h3 : M k 3 = hi) (h : lo ≤ p ∧ p ≤ hi) (hc : kn (k + 1) = c) (hc31 : c < 99999) (hn : M k 0 = nI n) (hnc : n < c) (hu : M k 4 = 1) (hj : j < n) (hz : M (k + 1) j = p) : fX7_tell k p M = some (-1, M) := by
  unfold fX7_tell
  dsimp only [jn, bnd]
  rw [if_neg hp, h2, h3, isW_isIn, isIn_yes h, if_neg one_ne, hc, hn, if_neg (by rw [nI_leI (by omega) (by omega)]; omega), hu, if_neg one_ne]
  unfold fX7_has
  have e0 := has_yes hc hn (by omega) (by omega) FU 0 j (by omega) hj hz (FU_gt (by omega))
  rw [nI_0] at e0
  rw [e0, Option.bind_some, if_neg one_ne]
/-- a row that has one more -/
theorem RwR_add {Mc : Mem} {k cap lo hi un n x : Nat} {r r' : Nat → Int32} {many : Int32} (hn : n < cap) (h : RwR Mc k many r cap lo hi un) (hm : many = nI n) (hm31 : cap < 2 ^ 31) (hx : lo ≤ x ∧ x ≤ hi) (hr : ∀ i, i < n → r' i = r i) (hr' : r' n = nI x) : RwR (mu (mu Mc (k + 1) n (nI x)) k 0 (nI (n + 1))) k (nI (n + 1)) r' cap lo hi un := by
  obtain ⟨a1, a2, a3, m, b1, b2, b3, b4⟩ := h
  have hmn : m = n := by rw [hm, nI_eq (by omega) (by omega)] at b3; exact b3.symm
  subst hmn
  refine ⟨?_, ?_, ?_, m + 1, by omega, mu_s, rfl, fun i hi => ?_⟩
  · simpa (disch := omega) only [mu_o, mu_i, mu_s] using a1
  · simpa (disch := omega) only [mu_o, mu_i, mu_s] using a2
  · simpa (disch := omega) only [mu_o, mu_i, mu_s] using a3
  · by_cases e : i = m
    · subst e
      exact ⟨x, hx.1, hx.2, by simp (disch := omega) only [mu_o, mu_i, mu_s], hr'⟩
    · obtain ⟨y, c1, c2, c3, c4⟩ := b4 i (by omega)
      exact ⟨y, c1, c2, by simpa (disch := omega) only [mu_o, mu_i, mu_s] using c3, (hr i (by omega)).trans c4⟩
theorem RwR_clear {Mc : Mem} {k cap lo hi un : Nat} {r : Nat → Int32} {many : Int32} (h : RwR Mc k many r cap lo hi un) : RwR (mu Mc k 0 0) k 0 r cap lo hi un := by
  obtain ⟨a1, a2, a3, -⟩ := h
  refine ⟨?_, ?_, ?_, 0, by omega, mu_s, rfl, fun i hi => absurd hi (Nat.not_lt_zero i)⟩
  · simpa (disch := omega) only [mu_o, mu_i, mu_s] using a1
  · simpa (disch := omega) only [mu_o, mu_i, mu_s] using a2
  · simpa (disch := omega) only [mu_o, mu_i, mu_s] using a3
theorem s_jump (p : Int32) : Sm (fX11_jump p) (fX12_jump p) := by
  intro Mc Mm h
  have h0 := h
  obtain ⟨⟨P, B, n, hBd, hTv, hFx, hBk, hLaw, hTw, hEv, hHe, hTo⟩, -⟩ := h
  obtain ⟨t1, t2, t3, t4, t5⟩ := hTo
  obtain ⟨a1, a2, a3, m, b1, b2, b3, b4⟩ := id t1
  have b2 : Mc 41 0 = nI m := b2
  by_cases c0 : p = -1
  · subst c0
    have e1 : fX11_jump (-1) Mc = some (0, mu Mc 41 0 0) := by unfold fX11_jump; rw [tell_none]; rfl
    have e2 : fX12_jump (-1) Mm = some (0, mu (mu Mm 198 0 0) 198 43 0) := by unfold fX12_jump; dsimp only [bnd]; rw [if_pos rfl]
    have hc : Agr [(41, some 0)] Mc (mu Mc 41 0 0) := Agr.mu Agr.rfl' (Or.inl (by simp))
    have hm : Agr [(198, some 0), (198, some 43)] Mm (mu (mu Mm 198 0 0) 198 43 0) := Agr.mu (Agr.mu Agr.rfl' (Or.inl (by simp))) (Or.inl (by simp))
    exact ⟨_, _, _, e1, e2, AR_to h0 hc hm (by decide +kernel) (by decide +kernel) ⟨RwR_clear t1, RwR_agr hc rfl rfl rfl t2, RwR_agr hc rfl rfl rfl t3, RwR_agr hc rfl rfl rfl t4, t5⟩⟩
  by_cases c1 : ¬ (0 ≤ p ∧ p ≤ 9)
  · exact ⟨-1, Mc, mu Mm 198 0 0, by unfold fX11_jump; rw [tell_out c0 a1 a2 c1]; rfl, by unfold fX12_jump; dsimp only [bnd]; rw [if_neg c0, isIn_no c1, if_pos rfl], AR_told h0⟩
  have c1 := Decidable.not_not.mp c1
  obtain ⟨x, hx, rfl⟩ := in_of (n := 9) (by decide) c1
  by_cases c2 : m = 14
  · subst c2
    exact ⟨-1, Mc, mu Mm 198 0 0, by unfold fX11_jump; rw [tell_full c0 a1 a2 c1 (c := 14) rfl (by decide) b2]; rfl, by unfold fX12_jump; dsimp only [bnd]; rw [if_neg c0, isIn_yes c1, if_neg one_ne, mu_i (by omega), b3, if_pos (show nI 14 = 14 from rfl)], AR_told h0⟩
  · have e1 : fX11_jump (nI x) Mc = some (nI (m + 1), mu (mu Mc 42 m (nI x)) 41 0 (nI (m + 1))) := by unfold fX11_jump; rw [tell_ok c0 a1 a2 c1 (c := 14) (n := m) rfl (by decide) b2 (by omega) (Or.inl a3)]; rfl
    have e2 : fX12_jump (nI x) Mm = some (nI (m + 1), mu (mu (mu Mm 198 0 0) 221 m (nI x)) 198 43 (nI (m + 1))) := by
      unfold fX12_jump; dsimp only [bnd]
      rw [if_neg c0, isIn_yes c1, if_neg one_ne, mu_i (by omega), b3, if_neg (by rw [show (14 : Int32) = nI 14 from rfl, nI_eq (by omega) (by decide)]; omega), wr_nI (by omega), Option.bind_some, mu_s, mu_o (by omega), mu_i (by omega), b3, nI_1]
    have hc : Agr [(41, some 0), (42, none)] Mc (mu (mu Mc 42 m (nI x)) 41 0 (nI (m + 1))) := Agr.mu (Agr.mu Agr.rfl' (Or.inr (by simp))) (Or.inl (by simp))
    have hm : Agr [(198, some 0), (221, none), (198, some 43)] Mm (mu (mu (mu Mm 198 0 0) 221 m (nI x)) 198 43 (nI (m + 1))) := Agr.mu (Agr.mu (Agr.mu Agr.rfl' (Or.inl (by simp))) (Or.inr (by simp))) (Or.inl (by simp))
    refine ⟨_, _, _, e1, e2, AR_to h0 hc hm (by decide +kernel) (by decide +kernel) ⟨?_, RwR_agr hc rfl rfl rfl t2, RwR_agr hc rfl rfl rfl t3, RwR_agr hc rfl rfl rfl t4, t5⟩⟩
    rw [mu_s]
    refine RwR_add (by omega) t1 b3 (by decide) ⟨by omega, hx⟩ (fun i hi => ?_) ?_
    · simp (disch := omega) only [mu_o, mu_i, mu_s]
    · simp (disch := omega) only [mu_o, mu_i, mu_s]
theorem s_turn (p : Int32) : Sm (fX11_turn p) (fX12_turn p) := by
  intro Mc Mm h
  have h0 := h
  obtain ⟨⟨P, B, n, hBd, hTv, hFx, hBk, hLaw, hTw, hEv, hHe, hTo⟩, -⟩ := h
  obtain ⟨t1, t2, t3, t4, t5⟩ := hTo
  obtain ⟨a1, a2, a3, m, b1, b2, b3, b4⟩ := id t2
  have b2 : Mc 43 0 = nI m := b2
  by_cases c0 : p = -1
  · subst c0
    have e1 : fX11_turn (-1) Mc = some (0, mu Mc 43 0 0) := by unfold fX11_turn; rw [tell_none]; rfl
    have e2 : fX12_turn (-1) Mm = some (0, mu (mu Mm 198 0 0) 198 48 0) := by unfold fX12_turn; dsimp only [bnd]; rw [if_pos rfl]
    have hc : Agr [(43, some 0)] Mc (mu Mc 43 0 0) := Agr.mu Agr.rfl' (Or.inl (by simp))
    have hm : Agr [(198, some 0), (198, some 48)] Mm (mu (mu Mm 198 0 0) 198 48 0) := Agr.mu (Agr.mu Agr.rfl' (Or.inl (by simp))) (Or.inl (by simp))
    exact ⟨_, _, _, e1, e2, AR_to h0 hc hm (by decide +kernel) (by decide +kernel) ⟨RwR_agr hc rfl rfl rfl t1, RwR_clear t2, RwR_agr hc rfl rfl rfl t3, RwR_agr hc rfl rfl rfl t4, t5⟩⟩
  by_cases c1 : ¬ (0 ≤ p ∧ p ≤ 2)
  · exact ⟨-1, Mc, mu Mm 198 0 0, by unfold fX11_turn; rw [tell_out c0 a1 a2 c1]; rfl, by unfold fX12_turn; dsimp only [bnd]; rw [if_neg c0, isIn_no c1, if_pos rfl], AR_told h0⟩
  have c1 := Decidable.not_not.mp c1
  obtain ⟨x, hx, rfl⟩ := in_of (n := 2) (by decide) c1
  by_cases c2 : m = 16
  · subst c2
    exact ⟨-1, Mc, mu Mm 198 0 0, by unfold fX11_turn; rw [tell_full c0 a1 a2 c1 (c := 16) rfl (by decide) b2]; rfl, by unfold fX12_turn; dsimp only [bnd]; rw [if_neg c0, isIn_yes c1, if_neg one_ne, mu_i (by omega), b3, if_pos (show nI 16 = 16 from rfl)], AR_told h0⟩
  · have e1 : fX11_turn (nI x) Mc = some (nI (m + 1), mu (mu Mc 44 m (nI x)) 43 0 (nI (m + 1))) := by unfold fX11_turn; rw [tell_ok c0 a1 a2 c1 (c := 16) (n := m) rfl (by decide) b2 (by omega) (Or.inl a3)]; rfl
    have e2 : fX12_turn (nI x) Mm = some (nI (m + 1), mu (mu (mu Mm 198 0 0) 225 m (nI x)) 198 48 (nI (m + 1))) := by
      unfold fX12_turn; dsimp only [bnd]
      rw [if_neg c0, isIn_yes c1, if_neg one_ne, mu_i (by omega), b3, if_neg (by rw [show (16 : Int32) = nI 16 from rfl, nI_eq (by omega) (by decide)]; omega), wr_nI (by omega), Option.bind_some, mu_s, mu_o (by omega), mu_i (by omega), b3, nI_1]
    have hc : Agr [(43, some 0), (44, none)] Mc (mu (mu Mc 44 m (nI x)) 43 0 (nI (m + 1))) := Agr.mu (Agr.mu Agr.rfl' (Or.inr (by simp))) (Or.inl (by simp))
    have hm : Agr [(198, some 0), (225, none), (198, some 48)] Mm (mu (mu (mu Mm 198 0 0) 225 m (nI x)) 198 48 (nI (m + 1))) := Agr.mu (Agr.mu (Agr.mu Agr.rfl' (Or.inl (by simp))) (Or.inr (by simp))) (Or.inl (by simp))
    refine ⟨_, _, _, e1, e2, AR_to h0 hc hm (by decide +kernel) (by decide +kernel) ⟨RwR_agr hc rfl rfl rfl t1, ?_, RwR_agr hc rfl rfl rfl t3, RwR_agr hc rfl rfl rfl t4, t5⟩⟩
    rw [mu_s]
    refine RwR_add (by omega) t2 b3 (by decide) ⟨by omega, hx⟩ (fun i hi => ?_) ?_
    · simp (disch := omega) only [mu_o, mu_i, mu_s]
    · simp (disch := omega) only [mu_o, mu_i, mu_s]
theorem s_nine (p q : Int32) : Sm (fX11_nine p q) (fX12_nine p q) := by
  intro Mc Mm h
  have h0 := h
  obtain ⟨⟨P, B, n, hBd, hTv, hFx, hBk, hLaw, hTw, hEv, hHe, hTo⟩, -⟩ := h
  obtain ⟨t1, t2, t3, t4, t5⟩ := hTo
  by_cases c1 : ¬ (0 ≤ p ∧ p ≤ 8)
  · exact ⟨0, Mc, mu Mm 198 0 0, by unfold fX11_nine; rw [isW_isIn, isIn_no c1, if_pos rfl], by unfold fX12_nine; dsimp only [bnd]; rw [isIn_no c1, if_pos rfl], AR_told h0⟩
  have c1 := Decidable.not_not.mp c1
  by_cases c2 : ¬ (0 ≤ q ∧ q ≤ 30)
  · exact ⟨0, Mc, mu Mm 198 0 0, by unfold fX11_nine; rw [isW_isIn, isIn_yes c1, if_neg one_ne, isIn_no c2, if_pos rfl], by unfold fX12_nine; dsimp only [bnd]; rw [isIn_yes c1, if_neg one_ne, isIn_no c2, if_pos rfl], AR_told h0⟩
  have c2 := Decidable.not_not.mp c2
  obtain ⟨x, hx, rfl⟩ := in_of (n := 8) (by decide) c1
  obtain ⟨y, hy, rfl⟩ := in_of (n := 30) (by decide) c2
  have e1 : fX11_nine (nI x) (nI y) Mc = some (1, mu Mc 49 x (nI y)) := by unfold fX11_nine; rw [isW_isIn, isIn_yes c1, if_neg one_ne, isIn_yes c2, if_neg one_ne, wr_nI (by omega)]; rfl
  have e2 : fX12_nine (nI x) (nI y) Mm = some (1, mu (mu Mm 198 0 0) 230 x (nI y)) := by unfold fX12_nine; dsimp only [bnd]; rw [isIn_yes c1, if_neg one_ne, isIn_yes c2, if_neg one_ne, wr_nI (by omega)]; rfl
  have hc : Agr [(49, none)] Mc (mu Mc 49 x (nI y)) := Agr.mu Agr.rfl' (Or.inr (by simp))
  have hm : Agr [(198, some 0), (230, none)] Mm (mu (mu Mm 198 0 0) 230 x (nI y)) := Agr.mu (Agr.mu Agr.rfl' (Or.inl (by simp))) (Or.inr (by simp))
  refine ⟨_, _, _, e1, e2, AR_to h0 hc hm (by decide +kernel) (by decide +kernel) ⟨RwR_agr hc rfl rfl rfl t1, RwR_agr hc rfl rfl rfl t2, RwR_agr hc rfl rfl rfl t3, RwR_agr hc rfl rfl rfl t4, fun i hi => ?_⟩⟩
  by_cases e : i = x
  · subst e; exact ⟨y, hy, mu_s, mu_s⟩
  · obtain ⟨z, z1, z2, z3⟩ := t5 i hi
    have z2 : Mc 49 i = nI z := z2
    exact ⟨z, z1, by simpa (disch := omega) only [mu_o, mu_i, mu_s] using z2, by simpa (disch := omega) only [mu_o, mu_i, mu_s] using z3⟩
/-- a call of the class that only answers -/
theorem Sm_T {f1 : Mem → Int32} {F2 : Mem → Option (Int32 × Mem)} (h : ∀ Mc Mm, AR Mc Mm → F2 Mm = some (f1 Mc, mu Mm 198 0 0)) : Sm (fun M => some (f1 M, M)) F2 := fun Mc Mm hA => ⟨f1 Mc, Mc, _, rfl, h Mc Mm hA, AR_told hA⟩
theorem s_fault (p : Int32) : Sm (fun M => some (fX11_fault p M, M)) (fX12_fault p) := Sm_T fun Mc Mm h => by
  obtain ⟨-, -, -, ⟨f1, f2⟩, -⟩ := h
  unfold fX11_fault fX12_fault
  dsimp only [bnd]
  by_cases c0 : p = 0
  · rw [if_pos c0, if_pos c0, f1, mu_i (by omega)]
  · by_cases c1 : p = 1
    · rw [if_neg c0, if_pos c1, if_neg c0, if_pos c1, f2, mu_i (by omega)]
    · rw [if_neg c0, if_neg c1, if_neg c0, if_neg c1]
abbrev fcP : List (Nat × Option Nat) := ftC 1 ++ (((0, some 2) :: ftC 53) ++ (ftPa ++ (ftCs ++ [(178, some 2), (178, some 3)])))
theorem s_end (p : Int32) : Sm (fX11_end p) (fX12_end p) := by
  intro Mc Mm h
  have h0 := h
  obtain ⟨hC, ⟨N, hN, hN2, hPa⟩, ⟨n, hn, b1, b2, b3⟩, hFa, hIm, hCs⟩ := h
  by_cases c : 0 ≤ p ∧ p ≤ nI n
  · obtain ⟨x, hx, rfl⟩ := in_of (n := n) (by omega) c
    have e1 : fX11_end (nI x) Mc = some (1, mu Mc 178 1 (nI x)) := by unfold fX11_end; rw [isW_isIn, b1, isIn_yes c, if_neg one_ne]; rfl
    have e2 : fX12_end (nI x) Mm = some (1, mu (mu Mm 198 0 0) 198 13 (nI x)) := by unfold fX12_end; dsimp only [bnd]; rw [mu_i (by omega), b2, isIn_yes c, if_neg one_ne]
    have hc : Agr [(178, some 1)] Mc (mu Mc 178 1 (nI x)) := Agr.mu Agr.rfl' (Or.inl (by simp))
    have hm : Agr [(198, some 0), (198, some 13)] Mm (mu (mu Mm 198 0 0) 198 13 (nI x)) := Agr.mu (Agr.mu Agr.rfl' (Or.inl (by simp))) (Or.inl (by simp))
    obtain ⟨P, B, n', hBd, hTv, hFx, hBk, hLaw, hTw, hEv, hHe, hTo⟩ := hC
    exact ⟨_, _, _, e1, e2, ⟨P, B, n', Bd_agr hm rfl hBd, hTv, Fx_agr hc hm rfl rfl hFx, Bk_agr hc hm rfl rfl rfl hBk, LawR_agr hc hm rfl rfl hLaw, TwR_agr hc hm rfl rfl hTw, EvR_agr hc hm rfl rfl hEv, HeR_agr hc hm rfl rfl hHe, ToR_agr hc hm rfl rfl hTo⟩, ⟨N, hN, hN2, PaR_agr (Nat.le_refl _) hc hm (by decide +kernel) rfl hPa⟩, ⟨x, by omega, rfl, rfl, fun i hi => b3 i (by omega)⟩, hFa, ImR_agr hc hm (by decide +kernel) rfl hIm, CsR_agr hc hm (by decide +kernel) rfl rfl rfl hCs⟩
  · exact ⟨0, Mc, mu Mm 198 0 0, by unfold fX11_end; rw [isW_isIn, b1, isIn_no c, if_pos rfl], by unfold fX12_end; dsimp only [bnd]; rw [mu_i (by omega), b2, isIn_no c, if_pos rfl], AR_told h0⟩
