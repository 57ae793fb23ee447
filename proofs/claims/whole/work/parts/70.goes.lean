/-! ===== goes, holds ===== -/
theorem AR_199 {Mc Mm Mm' : Mem} (hA : AR Mc Mm) (e : ∀ a i, a ≠ 199 ∨ i < 83 → Mm' a i = Mm a i) : AR Mc Mm' := by
  have hm : Agr [(199, none)] Mm Mm' := fun a i q1 _ => e a i (Or.inl fun q => q1 (by rw [q]; simp))
  have ho : Agr [] Mc Mc := Agr.rfl'
  obtain ⟨⟨P, B, n, hBd, hTv, hFx, hBk, hLaw, hTw, hEv, hHe, hTo⟩, ⟨N, hN, hN2, hPa⟩, hTa, hFa, hIm, hCs⟩ := hA
  have e2 : Mm' 199 2 = Mm 199 2 := e 199 2 (Or.inr (by omega))
  refine ⟨⟨P, B, n, Bd_agr hm rfl hBd, Tv_rr hTv (fun i hi => e 199 i (Or.inr hi)), Fx_agr ho hm rfl rfl hFx, Bk_agr ho hm rfl rfl e2 hBk, LawR_agr ho hm rfl rfl hLaw, TwR_agr ho hm rfl rfl hTw, EvR_agr ho hm rfl rfl hEv, HeR_agr ho hm rfl rfl hHe, ToR_agr ho hm rfl rfl hTo⟩, ⟨N, e2.trans hN, hN2, PaR_agr (Nat.le_refl _) ho hm rfl (by decide +kernel) hPa⟩, TaR_agr ho hm rfl rfl hTa, ?_, ImR_agr ho hm rfl rfl hIm, CsR_agr ho hm rfl rfl (e 226 0 (Or.inl (by omega))) (e 227 0 (Or.inl (by omega))) hCs⟩
  rw [e 198 33 (Or.inl (by omega)), e 198 34 (Or.inl (by omega))]; exact hFa
theorem th_in : ∀ (k F j : Nat) (M : Mem), j + k = 83 → k < F → ∃ M', fX12_thinks_L2 F (nI j) M = some M' ∧ (∀ i, i < j → M' 201 i = M 201 i) ∧ (∀ i, j ≤ i → i < 83 → M' 201 i = M 199 i) ∧ M' 198 5 = 1 ∧ (∀ a i, a ≠ 201 → (a = 198 → i ≠ 5) → M' a i = M a i)
  | k, 0, j, M, _, h => by omega
  | 0, F + 1, j, M, h1, h2 => by
    have c : (83 : Int32) ≤ nI j := nI_le (show 83 ≤ j by omega) (by omega)
    refine ⟨mu M 198 5 1, by rw [fX12_thinks_L2, if_pos c, bnd_eq], fun i _ => mu_o (by omega), fun i a b => by omega, mu_s, fun a i q1 q2 => ?_⟩
    by_cases e : a = 198
    · subst e; exact mu_i (q2 rfl)
    · exact mu_o e
  | k + 1, F + 1, j, M, h1, h2 => by
    have c : ¬ (83 : Int32) ≤ nI j := nI_ge (show j < 83 by omega) (by decide)
    obtain ⟨M', e1, e2, e3, e4, e5⟩ := th_in k F (j + 1) (mu M 201 j (M 199 j)) (by omega) (by omega)
    refine ⟨M', ?_, fun i hi => ?_, fun i a b => ?_, e4, fun a i q1 q2 => ?_⟩
    · rw [fX12_thinks_L2, if_neg c, rd_nI (by omega), Option.bind_some, wr_nI (by omega), Option.bind_some, nI_1, e1]
    · rw [e2 i (by omega), mu_i (by omega)]
    · by_cases d : i = j
      · subst d; rw [e2 i (by omega), mu_s]
      · rw [e3 i (by omega) b, mu_o (by omega)]
    · rw [e5 a i q1 q2, mu_o q1]
theorem th_out : ∀ (k F j : Nat) (M : Mem), j + k = 83 → k < F → ∃ M', fX12_endsThought_L2 F (nI j) M = some M' ∧ (∀ i, i < j → M' 199 i = M 199 i) ∧ (∀ i, j ≤ i → i < 83 → M' 199 i = M 201 i) ∧ M' 198 5 = 0 ∧ (∀ a i, a ≠ 199 → (a = 198 → i ≠ 5) → M' a i = M a i)
  | k, 0, j, M, _, h => by omega
  | 0, F + 1, j, M, h1, h2 => by
    have c : (83 : Int32) ≤ nI j := nI_le (show 83 ≤ j by omega) (by omega)
    refine ⟨mu M 198 5 0, by rw [fX12_endsThought_L2, if_pos c, bnd_eq], fun i _ => mu_o (by omega), fun i a b => by omega, mu_s, fun a i q1 q2 => ?_⟩
    by_cases e : a = 198
    · subst e; exact mu_i (q2 rfl)
    · exact mu_o e
  | k + 1, F + 1, j, M, h1, h2 => by
    have c : ¬ (83 : Int32) ≤ nI j := nI_ge (show j < 83 by omega) (by decide)
    obtain ⟨M', e1, e2, e3, e4, e5⟩ := th_out k F (j + 1) (mu M 199 j (M 201 j)) (by omega) (by omega)
    refine ⟨M', ?_, fun i hi => ?_, fun i a b => ?_, e4, fun a i q1 q2 => ?_⟩
    · rw [fX12_endsThought_L2, if_neg c, rd_nI (by omega), Option.bind_some, wr_nI (by omega), Option.bind_some, nI_1, e1]
    · rw [e2 i (by omega), mu_i (by omega)]
    · by_cases d : i = j
      · subst d; rw [e2 i (by omega), mu_s]
      · rw [e3 i (by omega) b, mu_o (by omega)]
    · rw [e5 a i q1 q2, mu_o q1]
/-- a thought begins: copies on both sides -/
theorem th_begin {Mc Mm : Mem} (hA : AR Mc Mm) : ∃ P B Mc1 Mm1, fX9_copyFrom 168 2 Mc = some Mc1 ∧ fX12_thinks Mm = some Mm1 ∧ D0 168 true P B Mc1 Mm1 ∧ DR 168 true 0 Mc1 Mm1 Mc1 Mm1 ∧ (∀ x i, (x < 168 ∨ 177 < x) → Mc1 x i = Mc x i) ∧ (∀ a i, a ≠ 201 → (a = 198 → i ≠ 5) → Mm1 a i = Mm a i) ∧ ∀ i, i < 83 → Mm1 201 i = Mm 199 i := by
  obtain ⟨⟨P, B, n, hBd, hTv, hFx, hBk, hLaw, hTw, hEv, hHe, hTo⟩, -⟩ := hA
  obtain ⟨Mc1, e1, b1, b2, b3, b4⟩ := copy_is (M := Mc) (d := 168) (s := 2) (by omega)
  obtain ⟨Mm1, e2, -, c3, c4, c5⟩ := th_in 83 FU 0 Mm (by omega) (FU_gt (by omega))
  rw [nI_0] at e2
  have hc : Agr [(168, none), (169, none), (170, none), (171, none), (172, none), (173, none), (174, none), (175, none), (176, none), (177, none)] Mc Mc1 := fun a i q1 _ => b4 a i (by
    simp only [List.mem_cons, Prod.mk.injEq, List.not_mem_nil, or_false, not_or, and_true] at q1
    omega)
  have hm : Agr [(201, none), (198, some 5)] Mm Mm1 := fun a i q1 q2 => c5 a i (fun e => q1 (by rw [e]; simp)) (fun e1 e2 => q2 (by rw [e1, e2]; simp))
  have m199 : Mm1 199 = Mm 199 := funext fun i => c5 199 i (by omega) (fun e => by omega)
  refine ⟨P, B, Mc1, Mm1, e1, e2, ⟨Or.inr rfl, Fx_agr (Agr.rfl' (S := [])) hm rfl rfl (Fx_copy hFx b1 b3), Bd_agr hm rfl hBd, LawR_agr hc hm rfl rfl hLaw, TwR_agr hc hm rfl rfl hTw, EvR_agr hc hm rfl rfl hEv, HeR_agr hc hm rfl rfl hHe, fun _ => c4, fun e => (by cases e)⟩, ⟨Agr.rfl', Agr.rfl', by rw [m199]; exact Tv_copy hTv b1 b2 b3, fun e => (by cases e)⟩, b4, c5, fun i hi => c3 i (by omega) hi⟩
/-- a thought ends: nothing of it stays -/
theorem th_end {Mc Mm Mc1 Mm1 Mc2 Mm2 : Mem} (hA : AR Mc Mm) (b4 : ∀ x i, (x < 168 ∨ 177 < x) → Mc1 x i = Mc x i) (c5 : ∀ a i, a ≠ 201 → (a = 198 → i ≠ 5) → Mm1 a i = Mm a i) (c6 : ∀ i, i < 83 → Mm1 201 i = Mm 199 i) (h : DR 168 true 0 Mc1 Mm1 Mc2 Mm2) : ∃ Mm3, fX12_endsThought Mm2 = some Mm3 ∧ AR Mc2 Mm3 := by
  obtain ⟨Mm3, e1, -, e3, e4, e5⟩ := th_out 83 FU 0 Mm2 (by omega) (FU_gt (by omega))
  rw [nI_0] at e1
  obtain ⟨hc, hm, -, -⟩ := h
  have m5 : Mm 198 5 = 0 := hA.2.2.2.2.2.2.2.2.2.2.2.2.2.2.2
  have m2 : ∀ a i, a ≠ 199 → a ≠ 219 → a ≠ 220 → Mm2 a i = Mm1 a i := fun a i q1 q2 q3 => hm a i (by
    show (a, none) ∉ [((199 : Nat), (none : Option Nat)), (219, none), (220, none)]
    simp [q1, q2, q3]) (by
    show (a, some i) ∉ [((199 : Nat), (none : Option Nat)), (219, none), (220, none)]
    simp)
  refine ⟨Mm3, e1, ?_⟩
  have r1 : AR Mc2 Mm := by
    refine AR_c (Sc := [(23, none), (24, none), (168, none), (169, none), (170, none), (171, none), (172, none), (173, none), (174, none), (175, none), (176, none), (177, none)]) (fun a i q1 _ => ?_) (by decide +kernel) hA
    simp only [List.mem_cons, Prod.mk.injEq, List.not_mem_nil, or_false, not_or, and_true] at q1
    rw [hc a i (by
      show (a, none) ∉ FCk 168
      simp only [List.mem_cons, Prod.mk.injEq, List.not_mem_nil, or_false, not_or, and_true, reduceCtorEq, and_false, not_false_eq_true, true_and]
      omega) (by
      show (a, some i) ∉ FCk 168
      simp only [List.mem_cons, Prod.mk.injEq, List.not_mem_nil, or_false, not_or, reduceCtorEq, and_false, not_false_eq_true, true_and, Option.some.injEq]
      omega), b4 a i (by omega)]
  have r2 : AR Mc2 (mf Mm3 199 (Mm 199)) := by
    refine AR_m (Sm := [(201, none), (219, none), (220, none)]) (fun a i q1 _ => ?_) (by decide +kernel) r1
    simp only [List.mem_cons, Prod.mk.injEq, List.not_mem_nil, or_false, not_or, and_true] at q1
    by_cases q : a = 199
    · subst q; rw [mf_s]
    · rw [mf_o q]
      by_cases z : a = 198 ∧ i = 5
      · rw [z.1, z.2, e4, m5]
      · rw [e5 a i q (fun w1 w2 => z ⟨w1, w2⟩), m2 a i q (by omega) (by omega), c5 a i (by omega) (fun w1 w2 => z ⟨w1, w2⟩)]
  refine AR_199 r2 fun a i q => ?_
  by_cases z : a = 199
  · subst z
    have hi : i < 83 := by omega
    rw [mf_s, e3 i (by omega) hi, m2 201 i (by omega) (by omega) (by omega), c6 i hi]
  · rw [mf_o z]
theorem go_loop {P B : Nat} {Mc0 Mm0 : Mem} (h0 : D0 168 true P B Mc0 Mm0) {z : Nat} (hz : z ≤ 60) : ∀ (k F i : Nat) (Mc Mm : Mem), i + k = z → k < F → DR 168 true 0 Mc0 Mm0 Mc Mm → ∃ Mc' Mm', DR 168 true 0 Mc0 Mm0 Mc' Mm' ∧ (∀ K, fX11_goes_L37 K (nI z) F (nI i) Mc = K Mc') ∧ ∀ K, fX12_goes_L34 K (nI z) F (nI i) Mm = K Mm'
  | k, 0, i, Mc, Mm, _, h, _ => by omega
  | 0, F + 1, i, Mc, Mm, h1, h2, h => by
    have c : nI z ≤ nI i := nI_le (by omega) (by omega)
    exact ⟨Mc, Mm, h, fun K => by rw [fX11_goes_L37, if_pos c], fun K => by rw [fX12_goes_L34, if_pos c]⟩
  | k + 1, F + 1, i, Mc, Mm, h1, h2, h => by
    have c : ¬ nI z ≤ nI i := nI_ge (by omega) (by omega)
    obtain ⟨a, Mc1, Mm1, d1, d2, d3⟩ := day_eq h0 h
    have d2 : fX0_goDay 168 1 Mc = some (a, Mc1) := d2
    obtain ⟨Mc2, Mm2, e1, e2, e3⟩ := go_loop h0 hz k F (i + 1) Mc1 Mm1 (by omega) (by omega) d1
    exact ⟨Mc2, Mm2, e1, fun K => by rw [fX11_goes_L37, if_neg c, d2, Option.bind_some, nI_1]; exact e2 K, fun K => by rw [fX12_goes_L34, if_neg c, d3, Option.bind_some, nI_1]; exact e3 K⟩
theorem ow_sum {Mc Mm : Mem} {P : Nat} (hP : P ≤ 12) (h4 : Mc 168 4 = nI P) (h : ∀ p, p < 12 → Mc 171 p = Mm 199 (29 + p)) : ∀ (k F i : Nat) (a : Int32), i + k = P → k < F → ∃ r, fX9_owesOfAll_L4 Mc F a (nI i) = some r ∧ fX12_sumOf_L5 29 (nI P) Mm F a (nI i) = some r
  | k, 0, i, a, _, h => by omega
  | 0, F + 1, i, a, h1, h2 => by
    have c : nI P ≤ nI i := nI_le (by omega) (by omega)
    exact ⟨a, by rw [fX9_owesOfAll_L4, h4, if_pos c], by rw [fX12_sumOf_L5, if_pos c]⟩
  | k + 1, F + 1, i, a, h1, h2 => by
    have c : ¬ nI P ≤ nI i := nI_ge (by omega) (by omega)
    obtain ⟨r, e1, e2⟩ := ow_sum hP h4 h k F (i + 1) (a + Mm 199 (29 + i)) (by omega) (by omega)
    exact ⟨r, by rw [fX9_owesOfAll_L4, h4, if_neg c, rd_nI (by omega), h i (by omega), Option.bind_some, bnd_eq, nI_1, e1], by rw [fX12_sumOf_L5, if_neg c, ladd 29 i, rd_nI (by omega), Option.bind_some, bnd_eq, nI_1, e2]⟩
theorem cl_sum {Mc Mm : Mem} {B : Nat} (hB : B ≤ 14) (h5 : Mc 168 5 = nI B) (h : ∀ b, b < 14 → Mc 175 b = Mm 199 (41 + b)) : ∀ (k F i : Nat) (a : Int32), i + k = B → k < F → ∃ r, fX9_clearOfAll_L4 Mc F a (nI i) = some r ∧ fX12_sumOf_L5 41 (nI B) Mm F a (nI i) = some r
  | k, 0, i, a, _, h => by omega
  | 0, F + 1, i, a, h1, h2 => by
    have c : nI B ≤ nI i := nI_le (by omega) (by omega)
    exact ⟨a, by rw [fX9_clearOfAll_L4, h5, if_pos c], by rw [fX12_sumOf_L5, if_pos c]⟩
  | k + 1, F + 1, i, a, h1, h2 => by
    have c : ¬ nI B ≤ nI i := nI_ge (by omega) (by omega)
    obtain ⟨r, e1, e2⟩ := cl_sum hB h5 h k F (i + 1) (a + Mm 199 (41 + i)) (by omega) (by omega)
    exact ⟨r, by rw [fX9_clearOfAll_L4, h5, if_neg c, rd_nI (by omega), h i (by omega), Option.bind_some, bnd_eq, nI_1, e1], by rw [fX12_sumOf_L5, if_neg c, ladd 41 i, rd_nI (by omega), Option.bind_some, bnd_eq, nI_1, e2]⟩
theorem s_goes (p q : Int32) : Sm (fX11_goes p q) (fX12_goes p q) := fun Mc Mm hA => by
  have hA1 := AR_told hA
  unfold fX11_goes fX12_goes
  rw [isW_isIn, bnd_eq]
  by_cases c1 : ¬ (1 ≤ p ∧ p ≤ 60)
  · rw [isIn_no c1, if_pos rfl, if_pos rfl]; exact ⟨_, _, _, rfl, rfl, hA1⟩
  have c1 := Decidable.not_not.mp c1
  rw [isIn_yes c1, if_neg one_ne, if_neg one_ne]
  by_cases c2 : ¬ (0 ≤ q ∧ q ≤ 3)
  · rw [isIn_no c2, if_pos rfl, if_pos rfl]; exact ⟨_, _, _, rfl, rfl, hA1⟩
  have c2 := Decidable.not_not.mp c2
  rw [isIn_yes c2, if_neg one_ne, if_neg one_ne]
  obtain ⟨z, z1, z2, rfl⟩ := in_of1 (m := 1) (n := 60) (by decide) (by decide) c1
  obtain ⟨j, hj, rfl⟩ := in_of (n := 3) (by decide) c2
  obtain ⟨P, B, Mc1, Mm1, e1, e2, h0, h, b4, b5, b6⟩ := th_begin hA1
  obtain ⟨Mc2, Mm2, d1, d2, d3⟩ := go_loop h0 z2 z FU 0 Mc1 Mm1 (by omega) (FU_gt (by omega)) h
  rw [nI_0] at d2 d3
  obtain ⟨Mm3, f1, f2⟩ := th_end hA1 b4 b5 b6 d1
  obtain ⟨hT, hF, hB, -⟩ := D0_ask h0 d1
  have hB14 := hB.2.1
  have hP12 := hB.1
  have mB : Mm2 198 7 = nI B := hB.2.2.2.1
  have mP : Mm2 198 6 = nI P := hB.2.2.1
  have cB : Mc2 168 5 = nI B := hF.2.1.trans mB
  have cP : Mc2 168 4 = nI P := hF.1.trans mP
  have his : ∀ w : Int32, bN (fun b => decide (Mc2 (168 + 9) b = w)) B = bN (fun b => decide (Mm2 199 (69 + b) = w)) B := fun w => bN_congr fun b hb => by rw [(hT.2.2.1 b (by omega)).2.2]
  have lt : ∀ w : Int32, bN (fun b => decide (Mm2 199 (69 + b) = w)) B < 65536 := fun w => Nat.lt_of_lt_of_le (bN_lt _ _) (Nat.le_trans (Nat.pow_le_pow_right (by omega) hB14) (by decide))
  rw [e1, e2, Option.bind_some, Option.bind_some, d2, d3, jn_eq]
  have s3 : ∀ (a b c dv : Option (Int32 × Mem)), swt (nI 3) 0 [a, b, c] dv = dv := fun a b c dv => rfl
  have s2 : ∀ (a b c dv : Option (Int32 × Mem)), swt (nI 2) 0 [a, b, c] dv = c := fun a b c dv => rfl
  have s1 : ∀ (a b c dv : Option (Int32 × Mem)), swt (nI 1) 0 [a, b, c] dv = b := fun a b c dv => rfl
  have s0 : ∀ (a b c dv : Option (Int32 × Mem)), swt (nI 0) 0 [a, b, c] dv = a := fun a b c dv => rfl
  rcases (show j = 0 ∨ j = 1 ∨ j = 2 ∨ j = 3 by omega) with rfl | rfl | rfl | rfl
  · rw [s0, those_eq 1 cB hB14, his, Option.bind_some, if_pos (show nI 0 = 0 from rfl), setIs_eq 1 mB hB14, Option.bind_some, ones_bc (lt 1), Option.bind_some]
    dsimp only
    rw [f1, Option.bind_some]
    exact ⟨_, _, _, rfl, rfl, f2⟩
  · obtain ⟨r, r1, r2⟩ := ow_sum hP12 cP (fun p hp => (hT.2.1 p hp).2.2) P FU 0 0 (by omega) (FU_gt (by omega))
    rw [nI_0] at r1 r2
    have r1 : fX9_owesOfAll Mc2 = some r := r1
    have r2 : fX12_sumOf 29 (nI P) Mm2 = some r := r2
    rw [s1, r1, Option.bind_some, if_neg (show ¬ nI 1 = 0 from by decide), if_pos (show nI 1 = 1 from rfl), mP, r2, Option.bind_some]
    dsimp only
    rw [f1, Option.bind_some]
    exact ⟨_, _, _, rfl, rfl, f2⟩
  · rw [s2, those_eq 2 cB hB14, his, Option.bind_some, if_neg (show ¬ nI 2 = 0 from by decide), if_neg (show ¬ nI 2 = 1 from by decide), if_pos (show nI 2 = 2 from rfl), setIs_eq 2 mB hB14, Option.bind_some, ones_bc (lt 2), Option.bind_some]
    dsimp only
    rw [f1, Option.bind_some]
    exact ⟨_, _, _, rfl, rfl, f2⟩
  · obtain ⟨r, r1, r2⟩ := cl_sum hB14 cB (fun b hb => (hT.2.2.1 b hb).1) B FU 0 0 (by omega) (FU_gt (by omega))
    rw [nI_0] at r1 r2
    have r1 : fX9_clearOfAll Mc2 = some r := r1
    have r2 : fX12_sumOf 41 (nI B) Mm2 = some r := r2
    rw [s3, r1, Option.bind_some, if_neg (show ¬ nI 3 = 0 from by decide), if_neg (show ¬ nI 3 = 1 from by decide), if_neg (show ¬ nI 3 = 2 from by decide), mB, r2, Option.bind_some]
    dsimp only
    rw [f1, Option.bind_some]
    exact ⟨_, _, _, rfl, rfl, f2⟩
theorem ho_loop {P B : Nat} {Mc0 Mm0 : Mem} (h0 : D0 168 true P B Mc0 Mm0) {b : Nat} (hb : b < B) : ∀ (k F i : Nat) (Mc Mm : Mem), i + k = 61 → k < F → DR 168 true 0 Mc0 Mm0 Mc Mm → ∃ e Mc' Mm', e ≤ 61 ∧ DR 168 true 0 Mc0 Mm0 Mc' Mm' ∧ fX11_holds_L32 (nI b) F (nI i) Mc = some (if e = 61 then -1 else nI e, Mc') ∧ ∀ K, fX12_holds_L21 K (nI b) F (nI i) Mm = K (nI e) Mm'
  | k, 0, i, Mc, Mm, _, h, _ => by omega
  | 0, F + 1, i, Mc, Mm, h1, h2, h => by
    have c : (60 : Int32) < nI i := nI_lt (show 60 < i by omega) (by omega)
    have ei : i = 61 := by omega
    exact ⟨i, Mc, Mm, by omega, h, by rw [fX11_holds_L32, if_pos c, if_pos ei], fun K => by rw [fX12_holds_L21, if_pos c]⟩
  | k + 1, F + 1, i, Mc, Mm, h1, h2, h => by
    have c : ¬ (60 : Int32) < nI i := nI_nlt (show i ≤ 60 by omega) (by decide)
    obtain ⟨hT, hF, hB, -⟩ := D0_ask h0 h
    have hB14 := hB.2.1
    have t3 : Mc 177 b = Mm 199 (69 + b) := (hT.2.2.1 b (by omega)).2.2
    by_cases d : Mm 199 (69 + b) = 1
    · exact ⟨i, Mc, Mm, by omega, h, by rw [fX11_holds_L32, if_neg c, rd_nI (by omega), t3, Option.bind_some, if_pos d, if_neg (by omega)], fun K => by rw [fX12_holds_L21, if_neg c, ladd 69 b, rd_nI (by omega), Option.bind_some, if_pos d]⟩
    · obtain ⟨a, Mc1, Mm1, d1, d2, d3⟩ := day_eq h0 h
      have d2 : fX0_goDay 168 1 Mc = some (a, Mc1) := d2
      obtain ⟨e, Mc2, Mm2, e0, e1, e2, e3⟩ := ho_loop h0 hb k F (i + 1) Mc1 Mm1 (by omega) (by omega) d1
      exact ⟨e, Mc2, Mm2, e0, e1, by rw [fX11_holds_L32, if_neg c, rd_nI (by omega), t3, Option.bind_some, if_neg d, d2, Option.bind_some, nI_1]; exact e2, fun K => by rw [fX12_holds_L21, if_neg c, ladd 69 b, rd_nI (by omega), Option.bind_some, if_neg d, d3, Option.bind_some, bnd_eq, nI_1]; exact e3 K⟩
theorem s_holds (p : Int32) : Sm (fX11_holds p) (fX12_holds p) := fun Mc Mm hA => by
  have hA1 := AR_told hA
  obtain ⟨P', B', n, g0, g, -, -⟩ := AR_D0 hA1
  obtain ⟨-, gF, gB, -⟩ := D0_ask g0 g
  unfold fX11_holds fX12_holds
  rw [bnd_eq, hasB_eq gF.2.1]
  by_cases d : fX12_isBargain p (mu Mm 198 0 0) = 0
  · rw [if_pos d, if_pos d]; exact ⟨_, _, _, rfl, rfl, hA1⟩
  obtain ⟨b, hb, rfl⟩ := isB_yes gB.2.2.2.1 (by have := gB.2.1; omega) d
  rw [if_neg d, if_neg d]
  obtain ⟨P, B, Mc1, Mm1, e1, e2, h0, h, b4, b5, b6⟩ := th_begin hA1
  have eB : B' = B := by
    have a1 := gB.2.2.2.1
    have a2 := h0.2.2.1.2.2.2.1
    have a3 := gB.2.1
    have a4 := h0.2.2.1.2.1
    rw [b5 198 7 (by omega) (fun _ => by omega), a1] at a2
    exact (nI_eqb (by omega) (by omega)).mp a2
  subst eB
  obtain ⟨e, Mc2, Mm2, d0, d1, d2, d3⟩ := ho_loop h0 hb 61 FU 0 Mc1 Mm1 (by omega) (FU_gt (by omega)) h
  rw [nI_0] at d2 d3
  obtain ⟨Mm3, f1, f2⟩ := th_end hA1 b4 b5 b6 d1
  rw [e1, e2, Option.bind_some, Option.bind_some, d2, d3, f1, Option.bind_some]
  by_cases c : e = 61
  · rw [if_pos c, if_neg (show ¬ nI e ≤ (60 : Int32) from nI_ge (show 60 < e by omega) (by omega))]
    exact ⟨_, _, _, rfl, rfl, f2⟩
  · rw [if_neg c, if_pos (show nI e ≤ (60 : Int32) from nI_le (show e ≤ 60 by omega) (by decide))]
    exact ⟨_, _, _, rfl, rfl, f2⟩
