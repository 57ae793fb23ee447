/-! ===== what can be undone is kept ===== -/
theorem k_sh : ∀ (k F j : Nat) (M : Mem), j + k = 415 → k < F → M 198 3 = nI 5 → ∃ M', (∀ K, fX12_keepsAhead_L21 K F (nI j) M = K M') ∧ (∀ i, i < j ∨ 415 ≤ i → M' 200 i = M 200 i) ∧ (∀ i, j ≤ i → i < 415 → M' 200 i = M 200 (i + 83)) ∧ ∀ x, x ≠ 200 → M' x = M x
  | k, 0, j, M, _, h, _ => by omega
  | 0, F + 1, j, M, h1, h2, h3 => by
    have c : nI 415 ≤ nI j := nI_le (by omega) (by omega)
    have e : (83 : Int32) * nI 5 = nI 415 := by decide
    exact ⟨M, fun K => by rw [fX12_keepsAhead_L21, h3, e, if_pos c], fun i _ => rfl, fun i a b => by omega, fun x _ => rfl⟩
  | k + 1, F + 1, j, M, h1, h2, h3 => by
    have c : ¬ nI 415 ≤ nI j := nI_ge (by omega) (by omega)
    have e : (83 : Int32) * nI 5 = nI 415 := by decide
    obtain ⟨M', g1, g2, g3, g4⟩ := k_sh k F (j + 1) (mu M 200 j (M 200 (j + 83))) (by omega) (by omega) (by rw [mu_o (by omega)]; exact h3)
    refine ⟨M', fun K => ?_, fun i hi => ?_, fun i a b => ?_, fun x hx => ?_⟩
    · rw [fX12_keepsAhead_L21, h3, e, if_neg c, addl j 83, rd_nI (by omega), Option.bind_some, wr_nI (by omega), Option.bind_some, nI_1, g1]
    · rw [g2 i (by omega), mu_i (by omega)]
    · by_cases q : i = j
      · subst q; rw [g2 i (by omega), mu_s]
      · rw [g3 i (by omega) b, mu_i (by omega)]
    · rw [g4 x hx, mu_c hx]
theorem k_cp {u : Nat} (hu : u < 6) : ∀ (k F j : Nat) (M : Mem), j + k = 83 → k < F → M 198 3 = nI u → ∃ M', (∀ K, fX12_keepsAhead_L55 K F (nI j) M = K M') ∧ (∀ i, i < 83 * u + j ∨ 83 * u + 83 ≤ i → M' 200 i = M 200 i) ∧ (∀ i, j ≤ i → i < 83 → M' 200 (83 * u + i) = M 199 i) ∧ ∀ x, x ≠ 200 → M' x = M x
  | k, 0, j, M, _, h, _ => by omega
  | 0, F + 1, j, M, h1, h2, h3 => by
    have c : (83 : Int32) ≤ nI j := nI_le (show 83 ≤ j by omega) (by omega)
    exact ⟨M, fun K => by rw [fX12_keepsAhead_L55, if_pos c], fun i _ => rfl, fun i a b => by omega, fun x _ => rfl⟩
  | k + 1, F + 1, j, M, h1, h2, h3 => by
    have c : ¬ (83 : Int32) ≤ nI j := nI_ge (show j < 83 by omega) (by decide)
    obtain ⟨M', g1, g2, g3, g4⟩ := k_cp hu k F (j + 1) (mu M 200 (83 * u + j) (M 199 j)) (by omega) (by omega) (by rw [mu_o (by omega)]; exact h3)
    refine ⟨M', fun K => ?_, fun i hi => ?_, fun i a b => ?_, fun x hx => ?_⟩
    · rw [fX12_keepsAhead_L55, if_neg c, rd_nI (by omega), Option.bind_some, h3, lmul 83 u, nI_add, wr_nI (by omega), Option.bind_some, nI_1, g1]
    · rw [g2 i (by omega), mu_i (by omega)]
    · by_cases q : i = j
      · subst q; rw [g2 _ (by omega), mu_s]
      · rw [g3 i (by omega) b, mu_o (by omega)]
    · rw [g4 x hx, mu_c hx]
theorem Fx_ref {Mc Mm Mm' : Mem} {k : Nat} (h : Fx Mc k Mm) (e1 : Mm' 198 6 = Mm 198 6) (e2 : Mm' 198 7 = Mm 198 7) (e3 : Mm' 202 = Mm 202) (e4 : Mm' 203 = Mm 203) (e5 : Mm' 204 = Mm 204) : Fx Mc k Mm' := by
  unfold Fx at *
  rw [e1, e2, e3, e4, e5]; exact h
theorem Tv_cls {Mc Mc' : Mem} {k : Nat} {r : Nat → Int32} (h : Tv Mc k r) (e : ∀ a i, k ≤ a → a ≤ k + 9 → Mc' a i = Mc a i) : Tv Mc' k r := by
  have g : ∀ a, k ≤ a → a ≤ k + 9 → Mc' a = Mc a := fun a q1 q2 => funext fun i => e a i q1 q2
  unfold Tv at *
  rw [g k (by omega) (by omega), g (k + 1) (by omega) (by omega), g (k + 2) (by omega) (by omega), g (k + 3) (by omega) (by omega), g (k + 7) (by omega) (by omega), g (k + 8) (by omega) (by omega), g (k + 9) (by omega) (by omega)]
  exact h
theorem Fx_cls {Mc Mc' Mm : Mem} {k : Nat} (h : Fx Mc k Mm) (e : ∀ a i, k ≤ a → a ≤ k + 9 → Mc' a i = Mc a i) : Fx Mc' k Mm := by
  have g : ∀ a, k ≤ a → a ≤ k + 9 → Mc' a = Mc a := fun a q1 q2 => funext fun i => e a i q1 q2
  unfold Fx at *
  rw [g k (by omega) (by omega), g (k + 4) (by omega) (by omega), g (k + 5) (by omega) (by omega), g (k + 6) (by omega) (by omega)]
  exact h
theorem Tv_rr {Mc : Mem} {k : Nat} {r r' : Nat → Int32} (h : Tv Mc k r) (e : ∀ i, i < 83 → r' i = r i) : Tv Mc k r' := by
  obtain ⟨⟨a1, a2, a3, a4⟩, hp, hb, hz⟩ := h
  refine ⟨⟨?_, ?_, ?_, ?_⟩, fun p h => ?_, fun b h => ?_, fun b h => ?_⟩
  · rw [e 1 (by omega)]; exact a1
  · rw [e 3 (by omega)]; exact a2
  · rw [e 4 (by omega)]; exact a3
  · rw [e 0 (by omega)]; exact a4
  · rw [e _ (by omega), e _ (by omega), e _ (by omega)]; exact hp p h
  · rw [e _ (by omega), e _ (by omega), e _ (by omega)]; exact hb b h
  · rw [e _ (by omega)]; exact hz b h
/-- a Tavern and its copy -/
theorem Tv_copy {Mc Mc' : Mem} {d s : Nat} {r : Nat → Int32} (h : Tv Mc s r) (c1 : ∀ i, i < 6 → Mc' d i = Mc s i) (c2 : ∀ i, i < 12 → Mc' (d + 1) i = Mc (s + 1) i ∧ Mc' (d + 2) i = Mc (s + 2) i ∧ Mc' (d + 3) i = Mc (s + 3) i) (c3 : ∀ i, i < 14 → Mc' (d + 4) i = Mc (s + 4) i ∧ Mc' (d + 5) i = Mc (s + 5) i ∧ Mc' (d + 6) i = Mc (s + 6) i ∧ Mc' (d + 7) i = Mc (s + 7) i ∧ Mc' (d + 8) i = Mc (s + 8) i ∧ Mc' (d + 9) i = Mc (s + 9) i) : Tv Mc' d r := by
  obtain ⟨⟨t1, t2, t3, t4⟩, tp, tb, tz⟩ := h
  refine ⟨⟨?_, ?_, ?_, ?_⟩, fun p hp => ?_, fun b hb => ?_, tz⟩
  · rw [c1 0 (by omega)]; exact t1
  · rw [c1 1 (by omega)]; exact t2
  · rw [c1 2 (by omega)]; exact t3
  · rw [c1 3 (by omega)]; exact t4
  · obtain ⟨q1, q2, q3⟩ := c2 p hp
    rw [q1, q2, q3]; exact tp p hp
  · obtain ⟨q1, q2, q3, q4, q5, q6⟩ := c3 b hb
    rw [q4, q5, q6]; exact tb b hb
theorem Fx_copy {Mc Mc' Mm : Mem} {d s : Nat} (h : Fx Mc s Mm) (c1 : ∀ i, i < 6 → Mc' d i = Mc s i) (c3 : ∀ i, i < 14 → Mc' (d + 4) i = Mc (s + 4) i ∧ Mc' (d + 5) i = Mc (s + 5) i ∧ Mc' (d + 6) i = Mc (s + 6) i ∧ Mc' (d + 7) i = Mc (s + 7) i ∧ Mc' (d + 8) i = Mc (s + 8) i ∧ Mc' (d + 9) i = Mc (s + 9) i) : Fx Mc' d Mm := by
  refine ⟨?_, ?_, fun b hb => ?_⟩
  · rw [c1 4 (by omega)]; exact h.1
  · rw [c1 5 (by omega)]; exact h.2.1
  · obtain ⟨q1, q2, q3, q4, q5, q6⟩ := c3 b hb
    rw [q1, q2, q3]; exact h.2.2 b hb
theorem keep_cls {Mc : Mem} {m x : Nat} {v : Int32} (hm : m ≤ 6) (hx : x < 6) (h0 : Mc 105 0 = nI m) (h1 : Mc 105 1 = nI x) : ∃ Mc', fX6_keep v Mc = some Mc' ∧ Mc' 105 0 = nI (min 6 (m + 1)) ∧ Mc' 105 1 = nI ((x + 1) % 6) ∧ Mc' 107 x = v ∧ (∀ i, i ≠ x → Mc' 107 i = Mc 107 i) ∧ (∀ i, i < 6 → Mc' (108 + 10 * x) i = Mc 2 i) ∧ (∀ i, i < 12 → Mc' (108 + 10 * x + 1) i = Mc (2 + 1) i ∧ Mc' (108 + 10 * x + 2) i = Mc (2 + 2) i ∧ Mc' (108 + 10 * x + 3) i = Mc (2 + 3) i) ∧ (∀ i, i < 14 → Mc' (108 + 10 * x + 4) i = Mc (2 + 4) i ∧ Mc' (108 + 10 * x + 5) i = Mc (2 + 5) i ∧ Mc' (108 + 10 * x + 6) i = Mc (2 + 6) i ∧ Mc' (108 + 10 * x + 7) i = Mc (2 + 7) i ∧ Mc' (108 + 10 * x + 8) i = Mc (2 + 8) i ∧ Mc' (108 + 10 * x + 9) i = Mc (2 + 9) i) ∧ ∀ a i, a ≠ 105 → a ≠ 107 → (a < 108 + 10 * x ∨ 108 + 10 * x + 9 < a) → Mc' a i = Mc a i := by
  have hr : 106 + rtL.getD x 0 = 108 + 10 * x := by
    rcases (show x = 0 ∨ x = 1 ∨ x = 2 ∨ x = 3 ∨ x = 4 ∨ x = 5 by omega) with rfl | rfl | rfl | rfl | rfl | rfl <;> rfl
  have hk : kd (108 + 10 * x) = (9, 15) := by
    rcases (show x = 0 ∨ x = 1 ∨ x = 2 ∨ x = 3 ∨ x = 4 ∨ x = 5 by omega) with rfl | rfl | rfl | rfl | rfl | rfl <;> rfl
  obtain ⟨M2, e, b1, b2, b3, b4⟩ := copy_is (M := Mc) (d := 108 + 10 * x) (s := 2) (by omega)
  have m1 : M2 105 1 = nI x := by rw [b4 105 1 (by omega), h1]
  have m0 : M2 105 0 = nI m := by rw [b4 105 0 (by omega), h0]
  have kk : ∀ t : Int32, t = nI ((x + 1) % 6) → (bnd (mu (mu M2 107 x v) 105 1 t) fun M6 => bnd (mu M6 105 0 (jmin 6 ((M6 105 0) + 1))) fun M7 => some M7) = some (mu (mu (mu M2 107 x v) 105 1 (nI ((x + 1) % 6))) 105 0 (nI (min 6 (m + 1)))) := fun t ht => by
    rw [bnd_eq, bnd_eq, ht, mu_i (by omega), mu_o (by omega), m0, nI_1, show (6 : Int32) = nI 6 from rfl, jmin_nI (by omega) (by omega)]
  refine ⟨mu (mu (mu M2 107 x v) 105 1 (nI ((x + 1) % 6))) 105 0 (nI (min 6 (m + 1))), ?_, mu_s, ?_, ?_, fun i hi => ?_, fun i hi => ?_, fun i hi => ?_, fun i hi => ?_, fun a i q1 q2 q3 => ?_⟩
  · unfold fX6_keep
    rw [h1, rdt_nI hx, Option.bind_some, hr, if_pos hk, e, Option.bind_some, m1, wr_nI hx, Option.bind_some, jn_eq, mu_o (by omega), m1, nI_1]
    by_cases c : 6 ≤ x + 1
    · rw [if_pos (show (6 : Int32) ≤ nI (x + 1) from nI_le c (by omega))]
      exact kk 0 (by rw [show (x + 1) % 6 = 0 by omega]; rfl)
    · rw [if_neg (show ¬ (6 : Int32) ≤ nI (x + 1) from nI_ge (show x + 1 < 6 by omega) (by decide))]
      exact kk _ (by rw [show (x + 1) % 6 = x + 1 by omega])
  · rw [mu_i (by omega), mu_s]
  · rw [mu_o (by omega), mu_o (by omega), mu_s]
  · rw [mu_o (by omega), mu_o (by omega), mu_i hi, b4 107 i (by omega)]
  · rw [mu_o (by omega), mu_o (by omega), mu_o (by omega), b1 i hi]
  · simp (disch := omega) only [mu_o]; exact b2 i hi
  · simp (disch := omega) only [mu_o]; exact b3 i hi
  · rw [mu_o q1, mu_o q1, mu_o q2, b4 a i q3]
theorem keep_ref {Mm : Mem} {m : Nat} (hm : m ≤ 6) (h0 : Mm 198 3 = nI m) : ∃ Mm', fX12_keepsAhead Mm = some Mm' ∧ Mm' 198 3 = nI (min 6 (m + 1)) ∧ (∀ i, i ≠ 3 → Mm' 198 i = Mm 198 i) ∧ (∀ x, x ≠ 198 → x ≠ 200 → Mm' x = Mm x) ∧ (m < 6 → (∀ i, i < 83 * m → Mm' 200 i = Mm 200 i) ∧ ∀ i, i < 83 → Mm' 200 (83 * m + i) = Mm 199 i) ∧ (m = 6 → (∀ i, i < 415 → Mm' 200 i = Mm 200 (i + 83)) ∧ ∀ i, i < 83 → Mm' 200 (415 + i) = Mm 199 i) := by
  by_cases c : m = 6
  · subst c
    obtain ⟨M1, a1, a2, a3, a4⟩ := k_sh 415 FU 0 (mu Mm 198 3 (nI 5)) (by omega) (FU_gt (by omega)) mu_s
    have u5 : M1 198 3 = nI 5 := by rw [a4 198 (by omega), mu_s]
    obtain ⟨M2, b1, b2, b3, b4⟩ := k_cp (u := 5) (by omega) 83 FU 0 M1 (by omega) (FU_gt (by omega)) u5
    rw [nI_0] at a1 b1
    have u6 : M2 198 3 = nI 5 := by rw [b4 198 (by omega), u5]
    refine ⟨mu M2 198 3 (nI 6), ?_, mu_s, fun i hi => ?_, fun x q1 q2 => ?_, fun q => by omega, fun _ => ⟨fun i hi => ?_, fun i hi => ?_⟩⟩
    · unfold fX12_keepsAhead
      rw [jn_eq, h0, if_pos (show nI 6 = (6 : Int32) from rfl), bnd_eq, nI_pred, a1]
      dsimp only
      rw [b1, bnd_eq, u6, nI_1]
    · rw [mu_i hi, b4 198 (by omega), a4 198 (by omega), mu_i hi]
    · rw [mu_c q1, b4 x q2, a4 x q2, mu_c q1]
    · rw [mu_o (by omega), b2 i (by omega), a3 i (by omega) hi, mu_o (by omega)]
    · rw [mu_o (by omega), show 415 + i = 83 * 5 + i by omega, b3 i (by omega) hi, a4 199 (by omega), mu_o (by omega)]
  · obtain ⟨M2, b1, b2, b3, b4⟩ := k_cp (u := m) (by omega) 83 FU 0 Mm (by omega) (FU_gt (by omega)) h0
    rw [nI_0] at b1
    have u6 : M2 198 3 = nI m := by rw [b4 198 (by omega), h0]
    refine ⟨mu M2 198 3 (nI (m + 1)), ?_, ?_, fun i hi => ?_, fun x q1 q2 => ?_, fun _ => ⟨fun i hi => ?_, fun i hi => ?_⟩, fun q => absurd q c⟩
    · unfold fX12_keepsAhead
      rw [jn_eq, h0, if_neg (show ¬ nI m = (6 : Int32) from fun q => c ((nI_eqb (by omega) (by omega)).mp q))]
      dsimp only
      rw [b1, bnd_eq, u6, nI_1]
    · rw [mu_s, show min 6 (m + 1) = m + 1 by omega]
    · rw [mu_i hi, b4 198 (by omega)]
    · rw [mu_c q1, b4 x q2]
    · rw [mu_o (by omega), b2 i (by omega)]
    · rw [mu_o (by omega), b3 i (by omega) hi]
theorem keep_AR {Mc Mm : Mem} (hA : AR Mc Mm) : ∃ Mc' Mm', fX6_keep (Mc 12 0) Mc = some Mc' ∧ fX12_keepsAhead Mm = some Mm' ∧ AR Mc' Mm' ∧ (∀ a i, a < 105 → Mc' a i = Mc a i) ∧ (∀ x, x ≠ 198 → x ≠ 200 → Mm' x = Mm x) ∧ ∀ i, i ≠ 3 → Mm' 198 i = Mm 198 i := by
  obtain ⟨⟨P, B, n, hBd, hTv, hFx, hBk, hLaw, hTw, hEv, hHe, hTo⟩, ⟨N, hN, hN2, hPa⟩, hTa, hFa, hIm, hCs⟩ := hA
  obtain ⟨m, x, hm6, hx, h1, h2, h3, β, hβ, h4⟩ := hPa
  obtain ⟨Mc', e1, c1, c2, c3, c4, c5, c6, c7, c8⟩ := keep_cls (v := Mc 12 0) hm6 hx h1 h3
  obtain ⟨Mm', e2, d1, d2, d3, d4, d5⟩ := keep_ref hm6 h2
  have lo : ∀ a i, a < 105 → Mc' a i = Mc a i := fun a i ha => c8 a i (by omega) (by omega) (by omega)
  have nN : n = N := by
    have := hBk.2.2.1
    rw [hN] at this
    exact ((nI_eqb (by omega) (by have := hBk.1; omega)).mp this).symm
  have hb0 : Mc 12 0 = nI N := by rw [← nN]; exact hBk.2.1
  have hc : Agr [(105, some 0), (105, some 1), (107, none), (108 + 10 * x, none), (108 + 10 * x + 1, none), (108 + 10 * x + 2, none), (108 + 10 * x + 3, none), (108 + 10 * x + 4, none), (108 + 10 * x + 5, none), (108 + 10 * x + 6, none), (108 + 10 * x + 7, none), (108 + 10 * x + 8, none), (108 + 10 * x + 9, none), (105, none)] Mc Mc' := fun a i q1 q2 => by
    simp only [List.mem_cons, Prod.mk.injEq, List.not_mem_nil, or_false, not_or, and_true, reduceCtorEq, and_false, not_false_eq_true, true_and] at q1
    exact c8 a i (by omega) (by omega) (by omega)
  have hm : Agr [(198, some 3), (200, none)] Mm Mm' := fun a i q1 q2 => by
    by_cases q : a = 198
    · subst q
      exact d2 i (fun e => q2 (by rw [e]; simp))
    · exact congrFun (d3 a q (fun e => q1 (by rw [e]; simp))) i
  have m199 : Mm' 199 = Mm 199 := d3 199 (by omega) (by omega)
  refine ⟨Mc', Mm', e1, e2, ⟨⟨P, B, n, Bd_agr hm rfl hBd, ?_, ?_, ?_, ?_, ?_, ?_, ?_, ?_⟩, ⟨N, ?_, hN2, ?_⟩, ?_, ?_, ?_, ?_⟩, lo, d3, d2⟩
  · rw [m199]; exact Tv_cls hTv fun a i _ _ => lo a i (by omega)
  · exact Fx_ref (Fx_cls hFx fun a i _ _ => lo a i (by omega)) (d2 6 (by omega)) (d2 7 (by omega)) (d3 202 (by omega) (by omega)) (d3 203 (by omega) (by omega)) (d3 204 (by omega) (by omega))
  · exact Bk_w hBk (fun a _ _ => funext fun i => lo a i (by omega)) (d3 205 (by omega) (by omega)) (by rw [m199])
  · exact LawR_agr hc hm (by rcases (show x = 0 ∨ x = 1 ∨ x = 2 ∨ x = 3 ∨ x = 4 ∨ x = 5 by omega) with rfl | rfl | rfl | rfl | rfl | rfl <;> rfl) rfl hLaw
  · exact TwR_agr hc hm (by rcases (show x = 0 ∨ x = 1 ∨ x = 2 ∨ x = 3 ∨ x = 4 ∨ x = 5 by omega) with rfl | rfl | rfl | rfl | rfl | rfl <;> rfl) rfl hTw
  · exact EvR_agr hc hm (by rcases (show x = 0 ∨ x = 1 ∨ x = 2 ∨ x = 3 ∨ x = 4 ∨ x = 5 by omega) with rfl | rfl | rfl | rfl | rfl | rfl <;> rfl) rfl hEv
  · exact HeR_agr hc hm (by rcases (show x = 0 ∨ x = 1 ∨ x = 2 ∨ x = 3 ∨ x = 4 ∨ x = 5 by omega) with rfl | rfl | rfl | rfl | rfl | rfl <;> rfl) rfl hHe
  · exact ToR_agr hc hm (by rcases (show x = 0 ∨ x = 1 ∨ x = 2 ∨ x = 3 ∨ x = 4 ∨ x = 5 by omega) with rfl | rfl | rfl | rfl | rfl | rfl <;> rfl) rfl hTo
  · rw [m199]; exact hN
  · have fx : ∀ q, Fx Mc' q Mm → Fx Mc' q Mm' := fun q h => Fx_ref h (d2 6 (by omega)) (d2 7 (by omega)) (d3 202 (by omega) (by omega)) (d3 203 (by omega) (by omega)) (d3 204 (by omega) (by omega))
    have nw : Tv Mc' (108 + 10 * x) (Mm 199) ∧ Fx Mc' (108 + 10 * x) Mm' ∧ Mc' 107 x = nI N := ⟨Tv_copy hTv c5 c6 c7, fx _ (Fx_copy hFx c5 c7), c3.trans hb0⟩
    have od : ∀ q, q < 6 → q ≠ x → (∀ r, Tv Mc (108 + 10 * q) r → Tv Mc' (108 + 10 * q) r) ∧ (Fx Mc (108 + 10 * q) Mm → Fx Mc' (108 + 10 * q) Mm') ∧ Mc' 107 q = Mc 107 q := fun q q1 q2 => by
      have g : ∀ a i, 108 + 10 * q ≤ a → a ≤ 108 + 10 * q + 9 → Mc' a i = Mc a i := fun a i r1 r2 => c8 a i (by omega) (by omega) (by omega)
      exact ⟨fun r h => Tv_cls h g, fun h => fx _ (Fx_cls h g), c4 q q2⟩
    rcases Nat.lt_or_ge m 6 with hlt | hge
    · obtain ⟨r1, r2⟩ := d4 hlt
      refine ⟨m + 1, (x + 1) % 6, by omega, by omega, ?_, ?_, c2, fun i => if i = m then N else β i, fun i hi => ?_, fun i hi => ?_⟩
      · rw [c1, show min 6 (m + 1) = m + 1 by omega]
      · rw [d1, show min 6 (m + 1) = m + 1 by omega]
      · show (if i = m then N else β i) ≤ N ∧ ∀ j, i ≤ j → j < m + 1 → (if i = m then N else β i) ≤ (if j = m then N else β j)
        by_cases e : i = m
        · rw [if_pos e]
          exact ⟨Nat.le_refl _, fun j j1 j2 => by rw [if_pos (by omega)]; exact Nat.le_refl _⟩
        · rw [if_neg e]
          obtain ⟨b1, b2⟩ := hβ i (by omega)
          refine ⟨b1, fun j j1 j2 => ?_⟩
          by_cases e2 : j = m
          · rw [if_pos e2]; exact b1
          · rw [if_neg e2]; exact b2 j j1 (by omega)
      · show Tv Mc' _ _ ∧ Fx Mc' _ Mm' ∧ Mc' 107 _ = nI (if i = m then N else β i) ∧ Mm' 200 (83 * i + 2) = nI (if i = m then N else β i)
        by_cases e : i = m
        · subst e
          rw [if_pos rfl, show ((x + 1) % 6 + 6 - (i + 1) + i) % 6 = x by omega, r2 2 (by omega)]
          refine ⟨?_, nw.2.1, nw.2.2, hN⟩
          exact Tv_rr nw.1 fun j hj => r2 j hj
        · obtain ⟨g1, g2, g3, g4⟩ := h4 i (by omega)
          rw [if_neg e, show ((x + 1) % 6 + 6 - (m + 1) + i) % 6 = (x + 6 - m + i) % 6 by omega]
          obtain ⟨o1, o2, o3⟩ := od ((x + 6 - m + i) % 6) (by omega) (by omega)
          refine ⟨?_, o2 g2, by rw [o3]; exact g3, by rw [r1 _ (by omega)]; exact g4⟩
          exact Tv_rr (o1 _ g1) fun j hj => r1 _ (by omega)
    · have em : m = 6 := by omega
      subst em
      obtain ⟨r1, r2⟩ := d5 rfl
      refine ⟨6, (x + 1) % 6, by omega, by omega, c1, d1, c2, fun i => if i = 5 then N else β (i + 1), fun i hi => ?_, fun i hi => ?_⟩
      · show (if i = 5 then N else β (i + 1)) ≤ N ∧ ∀ j, i ≤ j → j < 6 → (if i = 5 then N else β (i + 1)) ≤ (if j = 5 then N else β (j + 1))
        by_cases e : i = 5
        · rw [if_pos e]
          exact ⟨Nat.le_refl _, fun j j1 j2 => by rw [if_pos (by omega)]; exact Nat.le_refl _⟩
        · rw [if_neg e]
          obtain ⟨b1, b2⟩ := hβ (i + 1) (by omega)
          refine ⟨b1, fun j j1 j2 => ?_⟩
          by_cases e2 : j = 5
          · rw [if_pos e2]; exact b1
          · rw [if_neg e2]; exact b2 (j + 1) (by omega) (by omega)
      · show Tv Mc' _ _ ∧ Fx Mc' _ Mm' ∧ Mc' 107 _ = nI (if i = 5 then N else β (i + 1)) ∧ Mm' 200 (83 * i + 2) = nI (if i = 5 then N else β (i + 1))
        by_cases e : i = 5
        · subst e
          have r2' : ∀ i, i < 83 → Mm' 200 (83 * 5 + i) = Mm 199 i := fun i hi => by rw [show 83 * 5 + i = 415 + i by omega]; exact r2 i hi
          rw [if_pos rfl, show ((x + 1) % 6 + 6 - 6 + 5) % 6 = x by omega, r2' 2 (by omega)]
          refine ⟨?_, nw.2.1, nw.2.2, hN⟩
          exact Tv_rr nw.1 fun j hj => r2' j hj
        · obtain ⟨g1, g2, g3, g4⟩ := h4 (i + 1) (by omega)
          rw [if_neg e, show ((x + 1) % 6 + 6 - 6 + i) % 6 = (x + 6 - 6 + (i + 1)) % 6 by omega]
          obtain ⟨o1, o2, o3⟩ := od ((x + 6 - 6 + (i + 1)) % 6) (by omega) (by omega)
          have r1' : ∀ j, j < 83 → Mm' 200 (83 * i + j) = Mm 200 (83 * (i + 1) + j) := fun j hj => by rw [r1 _ (by omega)]; congr 1; omega
          refine ⟨?_, o2 g2, by rw [o3]; exact g3, by rw [r1' _ (by omega)]; exact g4⟩
          exact Tv_rr (o1 _ g1) fun j hj => r1' j hj
  · exact TaR_agr hc hm (by rcases (show x = 0 ∨ x = 1 ∨ x = 2 ∨ x = 3 ∨ x = 4 ∨ x = 5 by omega) with rfl | rfl | rfl | rfl | rfl | rfl <;> rfl) rfl hTa
  · rw [c8 178 2 (by omega) (by omega) (by omega), c8 178 3 (by omega) (by omega) (by omega), d2 33 (by omega), d2 34 (by omega)]; exact hFa
  · exact ImR_agr hc hm (by rcases (show x = 0 ∨ x = 1 ∨ x = 2 ∨ x = 3 ∨ x = 4 ∨ x = 5 by omega) with rfl | rfl | rfl | rfl | rfl | rfl <;> rfl) rfl hIm
  · exact CsR_agr hc hm (by rcases (show x = 0 ∨ x = 1 ∨ x = 2 ∨ x = 3 ∨ x = 4 ∨ x = 5 by omega) with rfl | rfl | rfl | rfl | rfl | rfl <;> rfl) rfl (by rw [d3 226 (by omega) (by omega)]) (by rw [d3 227 (by omega) (by omega)]) hCs
