/-! ===== text: the other texts, begun and ended ===== -/
section OTHA
theorem oth_begin {Mc Mm : Mem} (hA : AR Mc Mm) : ∃ P B L b τ p e Mc1 Mm1, fX8_begin Mc = some Mc1 ∧ fX12_reads (mu (iniM Mm) 198 26 0) = some Mm1 ∧ PT L b τ p e (mu Mc1 190 0 0) Mm1 ∧ G0 Mm P B 0 (mu Mc1 190 0 0) Mm1 ∧ Agr ScF Mc Mc1 ∧ Bd P B Mm := by
  obtain ⟨L, b, τ, p, e, Mc1, Mm1, a1, a2, a3, a4, a5, a6, a7⟩ := pt_begin (Mm4 := mu (iniM Mm) 198 26 0) hA (by rw [mu_i (by omega), ini_o (by omega)]) (fun i => by rw [mu_o (by omega), ini_o (by omega)]) (fun i => by rw [mu_o (by omega), ini_o (by omega)]) (by rw [mu_i (by omega)]; unfold iniM; rw [mu_i (by omega), mu_i (by omega), mu_s])
  have tx1 : TX Mm Mm1 := (ini_TX.trans (TX_mu (by omega))).trans (fun a i q1 q2 q3 q4 _ _ _ => a7 a i (by simp) (by simp; omega))
  have k33 : Mm1 198 33 = 0 := by
    rw [a7 198 33 (by decide) (by decide), mu_i (by omega)]; unfold iniM; rw [mu_i (by omega), mu_i (by omega), mu_i (by omega), mu_i (by omega), mu_s]
  have k34 : Mm1 198 34 = -1 := by
    rw [a7 198 34 (by decide) (by decide), mu_i (by omega)]; unfold iniM; rw [mu_i (by omega), mu_i (by omega), mu_i (by omega), mu_s]
  obtain ⟨⟨P, B, n, hBd, hTv, hFx, -⟩, -, -, -, -, hCs⟩ := hA
  have hm := tx1.agr
  have c190 : Mc 190 1 = 16 := hCs.2.1 190 (by simp)
  have hc1 : Agr [(178, some 2), (178, some 3), (178, some 4), (178, some 5), (178, some 6), (178, some 7), (190, some 0)] Mc (mu Mc1 190 0 0) := Agr.mu (a4.mono (by decide)) (Or.inl (by decide))
  refine ⟨P, B, L, b, τ, p, e, Mc1, Mm1, a1, a2, PT_cmu a3 (by omega), ⟨tx1, ?_, ?_, k33, k34, Fx_agr hc1 hm rfl rfl hFx, Bd_agr hm rfl hBd, mu_s, ?_⟩, a4.mono (by decide), hBd⟩
  · rw [mu_o (by omega)]; exact a5
  · rw [mu_o (by omega)]; exact a6
  · rw [mu_i (by omega), a4 190 1 (by decide) (by decide)]; exact c190
theorem oth_read (p1 : Int32) (Mc1 : Mem) : fX4_read p1 Mc1 = fX4_read_L11 (fun M11 => some (1, M11)) (fun M12 => some (0, M12)) p1 FU (nI 0) (mu Mc1 190 0 0) := by
  have z0 : nI 0 = (0 : Int32) := rfl
  unfold fX4_read
  rw [bnd_eq, z0]
theorem oth_fault {p1 : Int32} {Mc Mm Mc1 Mc' Mm' : Mem} (hA : AR Mc Mm) (h0 : ¬ p1 = 0) (hw : ¬ fX11_isWithin p1 1 3 = 0) (hi : ¬ fX12_isIn p1 0 3 = 0) (b1 : fX8_begin Mc = some Mc1) (hc : Agr ScF Mc Mc1) (e1 : fX4_read p1 Mc1 = some (0, Mc')) (e2 : fX12_readsText p1 (iniM Mm) = some (-1, Mm')) (hf : FR Mc' Mm') (hx : TX Mm Mm') : ∃ r Mc' Mm', fX11_text p1 Mc = some (r, Mc') ∧ fX12_text p1 Mm = some (r, Mm') ∧ AR Mc' Mm' := by
  have hc2 : Agr ScF Mc Mc' := hc.trans ((Agr.of (wX4_read p1 Mc1) e1).mono (by decide))
  refine ⟨-1, mu Mc' 178 1 0, _, ?_, ?_, AR_flt hA hc2 hx hf⟩
  · rw [text_c, b1, Option.bind_some, if_neg h0, midC, if_neg hw, e1, Option.bind_some, if_pos rfl, finC_m]
  · rw [text_m, if_neg hi, e2, Option.bind_some, if_pos rfl, finM_m]
/-- what was read, before it is taken -/
theorem oth_keep {P B n : Nat} {p1 : Int32} {Mc Mm Mc1 Mc' Mm' : Mem} (hA : AR Mc Mm) (hc : Agr ScF Mc Mc1) (e1 : fX4_read p1 Mc1 = some (1, Mc')) (hG : G0 Mm P B n Mc' Mm') : AR (mu Mc' 178 1 0) (mu Mm' 198 13 0) := by
  have hc2 : Agr ScF Mc Mc' := hc.trans ((Agr.of (wX4_read p1 Mc1) e1).mono (by decide))
  obtain ⟨h1, h2, h3, h4, h5, h6, h7, h8, h9⟩ := hG
  refine AR_keep hA (Agr.mu hc2 (Or.inl (by decide))) (h1.trans (TX_mu (by omega))) mu_s mu_s ?_ ?_
  · rw [mu_i (by omega), mu_i (by omega), h2, h4]
  · rw [mu_i (by omega), mu_i (by omega), h3, h5]
theorem oth_copy {n q : Nat} {Mc' Mm' : Mem} (hA : AR (mu Mc' 178 1 0) Mm') (hq : q = 25 ∨ q = 30 ∨ q = 35) (hn : n ≤ 16) (h0 : Mc' 190 0 = nI n) : ∃ Mc3, fX3_copyFrom q 190 Mc' = some Mc3 ∧ Mc3 q 0 = nI n ∧ (∀ j, 1 ≤ j → j ≤ 4 → ∀ i, i < n → Mc3 (q + j) i = Mc' (190 + j) i) ∧ (∀ a i, (a < q ∨ q + 4 < a) → Mc3 a i = Mc' a i) ∧ ∀ i, i ≠ 0 → Mc3 q i = Mc' q i := by
  have hCs := hA.2.2.2.2.2.2.1
  have c1 : Mc' q 1 = nI 16 := by
    have := hCs q (by rcases hq with rfl | rfl | rfl <;> simp)
    rw [mu_o (by omega)] at this; exact this
  obtain ⟨M', a1, a2, a3, a4, a5⟩ := lines_copy (M := Mc') (d := q) (s := 190) (cap := 16) (n := n) (by
    intro j j1 j2
    rcases hq with rfl | rfl | rfl <;> rcases (show j = 1 ∨ j = 2 ∨ j = 3 ∨ j = 4 by omega) with rfl | rfl | rfl | rfl <;> exact ⟨rfl, rfl⟩) c1 h0 hn (by omega) (by omega)
  exact ⟨M', a1, a2, a4, a5, a3⟩
theorem Bd_B {P B P' B' : Nat} {M M' : Mem} (h : Bd P B M) (h' : Bd P' B' M') (e6 : M' 198 6 = M 198 6) (e7 : M' 198 7 = M 198 7) : P' = P ∧ B' = B := by
  have p6 := h.2.2.1
  have p7 := h.2.2.2.1
  have q6 := h'.2.2.1
  have q7 := h'.2.2.2.1
  rw [e6, p6] at q6
  rw [e7, p7] at q7
  have b1 := h.1
  have b2 := h.2.1
  have b3 := h'.1
  have b4 := h'.2.1
  exact ⟨((nI_eqb (by omega) (by omega)).mp q6).symm, ((nI_eqb (by omega) (by omega)).mp q7).symm⟩
theorem Agr_mu2 {S : List (Nat × Option Nat)} {M M' : Mem} {k j : Nat} {v : Int32} (h : Agr S M M') : Agr S (mu M k j v) (mu M' k j v) := fun a i q1 q2 => by
  by_cases w : a = k
  · subst w
    by_cases w' : i = j
    · subst w'; rw [mu_s, mu_s]
    · rw [mu_i w', mu_i w']; exact h a i q1 q2
  · rw [mu_o w, mu_o w]; exact h a i q1 q2
theorem I1_Q {M0 : Mem} {P B : Nat} (k : Nat) (Mc Mm Mm' : Mem) (h : I1 M0 P B k Mc Mm) (hf : ∀ A lo, FX A lo Mm Mm') : TX M0 Mm' := h.1.1.trans (TX_FX (hf 216 48) (by omega))
theorem s_text1 : Sm (fX11_text 1) (fX12_text 1) := fun Mc Mm hA => by
  obtain ⟨P, B, L, b, τ, p, e, Mc1, Mm1, a1, a2, a3, a4, a5, a6⟩ := oth_begin hA
  have z0 : nI 0 = (0 : Int32) := rfl
  have eM : fX12_readsText 1 (iniM Mm) = (fX12_readHops_L2 KM FU (nI 0) Mm1).bind fun r6 => some (r6.1, r6.2) := by
    unfold fX12_readsText
    rw [bnd_eq, a2, Option.bind_some, if_pos rfl, z0]
    rfl
  have eC := oth_read 1 Mc1
  rcases oth_L (L := L) (b := b) (z2 := 1) (w := 17) (by omega) (by decide) (I1 Mm P B) (TX Mm) I1_Q (fX12_readHops_L2 KM) (fun y M => fX12_readHop (48 + 3 * y) M) (fun n y M => by rw [fX12_readHops_L2]; rfl) (fun k τ p e Mc Mm q1 q2 q3 q4 => hop_eq k τ p e Mc Mm q1 q2 q3 q4) FU FU 0 τ p e _ Mm1 (FU_gt (by omega)) (FU_gt (by omega)) (by omega) a3 ⟨a4, fun i hi => absurd hi (by omega)⟩ with ⟨Mc', Mm', f1, f2, f3, f4⟩ | ⟨n, Mc', Mm', f1, f2, f3, f4⟩
  · exact oth_fault hA (by decide) (by decide) (by decide) a1 a5 (eC.trans f1) (by rw [eM, f2]; rfl) f3 f4
  · obtain ⟨hG, hl⟩ := f4
    have A1 := oth_keep hA a5 (eC.trans f1) hG
    obtain ⟨Mc3, c1, c2, c3, c4, c5⟩ := oth_copy (q := 25) A1 (by omega) f3 hG.2.2.2.2.2.2.2.1
    obtain ⟨Mm3, d1, d2, d3, d4, d5⟩ := takes_1 f3 (mu Mm' 198 13 0)
    have hne : ¬ nI n = -1 := nI_nm1 (by omega)
    refine ⟨nI n, mu (mu Mc3 178 1 0) 105 0 0, Mm3, ?_, ?_, ?_⟩
    · rw [text_c, a1, Option.bind_some, if_neg (show ¬ (1 : Int32) = 0 by decide), midC, if_neg (show ¬ fX11_isWithin 1 1 3 = 0 by decide), eC, f1, Option.bind_some, if_neg one_ne]
      have l1 : fX0_linesOf 1 Mc' = some 25 := rfl
      dsimp only
      rw [l1, Option.bind_some, if_pos (show kd 25 = (3, 6) by decide), c1, Option.bind_some, c2, finC, if_neg hne, if_pos rfl, fX6_forget, bnd_eq, Option.bind_some]
    · rw [text_m, if_neg (show ¬ fX12_isIn 1 0 3 = 0 by decide), eM, f2, Option.bind_some, Option.bind_some, if_neg hne, finM, if_neg hne, if_neg (show ¬ (1 : Int32) = 0 by decide), d1, Option.bind_some]
    · have o3 : ∀ a i, (a < 25 ∨ 29 < a) → Mc3 a i = Mc' a i := c4
      have hc : Agr [(25, some 0), (26, none), (27, none), (28, none), (29, none), (105, some 0)] (mu Mc' 178 1 0) (mu (mu Mc3 178 1 0) 105 0 0) := Agr.mu (Agr_mu2 ((Agr.ofU (wX3_copyFrom 25 190 Mc') c1).mono (by decide))) (Or.inl (by decide))
      have hm : Agr [(198, some 3), (198, some 35), (216, none)] (mu Mm' 198 13 0) Mm3 := fun a i q1 q2 => d5 a i (fun w => q1 (by rw [w.1]; decide)) (fun w => by
        obtain ⟨w1, w2⟩ := w
        subst w1
        rcases w2 with rfl | rfl <;> exact q2 (by decide))
      refine AR_oth A1 (hc.mono (by decide)) (hm.mono (by decide)) (fun P' B' hB' _ => ?_) (fun P' B' _ hE => EvR_agr hc hm rfl rfl hE) (fun P' B' _ hE => HeR_agr hc hm rfl rfl hE) (PaR_nil mu_s d3 (by rw [mu_i (by omega), mu_o (by omega), mu_o (by omega), o3 105 1 (by omega)]))
      obtain ⟨-, rfl⟩ := Bd_B hG.2.2.2.2.2.2.1 hB' (mu_i (by omega)) (mu_i (by omega))
      refine ⟨n, f3, by rw [mu_o (by omega), mu_o (by omega)]; exact c2, d2, fun i hi => ?_⟩
      obtain ⟨b', s', x1, x2, x3, x4, x5, x6, x7⟩ := hl i hi
      have m : ∀ j, j < 3 * n → Mm3 216 j = Mm' 216 (48 + j) := fun j hj => by rw [d4 j hj, mu_o (by omega)]
      have cc : ∀ j, 1 ≤ j → j ≤ 4 → mu (mu Mc3 178 1 0) 105 0 0 (25 + j) i = Mc' (190 + j) i := fun j q1 q2 => by rw [mu_o (by omega), mu_o (by omega), c3 j q1 q2 i hi]
      refine ⟨b', s', x1, x2, ?_, ?_, ?_, ?_, ?_⟩
      · rw [cc 1 (by omega) (by omega), m _ (by omega)]; exact x3
      · rw [cc 3 (by omega) (by omega)]; exact x4
      · rw [m _ (by omega)]; exact x5
      · rw [cc 2 (by omega) (by omega)]; exact x6
      · rw [m _ (by omega)]; exact x7
end OTHA
