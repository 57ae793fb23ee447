/-! ===== text 0, the law, both sides ===== -/
section TEXT0C
theorem ini_o {Mm : Mem} {a i : Nat} (h : ¬ (a = 198 ∧ (i = 0 ∨ i = 14 ∨ i = 27 ∨ i = 28 ∨ i = 33 ∨ i = 34))) : iniM Mm a i = Mm a i := by
  unfold iniM
  have s : ∀ (M : Mem) (j : Nat) (v : Int32), (j = 0 ∨ j = 14 ∨ j = 27 ∨ j = 28 ∨ j = 33 ∨ j = 34) → mu M 198 j v a i = M a i := fun M j v q => by
    by_cases w : a = 198
    · subst w; exact mu_i (fun w => h ⟨rfl, by omega⟩)
    · exact mu_o w
  rw [s _ _ _ (by omega), s _ _ _ (by omega), s _ _ _ (by omega), s _ _ _ (by omega), s _ _ _ (by omega), s _ _ _ (by omega)]
theorem ini_TX {Mm : Mem} : TX Mm (iniM Mm) := fun a i q _ _ _ _ _ _ => ini_o (fun w => q ⟨w.1, by omega⟩)
theorem finC_m (p : Int32) (M : Mem) : finC p (-1) M = some (-1, mu M 178 1 0) := if_pos rfl
theorem finM_m (p : Int32) (M : Mem) : finM p (-1) M = some (-1, mu M 198 13 0) := if_pos rfl
/-- a fault, told on both sides -/
theorem AR_flt {Mc Mm Mc' Mm' : Mem} (h : AR Mc Mm) (hc : Agr ScF Mc Mc') (hx : TX Mm Mm') (hf : FR Mc' Mm') : AR (mu Mc' 178 1 0) (mu (mu (mu Mm' 198 33 (Mm' 198 31)) 198 34 (mu Mm' 198 33 (Mm' 198 31) 198 32)) 198 13 0) := by
  refine AR_keep h (Agr.mu hc (Or.inl (by decide))) (((hx.trans (TX_mu (by omega))).trans (TX_mu (by omega))).trans (TX_mu (by omega))) mu_s mu_s ?_ ?_
  · rw [mu_i (by omega), mu_i (by omega), mu_i (by omega), mu_s]; exact hf.1
  · rw [mu_i (by omega), mu_i (by omega), mu_s, mu_i (by omega)]; exact hf.2
theorem s_text0 : Sm (fX11_text 0) (fX12_text 0) := fun Mc Mm hA => by
  obtain ⟨L, b, τ, p, e, Mc1, Mm1, a1, a2, ⟨p1, p2, p3, p4, p5, p6, p7⟩, a4, a5, a6, a7⟩ := pt_begin (Mm4 := mu (iniM Mm) 198 26 0) hA (by rw [mu_i (by omega), ini_o (by omega)]) (fun i => by rw [mu_o (by omega), ini_o (by omega)]) (fun i => by rw [mu_o (by omega), ini_o (by omega)]) (by rw [mu_i (by omega)]; unfold iniM; rw [mu_i (by omega), mu_i (by omega), mu_s])
  have hL := p1.1
  have tx1 : TX Mm Mm1 := (ini_TX.trans (TX_mu (by omega))).trans (fun a i q1 q2 q3 q4 _ _ _ => a7 a i (by simp) (by simp; omega))
  have k27 : Mm1 198 27 = nI 0 := by
    rw [a7 198 27 (by decide) (by decide), mu_i (by omega)]; unfold iniM; rw [mu_i (by omega), mu_s]; rfl
  have k28 : Mm1 198 28 = nI 0 := by
    rw [a7 198 28 (by decide) (by decide), mu_i (by omega)]; unfold iniM; rw [mu_s]; rfl
  have k26 : Mm1 198 26 = 0 := by rw [a7 198 26 (by decide) (by decide), mu_s]
  have k33 : Mm1 198 33 = 0 := by
    rw [a7 198 33 (by decide) (by decide), mu_i (by omega)]; unfold iniM; rw [mu_i (by omega), mu_i (by omega), mu_i (by omega), mu_i (by omega), mu_s]
  have k34 : Mm1 198 34 = -1 := by
    rw [a7 198 34 (by decide) (by decide), mu_i (by omega)]; unfold iniM; rw [mu_i (by omega), mu_i (by omega), mu_i (by omega), mu_s]
  obtain ⟨Mc2, hMc2⟩ : ∃ Mc2, Mc2 = mu (mu Mc1 181 0 0) 181 1 0 := ⟨_, rfl⟩
  have o2 : ∀ a i, a ≠ 181 → Mc2 a i = Mc1 a i := fun a i q => by rw [hMc2, mu_o q, mu_o q]
  have hPS : PS L b τ p e 0 Mc2 Mm1 := by
    refine ⟨TpR_c p1 (o2 178 1 (by omega)) (funext fun i => o2 179 i (by omega)), p2, p3, p4, p5, ?_, p7, ?_, k27, fun j hj => absurd hj (by omega)⟩
    · exact HandC_congr p6 (o2 178 4 (by omega)) (o2 178 5 (by omega)) (o2 178 6 (by omega)) (o2 178 7 (by omega)) (funext fun i => o2 179 i (by omega))
    · rw [hMc2, mu_s]; rfl
  have z0 : nI 0 = (0 : Int32) := rfl
  have eC : fX2_read Mc1 = fX2_read_L9 (fun M15 => some (1, M15)) FU (nI 0) Mc2 := by
    unfold fX2_read fX1_clear
    rw [bnd_eq, bnd_eq, Option.bind_some, ← hMc2, z0]
  have eM : fX12_readsText 0 (iniM Mm) = (fX12_readLaw_L2 KM FU (nI 0) Mm1).bind fun r3 => some (r3.1, r3.2) := by
    unfold fX12_readsText
    rw [bnd_eq, a2, Option.bind_some, if_neg (show ¬ (0 : Int32) = 1 by decide), if_neg (show ¬ (0 : Int32) = 2 by decide), if_neg (show ¬ (0 : Int32) = 3 by decide), z0]
    rfl
  rw [text_c, text_m, a1, Option.bind_some, if_pos rfl, if_neg (show ¬ fX12_isIn 0 0 3 = 0 by decide), eC, eM]
  have w0 : fX11_isWithin 0 1 3 = 0 := by decide
  rcases law_L (M0 := Mm1) FU FU 0 τ p e 0 Mc2 Mm1 (FU_gt (by omega)) (FU_gt (by omega)) (by omega) hPS (by omega) (by rw [hMc2, mu_i (by omega), mu_s]; rfl) k28 (fun l hl => absurd hl (by omega)) (fun _ _ _ _ _ _ => rfl) with ⟨Mc', Mm', f1, f2, f3, f4⟩ | ⟨τ', p', e', n, z', Mc', Mm', f1, f2, f3, f4, f5, f6, f7, f8⟩
  · have hc : Agr ScF Mc Mc' := (a4.mono (by decide)).trans ((Agr.of (wX2_read Mc1) (eC.trans f1)).mono (by decide))
    refine ⟨-1, mu Mc' 178 1 0, _, ?_, ?_, AR_flt hA hc (tx1.trans (TX_TL f4)) f3⟩
    · rw [f1, Option.bind_some, if_pos rfl, midC, if_pos w0, finC_m]
    · rw [f2, Option.bind_some, Option.bind_some, if_pos rfl, finM_m]
  · have hc : Agr ScF Mc Mc' := (a4.mono (by decide)).trans ((Agr.of (wX2_read Mc1) (eC.trans f1)).mono (by decide))
    have hz : z' ≤ 400 := Nat.le_trans f5 (Nat.le_trans f4.2.1 (Nat.le_trans f4.2.2.1 f4.1.1))
    obtain ⟨Mc3, c1, c2, c3, c4, c5, c6⟩ := law_copy (M := Mc') (d := 17) (s := 181) (by omega)
    have m26 : mu Mm' 198 13 0 198 26 = 0 := by rw [mu_i (by omega), f8 198 26 (by omega) (by omega) (by omega) (by omega)]; exact k26
    have m27 : mu Mm' 198 13 0 198 27 = nI z' := by rw [mu_i (by omega)]; exact f4.2.2.2.2.2.2.2.2.1
    obtain ⟨Mm3, d1, d2, d3, d4⟩ := takes_law f3 hz m26 m27
    have txm : TX Mm Mm' := tx1.trans (TX_TL f8)
    have c78 : ∀ i, (i = 2 ∨ i = 3) → Mc' 178 i = Mc1 178 i := fun i q => by
      rcases nX2_read_L9 FU (nI 0) Mc2 _ f1 with x | ⟨x, y⟩
      · exact absurd x one_ne
      · rcases q with rfl | rfl
        · exact x.trans (o2 178 2 (by omega))
        · exact y.trans (o2 178 3 (by omega))
    have A1 : AR (mu Mc' 178 1 0) (mu Mm' 198 13 0) := by
      refine AR_keep hA (Agr.mu hc (Or.inl (by decide))) (txm.trans (TX_mu (by omega))) mu_s mu_s ?_ ?_
      · rw [mu_i (by omega), mu_i (by omega), c78 2 (by omega), a5, f8 198 33 (by omega) (by omega) (by omega) (by omega), k33]
      · rw [mu_i (by omega), mu_i (by omega), c78 3 (by omega), a6, f8 198 34 (by omega) (by omega) (by omega) (by omega), k34]
    have hne : ¬ nI n = -1 := (show ∀ n, n < 17 → ¬ nI n = -1 by decide) n (by omega)
    refine ⟨nI n, mu Mc3 178 1 0, Mm3, ?_, ?_, ?_⟩
    · rw [f1, Option.bind_some, if_neg one_ne, c1, Option.bind_some, midC, if_pos w0, c2, f6, finC, if_neg hne, if_neg (show ¬ (0 : Int32) = 1 by decide), if_neg (show ¬ (0 : Int32) = 2 by decide)]
    · rw [f2, Option.bind_some, Option.bind_some, if_neg hne, finM, if_neg hne, if_pos rfl, d1, Option.bind_some]
    · have o3 : ∀ a i, (a < 17 ∨ 22 < a) → Mc3 a i = Mc' a i := c6
      have cp : Agr (ftLaw 17) Mc' Mc3 := (Agr.ofU (wX1_copyFrom 17 181 Mc') c1).mono (by decide)
      refine AR_law A1 (fun a i q1 q2 => ?_) ((Agr.ofU (wX12_takesLaw _ _) d1).mono (by decide)) ?_
      · by_cases w : a = 178 ∧ i = 1
        · rw [w.1, w.2, mu_s, mu_s]
        · have s : ∀ M : Mem, mu M 178 1 0 a i = M a i := fun M => by
            by_cases w' : a = 178
            · subst w'; exact mu_i (fun x => w ⟨rfl, x⟩)
            · exact mu_o w'
          rw [s, s]
          exact cp a i q1 q2
      · exact LawR_new (Mc := mu Mc' 178 1 0) (Mm := mu Mm' 198 13 0) f3 hz (by rw [mu_o (by omega)]; exact f6) (by rw [mu_o (by omega)]; exact f4.2.2.2.2.2.2.2.1) (fun j hj => by rw [mu_o (by omega), mu_o (by omega), mu_o (by omega)]; exact f4.2.2.2.2.2.2.2.2.2 j hj) (fun l hl => by
          have x := f7 l hl
          unfold Lq at x ⊢
          have e1 : dop (mu Mm' 198 13 0) = dop Mm' := funext fun j => mu_o (by omega)
          have e2 : dar (mu Mm' 198 13 0) = dar Mm' := funext fun j => mu_o (by omega)
          rw [e1, e2, mu_o (by omega), mu_o (by omega), mu_o (by omega), mu_o (by omega), mu_o (by omega), mu_o (by omega), mu_o (by omega), mu_o (by omega)]
          exact x) (by rw [mu_o (by omega), mu_o (by omega)]; exact c2) (by rw [mu_o (by omega), mu_o (by omega)]; exact c3) (fun i hi => by
          rw [mu_o (by omega), mu_o (by omega), mu_o (by omega), mu_o (by omega), mu_o (by omega), mu_o (by omega), mu_o (by omega), mu_o (by omega)]
          exact c4 i hi) (fun i hi => by rw [mu_o (by omega), mu_o (by omega)]; exact c5 i hi) d2 d3 d4
end TEXT0C
