/-! ===== text: what stays, what is taken ===== -/
/-- what the reading of any text changes on the reference's side -/
def TX (M0 M : Mem) : Prop := ∀ a i, ¬ (a = 198 ∧ (i = 0 ∨ i = 13 ∨ i = 14 ∨ i = 15 ∨ i = 16 ∨ i = 17 ∨ i = 26 ∨ i = 27 ∨ i = 28 ∨ i = 30 ∨ i = 31 ∨ i = 32 ∨ i = 33 ∨ i = 34)) → ¬ ((a = 209 ∨ a = 210 ∨ a = 211 ∨ a = 212) ∧ 32 ≤ i) → ¬ ((a = 213 ∨ a = 214) ∧ 800 ≤ i) → a ≠ 215 → ¬ (a = 216 ∧ 48 ≤ i) → ¬ (a = 217 ∧ 64 ≤ i) → ¬ (a = 218 ∧ 14 ≤ i) → M a i = M0 a i
theorem TX.trans {M M' M'' : Mem} (h1 : TX M M') (h2 : TX M' M'') : TX M M'' := fun a i q1 q2 q3 q4 q5 q6 q7 => (h2 a i q1 q2 q3 q4 q5 q6 q7).trans (h1 a i q1 q2 q3 q4 q5 q6 q7)
theorem TX.rfl' {M : Mem} : TX M M := fun _ _ _ _ _ _ _ _ _ => rfl
theorem TX_TL {M M' : Mem} (h : TL M M') : TX M M' := fun a i q1 q2 q3 q4 _ _ _ => h a i (fun w => q1 ⟨w.1, by omega⟩) q2 q3 q4
theorem TX_mu {M : Mem} {i : Nat} {v : Int32} (hi : i = 0 ∨ i = 13 ∨ i = 14 ∨ i = 15 ∨ i = 16 ∨ i = 17 ∨ i = 26 ∨ i = 27 ∨ i = 28 ∨ i = 30 ∨ i = 31 ∨ i = 32 ∨ i = 33 ∨ i = 34) : TX M (mu M 198 i v) := fun a j q1 q2 q3 q4 q5 q6 q7 => by
  by_cases w : a = 198
  · subst w; exact mu_i (fun w => q1 ⟨rfl, w ▸ hi⟩)
  · exact mu_o w
abbrev ScF : List (Nat × Option Nat) := [(178, some 1), (178, some 2), (178, some 3), (178, some 4), (178, some 5), (178, some 6), (178, some 7), (178, some 8), (181, some 0), (181, some 1), (182, none), (183, none), (184, none), (185, none), (186, none), (189, some 1), (189, some 2), (189, some 3), (189, some 4), (190, some 0), (191, none), (192, none), (193, none), (194, none)]
abbrev SmF : List (Nat × Option Nat) := [(198, some 0), (198, some 13), (198, some 14), (198, some 15), (198, some 16), (198, some 17), (198, some 26), (198, some 27), (198, some 28), (198, some 30), (198, some 31), (198, some 32), (198, some 33), (198, some 34), (209, none), (210, none), (211, none), (212, none), (213, none), (214, none), (215, none), (216, none), (217, none), (218, none)]
theorem TX.agr {M M' : Mem} (h : TX M M') : Agr SmF M M' := fun a i q1 q2 => by
  refine h a i (fun w => ?_) (fun w => ?_) (fun w => ?_) (fun w => ?_) (fun w => ?_) (fun w => ?_) (fun w => ?_)
  · obtain ⟨w1, w2⟩ := w
    subst w1
    rcases w2 with rfl | rfl | rfl | rfl | rfl | rfl | rfl | rfl | rfl | rfl | rfl | rfl | rfl | rfl <;> exact q2 (by decide)
  · rcases w.1 with rfl | rfl | rfl | rfl <;> exact q1 (by decide)
  · rcases w.1 with rfl | rfl <;> exact q1 (by decide)
  · subst w; exact q1 (by decide)
  · obtain ⟨w1, -⟩ := w; subst w1; exact q1 (by decide)
  · obtain ⟨w1, -⟩ := w; subst w1; exact q1 (by decide)
  · obtain ⟨w1, -⟩ := w; subst w1; exact q1 (by decide)
theorem LawR_pt {k : Nat} {Mc Mm Mm' : Mem} (h : LawR Mc k Mm) (e8 : Mm' 208 0 = Mm 208 0) (e9 : ∀ a i, a = 209 ∨ a = 210 ∨ a = 211 ∨ a = 212 → i < 16 → Mm' a i = Mm a i) (e13 : ∀ a i, a = 213 ∨ a = 214 → i < 400 → Mm' a i = Mm a i) : LawR Mc k Mm' := by
  obtain ⟨n, m, h1, h2, h3, h4, h5, h6, h7⟩ := h
  refine ⟨n, m, h1, h2, h3, e8.trans h4, h5, fun i hi => ?_, fun l hl => ?_⟩
  · rw [e13 213 i (by omega) (by omega), e13 214 i (by omega) (by omega)]; exact h6 i hi
  · obtain ⟨w, e, b, t, a1, a2, a3, a4, a5, a6, a7, a8, a9, a10, a11, a12, a13, a14⟩ := h7 l hl
    have tc : ∀ i n, i + n ≤ m → tck (Mm' 213) (Mm' 214) i n [] = tck (Mm 213) (Mm 214) i n [] := fun i n q => tck_congr n i [] fun j hj => ⟨e13 213 j (by omega) (by omega), e13 214 j (by omega) (by omega)⟩
    refine ⟨w, e, b, t, a1, a2, a3, a4, a5, ?_, a7, ?_, a9, ?_, a11, ?_, ?_, fun x => ?_⟩
    · rw [e9 209 l (by omega) (by omega)]; exact a6
    · rw [e9 210 l (by omega) (by omega)]; exact a8
    · rw [e9 211 l (by omega) (by omega)]; exact a10
    · rw [e9 212 l (by omega) (by omega)]; exact a12
    · rw [tc e (b - e) (by omega)]; exact a13
    · rw [tc b (t - b) (by omega)]; exact a14 x
theorem TwR_pt {k B : Nat} {Mc Mm Mm' : Mem} (h : TwR Mc k Mm B) (e1 : Mm' 198 35 = Mm 198 35) (e2 : ∀ i, i < 48 → Mm' 216 i = Mm 216 i) : TwR Mc k Mm' B := by
  obtain ⟨n, h1, h2, h3, h4⟩ := h
  refine ⟨n, h1, h2, e1.trans h3, fun i hi => ?_⟩
  rw [e2 (3 * i) (by omega), e2 (3 * i + 1) (by omega), e2 (3 * i + 2) (by omega)]
  exact h4 i hi
theorem EvR_pt {k P B : Nat} {Mc Mm Mm' : Mem} (h : EvR Mc k Mm P B) (e1 : Mm' 198 37 = Mm 198 37) (e2 : ∀ i, i < 64 → Mm' 217 i = Mm 217 i) : EvR Mc k Mm' P B := by
  obtain ⟨n, h1, h2, h3, h4⟩ := h
  refine ⟨n, h1, h2, e1.trans h3, fun i hi => ?_⟩
  rw [e2 (4 * i) (by omega), e2 (4 * i + 1) (by omega), e2 (4 * i + 2) (by omega), e2 (4 * i + 3) (by omega)]
  exact h4 i hi
theorem HeR_pt {k P B : Nat} {Mc Mm Mm' : Mem} (h : HeR Mc k Mm P B) (e1 : Mm' 198 39 = Mm 198 39) (e2 : ∀ i, i < 14 → Mm' 218 i = Mm 218 i) : HeR Mc k Mm' P B := by
  obtain ⟨n, h1, h2, h3, h4, h5⟩ := h
  refine ⟨n, h1, h2, e1.trans h3, h4, fun b hb => ?_⟩
  rw [e2 b hb]
  exact h5 b hb
/-- all that was told stays; the tape is emptied, a fault is told -/
theorem AR_keep {Mc Mm Mc' Mm' : Mem} (h : AR Mc Mm) (hc : Agr ScF Mc Mc') (hx : TX Mm Mm') (t1 : Mc' 178 1 = 0) (t2 : Mm' 198 13 = 0) (f1 : Mc' 178 2 = Mm' 198 33) (f2 : Mc' 178 3 = Mm' 198 34) : AR Mc' Mm' := by
  have hm := hx.agr
  obtain ⟨⟨P, B, n, hBd, hTv, hFx, hBk, hLaw, hTw, hEv, hHe, hTo⟩, ⟨N, hN, hN2, hPa⟩, hTa, hFa, hIm, hCs⟩ := h
  have ho : Agr [] Mm Mm := Agr.rfl'
  refine ⟨⟨P, B, n, Bd_agr hm rfl hBd, ?_, Fx_agr hc hm rfl rfl hFx, Bk_agr hc hm rfl rfl (hx 199 2 (by omega) (by omega) (by omega) (by omega) (by omega) (by omega) (by omega)) hBk, ?_, ?_, ?_, ?_, ToR_agr hc hm rfl rfl hTo⟩, ⟨N, ?_, hN2, PaR_agr (Nat.le_refl _) hc hm rfl rfl hPa⟩, ⟨0, by omega, t1, t2, fun i hi => absurd hi (by omega)⟩, ⟨f1, f2⟩, ImR_agr hc hm rfl rfl hIm, CsR_agr hc hm rfl rfl (hx 226 0 (by omega) (by omega) (by omega) (by omega) (by omega) (by omega) (by omega)) (hx 227 0 (by omega) (by omega) (by omega) (by omega) (by omega) (by omega) (by omega)) hCs⟩
  · have : Mm' 199 = Mm 199 := funext fun i => hx 199 i (by omega) (by omega) (by omega) (by omega) (by omega) (by omega) (by omega)
    rw [this]; exact Tv_agr hc rfl hTv
  · exact LawR_pt (LawR_agr hc ho rfl rfl hLaw) (hx 208 0 (by omega) (by omega) (by omega) (by omega) (by omega) (by omega) (by omega)) (fun a i qa qi => hx a i (by omega) (by omega) (by omega) (by omega) (by omega) (by omega) (by omega)) (fun a i qa qi => hx a i (by omega) (by omega) (by omega) (by omega) (by omega) (by omega) (by omega))
  · exact TwR_pt (TwR_agr hc ho rfl rfl hTw) (hx 198 35 (by omega) (by omega) (by omega) (by omega) (by omega) (by omega) (by omega)) (fun i qi => hx 216 i (by omega) (by omega) (by omega) (by omega) (by omega) (by omega) (by omega))
  · exact EvR_pt (EvR_agr hc ho rfl rfl hEv) (hx 198 37 (by omega) (by omega) (by omega) (by omega) (by omega) (by omega) (by omega)) (fun i qi => hx 217 i (by omega) (by omega) (by omega) (by omega) (by omega) (by omega) (by omega))
  · exact HeR_pt (HeR_agr hc ho rfl rfl hHe) (hx 198 39 (by omega) (by omega) (by omega) (by omega) (by omega) (by omega) (by omega)) (fun i qi => hx 218 i (by omega) (by omega) (by omega) (by omega) (by omega) (by omega) (by omega))
  · rw [hx 199 2 (by omega) (by omega) (by omega) (by omega) (by omega) (by omega) (by omega)]; exact hN
/-- a new law -/
theorem AR_law {Mc Mm Mc' Mm' : Mem} (h : AR Mc Mm) (hc : Agr (ftLaw 17) Mc Mc') (hm : Agr fmLaw Mm Mm') (hl : LawR Mc' 17 Mm') : AR Mc' Mm' := by
  obtain ⟨⟨P, B, n, hBd, hTv, hFx, hBk, hLaw, hTw, hEv, hHe, hTo⟩, ⟨N, hN, hN2, hPa⟩, hTa, hFa, hIm, hCs⟩ := h
  refine ⟨⟨P, B, n, Bd_agr hm rfl hBd, ?_, Fx_agr hc hm rfl rfl hFx, Bk_agr hc hm rfl rfl (hm 199 2 (by decide) (by decide)) hBk, hl, TwR_agr hc hm rfl rfl hTw, EvR_agr hc hm rfl rfl hEv, HeR_agr hc hm rfl rfl hHe, ToR_agr hc hm rfl rfl hTo⟩, ⟨N, ?_, hN2, PaR_agr (Nat.le_refl _) hc hm rfl rfl hPa⟩, TaR_agr hc hm rfl rfl hTa, ?_, ImR_agr hc hm rfl rfl hIm, CsR_agr hc hm rfl rfl (hm 226 0 (by decide) (by decide)) (hm 227 0 (by decide) (by decide)) hCs⟩
  · have : Mm' 199 = Mm 199 := funext fun i => hm 199 i (by simp) (by simp)
    rw [this]; exact Tv_agr hc rfl hTv
  · rw [hm 199 2 (by decide) (by decide)]; exact hN
  · rw [hc 178 2 (by decide) (by decide), hc 178 3 (by decide) (by decide), hm 198 33 (by decide) (by decide), hm 198 34 (by decide) (by decide)]; exact hFa
def PT (L : Nat) (b : Nat → Nat) (τ p e : Nat) (Mc Mm : Mem) : Prop := TpR L b Mc Mm ∧ p ≤ e ∧ e ≤ L ∧ (1 ≤ τ → p < e) ∧ (τ = 0 → p = L) ∧ HandC τ p e Mc ∧ HandM τ p e Mm
theorem pt_begin {Mc Mm Mm4 : Mem} (h : AR Mc Mm) (e1 : Mm4 198 13 = Mm 198 13) (e2 : ∀ i, Mm4 206 i = Mm 206 i) (e3 : ∀ i, Mm4 207 i = Mm 207 i) (e4 : Mm4 198 14 = 0) : ∃ L b τ p e Mc1 Mm1, fX8_begin Mc = some Mc1 ∧ fX12_reads Mm4 = some Mm1 ∧ PT L b τ p e Mc1 Mm1 ∧ Agr [(178, some 2), (178, some 3), (178, some 4), (178, some 5), (178, some 6), (178, some 7)] Mc Mc1 ∧ Mc1 178 2 = 0 ∧ Mc1 178 3 = -1 ∧ Agr [(198, some 14), (198, some 15), (198, some 16), (198, some 17)] Mm4 Mm1 := by
  obtain ⟨hC, hP, ⟨n, hn, t1, t2, t3⟩, hFa, hIm, hCs⟩ := h
  have sk : ∀ i, ∃ x, i < n → x < 256 ∧ Mm 206 i = nI x ∧ Mc 179 i = ji2b (nI x) := fun i => by
    by_cases q : i < n
    · obtain ⟨x, hx⟩ := t3 i q; exact ⟨x, fun _ => hx⟩
    · exact ⟨0, fun w => absurd w q⟩
  obtain ⟨b, hb⟩ := Classical.axiomOfChoice sk
  have hT : TpR n b (mu (mu (mu Mc 178 2 0) 178 3 (-1)) 178 6 0) Mm4 := by
    refine ⟨hn, by rw [mu_i (by omega), mu_i (by omega), mu_i (by omega)]; exact t1, e1.trans t2, fun i hi => ?_, fun i hi => (e3 i).trans (hCs.2.2.2.2.2.2.2.1 i hi)⟩
    obtain ⟨b1, b2, b3⟩ := hb i hi
    exact ⟨b1, (e2 i).trans b2, by rw [mu_o (by omega), mu_o (by omega), mu_o (by omega)]; exact b3⟩
  obtain ⟨τ, p, e, Mc1, Mm1, a1, a2, a3, a4, a5, a6, a7, a8, a9⟩ := tok_step hT (s := 0) (by omega) mu_s e4
  have hc : Agr [(178, some 4), (178, some 5), (178, some 6), (178, some 7)] _ Mc1 := Agr.ofU (wX8_advance _) a6
  have hm : Agr [(198, some 14), (198, some 15), (198, some 16), (198, some 17)] Mm4 Mm1 := Agr.ofU (wX12_reads Mm4) a7
  refine ⟨n, b, τ, p, e, Mc1, Mm1, ?_, a7, ⟨?_, a2, a3, a4, a5, a8, a9⟩, ?_, ?_, ?_, hm⟩
  · unfold fX8_begin
    rw [bnd_eq, bnd_eq, bnd_eq, a6]; rfl
  · exact TpR_m (TpR_c hT (hc 178 1 (by decide) (by decide)) (funext fun i => hc 179 i (by simp) (by simp))) (hm 198 13 (by decide) (by decide)) (funext fun i => hm 206 i (by simp) (by simp)) (funext fun i => hm 207 i (by simp) (by simp))
  · refine Agr.trans (M' := mu (mu (mu Mc 178 2 0) 178 3 (-1)) 178 6 0) ?_ (hc.mono (by decide))
    exact Agr.mu (Agr.mu (Agr.mu Agr.rfl' (Or.inl (by decide))) (Or.inl (by decide))) (Or.inl (by decide))
  · rw [hc 178 2 (by decide) (by decide), mu_i (by omega), mu_i (by omega), mu_s]
  · rw [hc 178 3 (by decide) (by decide), mu_i (by omega), mu_s]
