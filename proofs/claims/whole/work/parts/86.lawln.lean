/-! ===== text: a line of law ===== -/
/-- what reading a line of law changes on the reference's side -/
def RF (z k : Nat) (M M' : Mem) : Prop := ∀ a i, ¬ (a = 198 ∧ (i = 14 ∨ i = 15 ∨ i = 16 ∨ i = 17 ∨ i = 27 ∨ i = 28 ∨ i = 30 ∨ i = 31 ∨ i = 32)) → ¬ ((a = 209 ∨ a = 210 ∨ a = 211 ∨ a = 212) ∧ i = 32 + k) → ¬ ((a = 213 ∨ a = 214) ∧ 800 + z ≤ i) → a ≠ 215 → M' a i = M a i
theorem RF.rfl' {z k : Nat} {M : Mem} : RF z k M M := fun _ _ _ _ _ _ => rfl
theorem RF.trans {z z' k : Nat} {M M' M'' : Mem} (h1 : RF z k M M') (h2 : RF z' k M' M'') (hz : z ≤ z') : RF z k M M'' := fun a i q1 q2 q3 q4 => (h2 a i q1 q2 (fun w => q3 ⟨w.1, by omega⟩) q4).trans (h1 a i q1 q2 q3 q4)
theorem RF_of {z k : Nat} {M M' : Mem} (h : Agr [(198, some 14), (198, some 15), (198, some 16), (198, some 17), (198, some 27), (198, some 28), (198, some 30), (198, some 31), (198, some 32), (213, none), (214, none), (215, none)] M M') (hd : Df z M M') : RF z k M M' := fun a i q1 q2 q3 q4 => by
  by_cases w : a = 213
  · subst w; exact (hd i (by omega)).1
  by_cases w' : a = 214
  · subst w'; exact (hd i (by omega)).2
  refine h a i (by simp; omega) (by simp; omega)
theorem RF_mu {z k a : Nat} {M : Mem} {v : Int32} (ha : a = 209 ∨ a = 210 ∨ a = 211 ∨ a = 212) : RF z k M (mu M a (32 + k) v) := fun a' i q1 q2 q3 q4 => by
  by_cases w : a' = a
  · subst w; exact mu_i (fun w => q2 ⟨ha, w⟩)
  · exact mu_o w
theorem RF.df {z k : Nat} {M M' : Mem} (h : RF z k M M') : Df z M M' := fun j hj => ⟨h 213 j (by omega) (by omega) (by omega) (by omega), h 214 j (by omega) (by omega) (by omega) (by omega)⟩
section LAWLN
variable {L : Nat} {b : Nat → Nat}
theorem PS_m2 {τ p e z : Nat} {Mc Mm Mm' : Mem} (h : PS L b τ p e z Mc Mm) (hm : ∀ a i, a = 198 ∨ a = 206 ∨ a = 207 ∨ a = 213 ∨ a = 214 → Mm' a i = Mm a i) : PS L b τ p e z Mc Mm' := by
  obtain ⟨h1, h2, h3, h4, h5, h6, h7, h8, h9, h10⟩ := h
  refine ⟨?_, h2, h3, h4, h5, h6, ?_, h8, ?_, fun j hj => ?_⟩
  · exact TpR_m h1 (hm 198 13 (by omega)) (funext fun i => hm 206 i (by omega)) (funext fun i => hm 207 i (by omega))
  · exact HandM_congr h7 (hm 198 14 (by omega)) (hm 198 15 (by omega)) (hm 198 16 (by omega)) (hm 198 17 (by omega))
  · rw [hm 198 27 (by omega)]; exact h9
  · rw [hm 213 _ (by omega), hm 214 _ (by omega)]; exact h10 j hj
theorem PS_c2 {τ p e z : Nat} {Mc Mc' Mm : Mem} (h : PS L b τ p e z Mc Mm) (hc : ∀ a i, a = 178 ∨ a = 179 ∨ (a = 181 ∧ i = 1) ∨ a = 186 → Mc' a i = Mc a i) : PS L b τ p e z Mc' Mm := by
  obtain ⟨h1, h2, h3, h4, h5, h6, h7, h8, h9, h10⟩ := h
  refine ⟨?_, h2, h3, h4, h5, ?_, h7, ?_, h9, fun j hj => ?_⟩
  · exact TpR_c h1 (hc 178 1 (by omega)) (funext fun i => hc 179 i (by omega))
  · exact HandC_congr h6 (hc 178 4 (by omega)) (hc 178 5 (by omega)) (hc 178 6 (by omega)) (hc 178 7 (by omega)) (funext fun i => hc 179 i (by omega))
  · rw [hc 181 1 (by omega)]; exact h8
  · rw [hc 186 _ (by omega)]; exact h10 j hj
theorem any_eq {d τ p e z : Nat} {Mc Mm : Mem} (h : PS L b τ p e z Mc Mm) (hp1 : 1 ≤ p) (hz : z + d ≤ p) (h28 : Mm 198 28 = nI 0) :
    (∃ Mc' Mm', fX2_readEither RU 0 Mc = some (0, Mc') ∧ fX12_readAny Mm = some (-1, Mm') ∧ FR Mc' Mm' ∧ Df z Mm Mm') ∨
    (∃ τ' p' e' z' Mc' Mm', fX2_readEither RU 0 Mc = some (1, Mc') ∧ fX12_readAny Mm = some (0, Mm') ∧ p < p' ∧ z < z' ∧ z' + d ≤ p' ∧ PS L b τ' p' e' z' Mc' Mm' ∧ Mm' 198 28 = nI 0 ∧ Df z Mm Mm' ∧ tck (dop Mm') (dar Mm') z (z' - z) [] = some [true]) := by
  have hL := h.1.1
  have pA : PS L b τ p e z Mc (mu Mm 198 30 0) := PS_m h (fun a i q1 q2 => by
    by_cases w : a = 198
    · subst w; exact mu_i (fun w => q2 ⟨rfl, Or.inr w⟩)
    · exact mu_o w)
  have dA : Df z Mm (mu Mm 198 30 0) := fun j _ => ⟨mu_o (by omega), mu_o (by omega)⟩
  have z0 : nI 0 = (0 : Int32) := rfl
  have e1 : fX12_readAny Mm = fX12_readAny_L9 FU (nI 0) 1 (mu Mm 198 30 0) := by rw [z0, fX12_readAny, bnd_eq]
  rw [e1]
  rcases (cond_all RU).2 FU 0 d 0 τ p e z [] Mc (mu Mm 198 30 0) (by omega) (by decide) pA hp1 hz (FU_gt (by omega)) ⟨mu_s, trivial⟩ (fun q r w => by cases w) (by decide) (by rw [mu_i (by omega)]; exact h28) (by omega) with ⟨Mc', Mm', f1, f2, f3, f4⟩ | ⟨τ', p', e', z', F', Mc', Mm', f1, f2, f3, f4, f5, f6, f7, f8, f9, f10, f11⟩
  · exact Or.inl ⟨Mc', Mm', f1, f2, f3, dA.trans f4 (Nat.le_refl _)⟩
  · refine Or.inr ⟨τ', p', e', z', Mc', Mm', f1, ?_, f3, f5, f6, f7, f9, dA.trans f10 (Nat.le_refl _), f11 [] (by decide)⟩
    rw [f2, refT, if_pos z0]
def lnC2 (v2 x4 x6 : Int32) (J : Mem → Option (Int32 × Mem)) (M9 : Mem) : Option (Int32 × Mem) := (fX8_takeSign 59 M9).bind fun r10 => if r10.1 = 0 then (some (0, r10.2)) else ((fX1_appendLine v2 x4 x6 r10.2).bind J)
def lnC (v2 : Int32) (J : Mem → Option (Int32 × Mem)) (M : Mem) : Option (Int32 × Mem) :=
  (fX8_advance M).bind fun M3 => (fX2_readSum M3).bind fun r5 => if r5.1 = 0 then (some (0, r5.2)) else ((fX8_passWord 13 r5.2).bind fun r7 => if r7.1 = 0 then lnC2 v2 (M3 181 1) (r5.2 181 1) J r7.2 else ((fX2_readEither RU 0 r7.2).bind fun r12 => if r12.1 = 0 then (some (0, r12.2)) else lnC2 v2 (M3 181 1) (r5.2 181 1) J r12.2))
def lnM2 (x1 : Int32) (J : Mem → Option (Int32 × Mem)) (M8 : Mem) : Option (Int32 × Mem) := (wr M8 212 48 x1 (M8 198 27)).bind fun M9 => if (fX12_isSign 59 M9) = 0 then ((fX12_errs 1 M9).bind fun r12 => some (r12.1, r12.2)) else ((fX12_reads M9).bind J)
def lnM (x1 : Int32) (J : Mem → Option (Int32 × Mem)) (M : Mem) : Option (Int32 × Mem) :=
  (wr M 209 48 x1 (M 198 17)).bind fun M2 => (fX12_reads M2).bind fun M3 => (wr M3 210 48 x1 (M3 198 27)).bind fun M4 => (fX12_readSum M4).bind fun r5 => if r5.1 = (-1) then (some ((-1), r5.2)) else ((wr r5.2 211 48 x1 (r5.2 198 27)).bind fun M6 => if (fX12_isWord 3 M6) = 0 then lnM2 x1 J M6 else ((fX12_reads M6).bind fun M13 => (fX12_readAny M13).bind fun r14 => if r14.1 = (-1) then (some ((-1), r14.2)) else lnM2 x1 J r14.2))
theorem law_sC (K131 : Mem → Option (Int32 × Mem)) (n : Nat) (y2 : Int32) (M : Mem) : fX2_read_L9 K131 (n + 1) y2 M = if 16 < y2 then K131 M else if M 178 4 = 0 then K131 M else (fX2_wordAtHand M).bind fun v2 => if v2 = (-1) then ((fX8_refuse 1 M).bind fun r14 => if r14.1 = 0 ∨ r14.1 = 1 then some (r14.1, r14.2) else none) else if y2 = 16 then ((fX8_refuse 3 M).bind fun r13 => if r13.1 = 0 ∨ r13.1 = 1 then some (r13.1, r13.2) else none) else lnC v2 (fX2_read_L9 K131 n (y2 + 1)) M := by
  rw [fX2_read_L9]
  rfl
theorem law_sM (K128 : Int32 → Mem → Option (Int32 × Mem)) (n : Nat) (y1 : Int32) (M : Mem) : fX12_readLaw_L2 K128 (n + 1) y1 M = if fX12_isLineWord M = 0 then K128 y1 M else if y1 = 16 then ((fX12_errs 3 M).bind fun r15 => some (r15.1, r15.2)) else lnM (32 + y1) (fX12_readLaw_L2 K128 n (y1 + 1)) M := by
  rw [fX12_readLaw_L2]
  rfl
/-- a line's numbers, on both sides -/
def Lq (l w e b t : Nat) (Mc Mm : Mem) : Prop := Mc 182 l = nI w ∧ Mm 209 (32 + l) = nI w ∧ Mc 183 l = nI e ∧ Mm 210 (32 + l) = nI e ∧ Mc 184 l = nI b ∧ Mm 211 (32 + l) = nI b ∧ Mc 185 l = nI t ∧ Mm 212 (32 + l) = nI t
theorem ln_end {k w e0 b0 τ p e z : Nat} {Mc Mm : Mem} (h : PS L b τ p e z Mc Mm) (hk : k < 16) (hc : Mc 181 0 = nI k) (m1 : Mm 209 (32 + k) = nI w) (m2 : Mm 210 (32 + k) = nI e0) (m3 : Mm 211 (32 + k) = nI b0) :
    (∃ Mc' Mm', (∀ J, lnC2 (nI w) (nI e0) (nI b0) J Mc = some (0, Mc')) ∧ (∀ J, lnM2 (nI (32 + k)) J Mm = some (-1, Mm')) ∧ FR Mc' Mm' ∧ RF z k Mm Mm') ∨
    (∃ τ' p' e' Mc' Mm', (∀ J, lnC2 (nI w) (nI e0) (nI b0) J Mc = J Mc') ∧ (∀ J, lnM2 (nI (32 + k)) J Mm = J Mm') ∧ p < p' ∧ PS L b τ' p' e' z Mc' Mm' ∧ Mm' 198 28 = Mm 198 28 ∧ Mc' 181 0 = nI (k + 1) ∧ RF z k Mm Mm' ∧ (∀ j i, 182 ≤ j → j ≤ 185 → i < k → Mc' j i = Mc j i) ∧ Lq k w e0 b0 z Mc' Mm') := by
  have hC := h.2.2.2.2.2.1
  have hM := h.2.2.2.2.2.2.1
  have s59 : fX8_isSign 59 Mc = if τ = 159 then 1 else 0 := hc_sign (c := 59) hC (by decide)
  have hz := h.2.2.2.2.2.2.2.2.1
  have pA : PS L b τ p e z Mc (mu Mm 212 (32 + k) (nI z)) := PS_m2 h (fun a i w => mu_o (by omega))
  have m59 : fX12_isSign 59 (mu Mm 212 (32 + k) (nI z)) = if τ = 159 then 1 else 0 := hm_sign (c := 59) pA.2.2.2.2.2.2.1 (by decide)
  have rA : RF z k Mm (mu Mm 212 (32 + k) (nI z)) := RF_mu (by omega)
  unfold lnC2 lnM2
  have e1 : wr Mm 212 48 (nI (32 + k)) (Mm 198 27) = some (mu Mm 212 (32 + k) (nI z)) := by rw [wr_nI (by omega), hz]
  rw [e1]
  by_cases c : τ = 159
  · right
    obtain ⟨τ1, p1, e1, Mc1, Mm1, n1, n2, n3, n4, n5, n6⟩ := ps_next pA
    have hpe : p < e := h.2.2.2.1 (by omega)
    have hc1 : Mc1 181 0 = nI k := (n5 181 0 (by decide) (by decide)).trans hc
    have hc2 : Mc1 181 1 = nI z := (n5 181 1 (by decide) (by decide)).trans h.2.2.2.2.2.2.2.1
    have ap : fX1_appendLine (nI w) (nI e0) (nI b0) Mc1 = some (mu (mu (mu (mu (mu Mc1 182 k (nI w)) 183 k (nI e0)) 184 k (nI b0)) 185 k (nI z)) 181 0 (nI (k + 1))) := by
      unfold fX1_appendLine
      rw [hc1, if_neg (show ¬ (16 : Int32) ≤ nI k from nI_ge (show k < 16 from hk) (by decide)), wr_nI hk, Option.bind_some, mu_o (by omega), hc1, wr_nI hk, Option.bind_some, mu_o (by omega), mu_o (by omega), hc1, wr_nI hk, Option.bind_some, mu_o (by omega), mu_o (by omega), mu_o (by omega), hc1, mu_o (by omega), mu_o (by omega), mu_o (by omega), hc2, wr_nI hk, Option.bind_some, bnd_eq, mu_o (by omega), mu_o (by omega), mu_o (by omega), mu_o (by omega), hc1, nI_1]
    have tk : fX8_takeSign 59 Mc = some (1, Mc1) := by
      unfold fX8_takeSign
      rw [s59, if_pos c, if_neg one_ne, n2, Option.bind_some]
    refine ⟨τ1, p1, e1, mu (mu (mu (mu (mu Mc1 182 k (nI w)) 183 k (nI e0)) 184 k (nI b0)) 185 k (nI z)) 181 0 (nI (k + 1)), Mm1, fun J => ?_, fun J => ?_, by omega, PS_c2 n4 ?_, ?_, mu_s, ?_, ?_, ?_⟩
    · rw [tk, Option.bind_some, if_neg one_ne, ap, Option.bind_some]
    · rw [Option.bind_some, m59, if_pos c, if_neg one_ne, n3, Option.bind_some]
    · intro a i q
      by_cases w : a = 181
      · subst w; rw [mu_i (by omega), mu_o (by omega), mu_o (by omega), mu_o (by omega), mu_o (by omega)]
      · rw [mu_o w, mu_o (by omega), mu_o (by omega), mu_o (by omega), mu_o (by omega)]
    · rw [n6 198 28 (by decide) (by decide), mu_o (by omega)]
    · exact rA.trans (RF_of (n6.mono (by decide)) (Agr_df n6)) (Nat.le_refl _)
    · intro j i q1 q2 q3
      rw [mu_o (by omega)]
      have s : ∀ (M : Mem) (a : Nat) (v : Int32), mu M a k v j i = M j i := fun M a v => by
        by_cases w : j = a
        · subst w; exact mu_i (by omega)
        · exact mu_o w
      rw [s, s, s, s]
      exact n5 j i (by simp) (by simp; omega)
    · have r : ∀ a i, 209 ≤ a → a ≤ 211 → Mm1 a i = Mm a i := fun a i q1 q2 => by
        rw [n6 a i (by simp) (by simp; omega), mu_o (by omega)]
      refine ⟨by rw [mu_o (by omega), mu_o (by omega), mu_o (by omega), mu_o (by omega), mu_s], (r 209 _ (by omega) (by omega)).trans m1, by rw [mu_o (by omega), mu_o (by omega), mu_o (by omega), mu_s], (r 210 _ (by omega) (by omega)).trans m2, by rw [mu_o (by omega), mu_o (by omega), mu_s], (r 211 _ (by omega) (by omega)).trans m3, by rw [mu_o (by omega), mu_s], ?_⟩
      rw [n6 212 _ (by simp) (by simp), mu_s]
  · left
    obtain ⟨Mc2, Mm2, g1, g2, g3, g4⟩ := ps_fault pA 1
    have hm := Agr.of (wX12_errs 1 (mu Mm 212 (32 + k) (nI z))) g2
    refine ⟨Mc2, Mm2, fun J => ?_, fun J => ?_, g3, rA.trans (RF_of (hm.mono (by decide)) g4) (Nat.le_refl _)⟩
    · unfold fX8_takeSign
      rw [s59, if_neg c, if_pos rfl, g1, Option.bind_some, if_pos (Or.inl rfl), Option.bind_some, if_pos rfl]
    · rw [Option.bind_some, m59, if_neg c, if_pos rfl, g2]; rfl
end LAWLN
