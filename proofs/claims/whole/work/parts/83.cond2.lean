/-! ===== text: what waits comes out ===== -/
def PJ (op j : Nat) (L : Nat) (b : Nat → Nat) (τ p e z : Nat) (Mc Mm : Mem) : Prop := TpR L b Mc Mm ∧ p ≤ e ∧ e ≤ L ∧ (1 ≤ τ → p < e) ∧ (τ = 0 → p = L) ∧ HandC τ p e Mc ∧ HandM τ p e Mm ∧ Mc 181 1 = nI z ∧ Mm 198 27 = nI (z + j) ∧ (∀ i, i < z → cdR (Mc 186 i) (Mm 213 (800 + i)) (Mm 214 (800 + i))) ∧ ∀ i, i < j → dop Mm (z + i) = nI op
section COND2
variable {L : Nat} {b : Nat → Nat}
theorem PJ_0 {op τ p e z : Nat} {Mc Mm : Mem} (h : PJ op 0 L b τ p e z Mc Mm) : PS L b τ p e z Mc Mm := by
  obtain ⟨h1, h2, h3, h4, h5, h6, h7, h8, h9, h10, h11⟩ := h
  exact ⟨h1, h2, h3, h4, h5, h6, h7, h8, h9, h10⟩
theorem pj_put {op j τ p e z : Nat} {Mc Mm : Mem} (h : PJ op (j + 1) L b τ p e z Mc Mm) (hz : z < 400) (h1 : 2 ≤ op) (h2 : op ≤ 11) : ∃ Mc', fX1_put (nI (20000 + opc op)) Mc = some Mc' ∧ PJ op j L b τ p e (z + 1) Mc' Mm := by
  obtain ⟨a1, a2, a3, a4, a5, a6, a7, a8, a9, a10, a11⟩ := h
  have e1 : fX1_put (nI (20000 + opc op)) Mc = some (mu (mu Mc 186 z (nI (20000 + opc op))) 181 1 (nI (z + 1))) := by
    unfold fX1_put
    rw [a8, if_neg (show ¬ (400 : Int32) ≤ nI z from nI_ge (show z < 400 from hz) (by decide)), wr_nI hz, Option.bind_some, bnd_eq, mu_o (by omega), a8, nI_1]
  refine ⟨_, e1, ?_, a2, a3, a4, a5, ?_, a7, mu_s, by rw [a9]; congr 1; omega, fun i hi => ?_, fun i hi => ?_⟩
  · exact TpR_c a1 (by rw [mu_o (by omega), mu_o (by omega)]) (by rw [mu_c (by omega), mu_c (by omega)])
  · exact HandC_congr a6 (by rw [mu_o (by omega), mu_o (by omega)]) (by rw [mu_o (by omega), mu_o (by omega)]) (by rw [mu_o (by omega), mu_o (by omega)]) (by rw [mu_o (by omega), mu_o (by omega)]) (by rw [mu_c (by omega), mu_c (by omega)])
  · by_cases q : i = z
    · subst q
      rw [mu_o (by omega), mu_s]
      exact Or.inr (Or.inr ⟨op, h1, h2, a11 0 (by omega), rfl⟩)
    · rw [mu_o (by omega), mu_i q]; exact a10 i (by omega)
  · have := a11 (i + 1) (by omega)
    rw [show z + (i + 1) = z + 1 + i by omega] at this
    exact this
theorem pj_next {op j τ p e z : Nat} {Mc Mm : Mem} (h : PJ op j L b τ p e z Mc Mm) : ∃ τ' p' e' Mc' Mm', e ≤ p' ∧ fX8_advance Mc = some Mc' ∧ fX12_reads Mm = some Mm' ∧ PJ op j L b τ' p' e' z Mc' Mm' ∧ Agr [(198, some 14), (198, some 15), (198, some 16), (198, some 17)] Mm Mm' := by
  obtain ⟨h1, h2, h3, h4, h5, h6, h7, h8, h9, h10, h11⟩ := h
  obtain ⟨τ', p', e', Mc', Mm', a1, a2, a3, a4, a5, a6, a7, a8, a9⟩ := tok_step h1 h3 h6.2.1 h7.2.1
  have hc : Agr [(178, some 4), (178, some 5), (178, some 6), (178, some 7)] Mc Mc' := Agr.ofU (wX8_advance Mc) a6
  have hm : Agr [(198, some 14), (198, some 15), (198, some 16), (198, some 17)] Mm Mm' := Agr.ofU (wX12_reads Mm) a7
  refine ⟨τ', p', e', Mc', Mm', a1, a6, a7, ⟨?_, a2, a3, a4, a5, a8, a9, ?_, ?_, fun j hj => ?_, fun i hi => ?_⟩, hm⟩
  · exact TpR_m (TpR_c h1 (hc 178 1 (by decide) (by decide)) (funext fun i => hc 179 i (by simp) (by simp))) (hm 198 13 (by decide) (by decide)) (funext fun i => hm 206 i (by simp) (by simp)) (funext fun i => hm 207 i (by simp) (by simp))
  · rw [hc 181 1 (by decide) (by decide)]; exact h8
  · rw [hm 198 27 (by decide) (by decide)]; exact h9
  · rw [hc 186 j (by simp) (by simp), hm 213 _ (by simp) (by simp), hm 214 _ (by simp) (by simp)]; exact h10 j hj
  · exact (hm 213 _ (by simp) (by simp)).trans (h11 i hi)
theorem ps_settle {op k τ p e z oo : Nat} {Q : List Nat} {Mc Mm : Mem} (hop : op = 9 ∨ op = 10 ∨ op = 11) (h : PS L b τ p e z Mc Mm) (hQ : PN (List.replicate k op ++ Q) Mm) (hd : ∀ q r, Q = q :: r → q ≠ op ∧ q < 100) (hl : k + Q.length < 40) (hz : z + k ≤ 400) (ho : Mm 198 28 = nI oo) (hk : op = 9 → k ≤ oo) : ∃ Mm', fX12_settles (nI op) Mm = some Mm' ∧ PJ op k L b τ p e z Mc Mm' ∧ PN Q Mm' ∧ Mm' 198 28 = nI (if op = 9 then oo - k else oo) ∧ Df z Mm Mm' := by
  obtain ⟨h1, h2, h3, h4, h5, h6, h7, h8, h9, h10⟩ := h
  obtain ⟨Mm', a1, a2, a3, a4, a5, a6, a7⟩ := settle_L hop k FU z oo Q Mm (FU_gt (by omega)) hQ hd hl h9 hz ho hk
  refine ⟨Mm', a1, ⟨?_, h2, h3, h4, h5, h6, ?_, h8, a3, fun i hi => ?_, a5⟩, a2, a4, a6⟩
  · exact TpR_m h1 (a7 198 13 (by omega) (by omega) (by omega)) (funext fun i => a7 206 i (by omega) (by omega) (by omega)) (funext fun i => a7 207 i (by omega) (by omega) (by omega))
  · exact HandM_congr h7 (a7 198 14 (by omega) (by omega) (by omega)) (a7 198 15 (by omega) (by omega) (by omega)) (a7 198 16 (by omega) (by omega) (by omega)) (a7 198 17 (by omega) (by omega) (by omega))
  · rw [(a6 (800 + i) (by omega)).1, (a6 (800 + i) (by omega)).2]; exact h10 i hi
/-- a change of the reference's other fields -/
theorem PS_m {τ p e z : Nat} {Mc Mm Mm' : Mem} (h : PS L b τ p e z Mc Mm) (hm : ∀ a i, a ≠ 215 → ¬ (a = 198 ∧ (i = 28 ∨ i = 30)) → Mm' a i = Mm a i) : PS L b τ p e z Mc Mm' := by
  obtain ⟨h1, h2, h3, h4, h5, h6, h7, h8, h9, h10⟩ := h
  refine ⟨?_, h2, h3, h4, h5, h6, ?_, h8, ?_, fun j hj => ?_⟩
  · exact TpR_m h1 (hm 198 13 (by omega) (by omega)) (funext fun i => hm 206 i (by omega) (by omega)) (funext fun i => hm 207 i (by omega) (by omega))
  · exact HandM_congr h7 (hm 198 14 (by omega) (by omega)) (hm 198 15 (by omega) (by omega)) (hm 198 16 (by omega) (by omega)) (hm 198 17 (by omega) (by omega))
  · rw [hm 198 27 (by omega) (by omega)]; exact h9
  · rw [hm 213 _ (by omega) (by omega), hm 214 _ (by omega) (by omega)]; exact h10 j hj
def refT (n : Nat) (y1 : Int32) (M3 : Mem) : Option (Int32 × Mem) :=
  if y1 = 0 then
    (some (0, M3))
    else
    (if (fX12_isSign 41 M3) = 0 then
    ((fX12_errs 1 M3).bind fun r9 =>
    some (r9.1, r9.2))
    else
    (bnd (mu M3 198 30 ((M3 198 30) - 1)) fun M4 =>
    bnd (y1 - 1 : Int32) fun x5 =>
    bnd (mu M4 198 28 ((M4 198 28) - 1)) fun M6 =>
    (fX12_settles 9 M6).bind fun M7 =>
    (fX12_reads M7).bind fun M8 =>
    fX12_readAny_L9 n x5 0 M8))
theorem any_due {τ p e : Nat} {Mm : Mem} (h : HandM τ p e Mm) (n : Nat) (y1 : Int32) : fX12_readAny_L9 (n + 1) y1 1 Mm = if τ = 16 then (if Mm 198 28 = 8 then (fX12_errs 3 Mm).bind fun r27 => some (r27.1, r27.2) else (fX12_waits 9 (mu Mm 198 28 (Mm 198 28 + 1))).bind fun M24 => (fX12_reads M24).bind fun M25 => fX12_readAny_L9 n y1 1 M25) else if τ = 140 then (if Mm 198 28 = 8 then (fX12_errs 3 Mm).bind fun r27 => some (r27.1, r27.2) else (fX12_waits 12 (mu Mm 198 28 (Mm 198 28 + 1))).bind fun M24 => (fX12_reads M24).bind fun M25 => fX12_readAny_L9 n (y1 + 1) 1 M25) else (fX12_readCompared Mm).bind fun r28 => if r28.1 = -1 then some (-1, r28.2) else (fX12_settles 9 r28.2).bind fun M29 => fX12_readAny_L9 n y1 0 M29 := by
  have w6 : fX12_isWord 6 Mm = if τ = 16 then 1 else 0 := hm_word (w := 6) h (by omega)
  have s40 : fX12_isSign 40 Mm = if τ = 140 then 1 else 0 := hm_sign (c := 40) h (by decide)
  rw [fX12_readAny_L9, if_neg one_ne, bnd_eq, w6, s40, jn_eq]
  by_cases c1 : τ = 16
  · rw [if_pos c1, if_pos c1, if_neg one_ne]
    by_cases c : Mm 198 28 = 8
    · rw [if_pos c, if_pos c]
    · rw [if_neg c, if_neg c, bnd_eq, jn_eq, if_neg one_ne]
      dsimp only
      rw [jn_eq, if_neg one_ne]
  · rw [if_neg c1, if_neg c1, if_pos rfl]
    by_cases c2 : τ = 140
    · rw [if_pos c2, if_pos c2, if_neg one_ne]
      by_cases c : Mm 198 28 = 8
      · rw [if_pos c, if_pos c]
      · rw [if_neg c, if_neg c, bnd_eq, jn_eq, if_pos rfl, bnd_eq]
        dsimp only
        rw [jn_eq, if_pos rfl]
    · rw [if_neg c2, if_neg c2, if_pos rfl]
theorem any_not {τ p e : Nat} {Mm : Mem} (h : HandM τ p e Mm) (n : Nat) (y1 : Int32) : fX12_readAny_L9 (n + 1) y1 0 Mm = if τ = 15 then (fX12_settles 10 Mm).bind fun M14 => (fX12_waits 10 M14).bind fun M15 => (fX12_reads M15).bind fun M16 => fX12_readAny_L9 n y1 1 M16 else if τ = 14 then (fX12_settles 10 Mm).bind fun M10 => (fX12_settles 11 M10).bind fun M11 => (fX12_waits 11 M11).bind fun M12 => (fX12_reads M12).bind fun M13 => fX12_readAny_L9 n y1 1 M13 else (fX12_settles 10 Mm).bind fun M2 => (fX12_settles 11 M2).bind fun M3 => refT n y1 M3 := by
  have w5 : fX12_isWord 5 Mm = if τ = 15 then 1 else 0 := hm_word (w := 5) h (by omega)
  have w4 : fX12_isWord 4 Mm = if τ = 14 then 1 else 0 := hm_word (w := 4) h (by omega)
  rw [fX12_readAny_L9, if_pos rfl, w5, w4]
  by_cases c1 : τ = 15
  · rw [if_pos c1, if_pos c1, if_neg one_ne]
  · rw [if_neg c1, if_neg c1, if_pos rfl]
    by_cases c2 : τ = 14
    · rw [if_pos c2, if_pos c2, if_neg one_ne]
    · rw [if_neg c2, if_neg c2, if_pos rfl]
      rfl
theorem pass_word {τ p e z i : Nat} {Mc Mm : Mem} (h : PS L b τ p e z Mc Mm) (hi : i < 22) : (τ ≠ 10 + wmap i ∧ fX8_passWord i Mc = some (0, Mc)) ∨ (τ = 10 + wmap i ∧ ∃ Mc', fX8_passWord i Mc = some (1, Mc') ∧ fX8_advance Mc = some Mc') := by
  have hw := h.2.2.2.2.2.1.2.2.1 i hi
  unfold fX8_passWord
  rw [hw, Option.bind_some]
  by_cases c : τ = 10 + wmap i
  · right
    obtain ⟨τ', p', e', Mc2, Mm2, n1, n2, n3, n4, n5, n6⟩ := ps_next h
    exact ⟨c, Mc2, by rw [if_pos c, if_neg one_ne, n2, Option.bind_some, if_pos (Or.inr rfl)], n2⟩
  · left
    exact ⟨c, by rw [if_neg c, if_pos rfl, if_pos (Or.inl rfl)]⟩
end COND2
