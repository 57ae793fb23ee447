/-! ===== look, book, deals ===== -/
/-- a call of the class that changes nothing -/
def SmP (f1 : Mem → Option Int32) (F2 : Mem → Option (Int32 × Mem)) : Prop := ∀ Mc Mm, AR Mc Mm → ∃ r Mm', f1 Mc = some r ∧ F2 Mm = some (r, Mm') ∧ AR Mc Mm'
theorem SmP.step {f1 : Mem → Option Int32} {F2 : Mem → Option (Int32 × Mem)} {S2 : List (Nat × Option Nat)} (h : SmP f1 F2) (w2 : ∀ M, Fr S2 rmW M (F2 M)) (d2 : dj S2 fcAll = true) {M : Mem} (hA : AR M M) : ∃ r M2, f1 M = some r ∧ F2 M = some (r, M2) ∧ AR M2 M2 := by
  obtain ⟨r, Mm2, e2, e3, hA2⟩ := h M M hA
  exact ⟨r, Mm2, e2, e3, AR_c (Agr.of (w2 M) e3) d2 hA2⟩
theorem SmP.told {f1 : Mem → Option Int32} {F2 : Mem → Option (Int32 × Mem)} (h : ∀ Mc Mm, AR Mc Mm → ∃ r, f1 Mc = some r ∧ F2 Mm = some (r, mu Mm 198 0 0)) : SmP f1 F2 := fun Mc Mm hA => by
  obtain ⟨r, e1, e2⟩ := h Mc Mm hA
  exact ⟨r, _, e1, e2, AR_told hA⟩
theorem swt_nI {α : Type} {es : List α} {dv : α} {j : Nat} (hj : j < es.length) (hl : es.length < 1000) : swt (nI j) 0 es dv = es.getD j dv := by
  refine swt_in es 0 j ?_ hj ?_
  · rw [nI_toInt (by omega)]; simp
  · simp; omega
theorem swt_no {α : Type} {es : List α} {dv : α} {p : Int32} {n : Nat} (hn : es.length = n + 1) (hl : n < 1000) (h : ¬ (0 ≤ p ∧ p ≤ nI n)) : swt p 0 es dv = dv := by
  refine swt_out es 0 ?_ ?_
  · have e0 : (0 : Int32).toInt = 0 := by decide
    rw [fa_le, fa_le, nI_toInt (by omega), e0] at h
    rw [e0, hn]; omega
  · have e0 : (0 : Int32).toInt = 0 := by decide
    rw [e0, hn]; omega
theorem s_look (p : Int32) : SmP (fX11_look p) (fX12_look p) := SmP.told fun Mc Mm h => by
  obtain ⟨⟨P, B, n, hBd, hTv, hFx, hBk, hLaw, hTw, hEv, hHe, hTo⟩, ⟨N, hN, hN2, hPa⟩, hTa, hFa, hIm, hCs⟩ := h
  obtain ⟨hP12, hB14, hP, hB, hbs⟩ := id hBd
  have hBc : Mc 2 5 = nI B := hFx.2.1.trans hB
  have hB' : mu Mm 198 0 0 198 7 = nI B := by rw [mu_i (by omega)]; exact hB
  have his : ∀ z : Int32, nI (bN (fun b => decide (Mc (2 + 9) b = z)) B) = nI (bN (fun b => decide (mu Mm 198 0 0 199 (69 + b) = z)) B) := fun z => by
    congr 1
    refine bN_congr fun b hb => ?_
    rw [mu_o (by omega), ← (hTv.2.2.1 b (by omega)).2.2]
  by_cases c : 0 ≤ p ∧ p ≤ nI 13
  · obtain ⟨j, hj, rfl⟩ := in_of (n := 13) (by decide) c
    unfold fX11_look
    rw [swt_nI (by simp; omega) (by simp)]
    rcases (show j = 0 ∨ j = 1 ∨ j = 2 ∨ j = 3 ∨ j = 4 ∨ j = 5 ∨ j = 6 ∨ j = 7 ∨ j = 8 ∨ j = 9 ∨ j = 10 ∨ j = 11 ∨ j = 12 ∨ j = 13 by omega) with rfl | rfl | rfl | rfl | rfl | rfl | rfl | rfl | rfl | rfl | rfl | rfl | rfl | rfl
    · exact ⟨_, rfl, by unfold fX12_look; dsimp only [bnd, jn]; rw [if_pos (by decide), mu_i (by omega), ← hFx.1]; try rfl⟩
    · exact ⟨_, rfl, by unfold fX12_look; dsimp only [bnd, jn]; rw [if_neg (by decide), if_pos (by decide), mu_i (by omega), ← hFx.2.1]; try rfl⟩
    · refine ⟨nI (bN (fun b => decide (Mc (2 + 9) b = 1)) B), ?_, ?_⟩
      · show (fX9_thoseThatAre 2 1 Mc).bind _ = _
        rw [those_eq 1 hBc hB14]; try rfl
      · unfold fX12_look; dsimp only [bnd, jn]; rw [if_neg (by decide), if_neg (by decide), if_pos (by decide), show nI 2 - 1 = 1 from by decide, setIs_eq 1 hB' hB14, his]; try rfl
    · refine ⟨nI (bN (fun b => decide (Mc (2 + 9) b = 2)) B), ?_, ?_⟩
      · show (fX9_thoseThatAre 2 2 Mc).bind _ = _
        rw [those_eq 2 hBc hB14]; try rfl
      · unfold fX12_look; dsimp only [bnd, jn]; rw [if_neg (by decide), if_neg (by decide), if_neg (by decide), if_pos (by decide), show nI 3 - 1 = 2 from by decide, setIs_eq 2 hB' hB14, his]; try rfl
    · refine ⟨_, rfl, ?_⟩
      unfold fX12_look; dsimp only [bnd, jn]; rw [if_neg (by decide), if_neg (by decide), if_neg (by decide), if_neg (by decide), if_pos (by decide), show (3 : Int32) + nI 4 - 4 = nI 3 from by decide, rd_nI (by omega), mu_o (by omega), ← hTv.1.2.1]; try rfl
    · refine ⟨_, rfl, ?_⟩
      unfold fX12_look; dsimp only [bnd, jn]; rw [if_neg (by decide), if_neg (by decide), if_neg (by decide), if_neg (by decide), if_neg (by decide), if_pos (by decide), show (3 : Int32) + nI 5 - 4 = nI 4 from by decide, rd_nI (by omega), mu_o (by omega), ← hTv.1.2.2.1]; try rfl
    · refine ⟨_, rfl, ?_⟩
      unfold fX12_look; dsimp only [bnd, jn]; rw [if_neg (by decide), if_neg (by decide), if_neg (by decide), if_neg (by decide), if_neg (by decide), if_neg (by decide), if_pos (by decide), show (0 : Int32) = nI 0 from rfl, rd_nI (by omega), mu_o (by omega), ← hTv.1.2.2.2]; try rfl
    · refine ⟨_, rfl, ?_⟩
      unfold fX12_look; dsimp only [bnd, jn]; rw [if_neg (by decide), if_neg (by decide), if_neg (by decide), if_neg (by decide), if_neg (by decide), if_neg (by decide), if_neg (by decide), if_pos (by decide), show (2 : Int32) = nI 2 from rfl, rd_nI (by omega), mu_o (by omega), ← (hBk.2.1.trans hBk.2.2.1.symm)]; try rfl
    · refine ⟨_, rfl, ?_⟩
      unfold fX12_look; dsimp only [bnd, jn]; rw [if_neg (by decide), if_neg (by decide), if_neg (by decide), if_neg (by decide), if_neg (by decide), if_neg (by decide), if_neg (by decide), if_neg (by decide), if_pos (by decide), show (1 : Int32) = nI 1 from rfl, rd_nI (by omega), mu_o (by omega), ← hTv.1.1]; try rfl
    · obtain ⟨a, b, -, -, l1, l2, -⟩ := hLaw
      refine ⟨_, rfl, ?_⟩
      unfold fX12_look; dsimp only [bnd, jn]; rw [if_neg (by decide), if_neg (by decide), if_neg (by decide), if_neg (by decide), if_neg (by decide), if_neg (by decide), if_neg (by decide), if_neg (by decide), if_neg (by decide), if_pos (by decide), show (0 : Int32) = nI 0 from rfl, rd_nI (by omega), mu_o (by omega), l2, ← l1]; try rfl
    · obtain ⟨a, -, l1, l2, -⟩ := hTw
      refine ⟨_, rfl, ?_⟩
      unfold fX12_look; dsimp only [bnd, jn]; rw [if_neg (by decide), if_neg (by decide), if_neg (by decide), if_neg (by decide), if_neg (by decide), if_neg (by decide), if_neg (by decide), if_neg (by decide), if_neg (by decide), if_neg (by decide), if_pos (by decide), mu_i (by omega), l2, ← l1]; try rfl
    · obtain ⟨a, -, l1, l2, -⟩ := hEv
      refine ⟨_, rfl, ?_⟩
      unfold fX12_look; dsimp only [bnd, jn]; rw [if_neg (by decide), if_neg (by decide), if_neg (by decide), if_neg (by decide), if_neg (by decide), if_neg (by decide), if_neg (by decide), if_neg (by decide), if_neg (by decide), if_neg (by decide), if_neg (by decide), if_pos (by decide), mu_i (by omega), l2, ← l1]; try rfl
    · obtain ⟨a, -, l1, l2, -⟩ := hHe
      refine ⟨_, rfl, ?_⟩
      unfold fX12_look; dsimp only [bnd, jn]; rw [if_neg (by decide), if_neg (by decide), if_neg (by decide), if_neg (by decide), if_neg (by decide), if_neg (by decide), if_neg (by decide), if_neg (by decide), if_neg (by decide), if_neg (by decide), if_neg (by decide), if_neg (by decide), if_pos (by decide), mu_i (by omega), l2, ← l1]; try rfl
    · obtain ⟨a, x, -, -, l1, l2, -⟩ := hPa
      refine ⟨_, rfl, ?_⟩
      unfold fX12_look; dsimp only [bnd, jn]; rw [if_neg (by decide), if_neg (by decide), if_neg (by decide), if_neg (by decide), if_neg (by decide), if_neg (by decide), if_neg (by decide), if_neg (by decide), if_neg (by decide), if_neg (by decide), if_neg (by decide), if_neg (by decide), if_neg (by decide), if_pos (by decide), mu_i (by omega), l2, ← l1]; try rfl
  · unfold fX11_look
    rw [swt_no (n := 13) rfl (by decide) c]
    refine ⟨_, rfl, ?_⟩
    have ne : ∀ j, j ≤ 13 → ¬ p = nI j := fun j hj e => c (by subst e; exact ⟨nI_pos' (by omega), nI_le hj (by decide)⟩)
    unfold fX12_look; dsimp only [bnd, jn]
    rw [if_neg (show ¬ p = 0 from ne 0 (by omega)), if_neg (show ¬ p = 1 from ne 1 (by omega)), if_neg (show ¬ p = 2 from ne 2 (by omega)), if_neg (show ¬ p = 3 from ne 3 (by omega)), if_neg (show ¬ p = 4 from ne 4 (by omega)), if_neg (show ¬ p = 5 from ne 5 (by omega)), if_neg (show ¬ p = 6 from ne 6 (by omega)), if_neg (show ¬ p = 7 from ne 7 (by omega)), if_neg (show ¬ p = 8 from ne 8 (by omega)), if_neg (show ¬ p = 9 from ne 9 (by omega)), if_neg (show ¬ p = 10 from ne 10 (by omega)), if_neg (show ¬ p = 11 from ne 11 (by omega)), if_neg (show ¬ p = 12 from ne 12 (by omega)), if_neg (show ¬ p = 13 from ne 13 (by omega))]
theorem s_deals (p q : Int32) : SmP (fX11_deals p q) (fX12_deals p q) := SmP.told fun Mc Mm h => by
  obtain ⟨⟨P, B, n, hBd, hTv, hFx, hBk, hLaw, hTw, hEv, hHe, hTo⟩, -⟩ := h
  obtain ⟨hP12, hB14, hP, hB, hbs⟩ := id hBd
  have hPc : Mc 2 4 = Mm 198 6 := hFx.1
  have hBc : Mc 2 5 = nI B := hFx.2.1.trans hB
  have hB' : mu Mm 198 0 0 198 7 = nI B := by rw [mu_i (by omega)]; exact hB
  have told6 : ∀ x, fX12_isPerson x (mu Mm 198 0 0) = fX12_isPerson x Mm := fun x => by unfold fX12_isPerson; rw [mu_i (by omega)]
  have hfs : ∀ z : Int32, nI (bN (fun b => decide (mu Mm 198 0 0 202 b = z ∨ mu Mm 198 0 0 203 b = z)) B) = nI (bN (fun b => decide (Mc 6 b = z ∨ Mc 7 b = z)) B) := fun z => by
    congr 1
    refine bN_congr fun b hb => ?_
    have := hFx.2.2 b (by omega)
    rw [mu_o (by omega), mu_o (by omega), ← this.1, ← this.2.1]
  have his : ∀ z : Int32, nI (bN (fun b => decide (mu Mm 198 0 0 199 (69 + b) = z)) B) = nI (bN (fun b => decide (Mc (2 + 9) b = z)) B) := fun z => by
    congr 1
    refine bN_congr fun b hb => ?_
    rw [mu_o (by omega), ← (hTv.2.2.1 b (by omega)).2.2]
  by_cases c1 : fX12_isPerson p Mm = 0
  · exact ⟨-1, by unfold fX11_deals; rw [areTwo_eq hPc, if_pos c1, if_pos rfl], by unfold fX12_deals; dsimp only [bnd]; rw [told6, if_pos c1]⟩
  by_cases c2 : fX12_isPerson q Mm = 0
  · exact ⟨-1, by unfold fX11_deals; rw [areTwo_eq hPc, if_neg c1, if_pos c2, if_pos rfl], by unfold fX12_deals; dsimp only [bnd]; rw [told6, told6, if_neg c1, if_pos c2]⟩
  by_cases c3 : p = q
  · exact ⟨-1, by unfold fX11_deals; rw [areTwo_eq hPc, if_neg c1, if_neg c2, if_pos c3, if_pos rfl], by unfold fX12_deals; dsimp only [bnd]; rw [told6, told6, if_neg c1, if_neg c2, if_pos c3]⟩
  refine ⟨_, by unfold fX11_deals; rw [areTwo_eq hPc, if_neg c1, if_neg c2, if_neg c3, if_neg one_ne, barC_eq p hBc hB14, barC_eq q hBc hB14, those_eq 1 hBc hB14]; try rfl, ?_⟩
  unfold fX12_deals; dsimp only [bnd]
  rw [told6, told6, if_neg c1, if_neg c2, if_neg c3, barM_eq p hB' hB14, barM_eq q hB' hB14, setIs_eq 1 hB' hB14, hfs, hfs, his]
  simp only [Option.bind_some]
  rw [fa_and, fa_and, ones_bc]
  · rfl
  · have h1 := bN_lt (fun b => decide (Mc 6 b = p ∨ Mc 7 b = p)) B
    have h2 : (2 : Nat) ^ B ≤ 2 ^ 14 := Nat.pow_le_pow_right (by omega) hB14
    exact Nat.lt_of_le_of_lt (Nat.le_trans Nat.and_le_left Nat.and_le_left) (by omega)
theorem s_book (p q : Int32) : SmP (fX11_book p q) (fX12_book p q) := SmP.told fun Mc Mm h => by
  obtain ⟨⟨P, B, n, hBd, hTv, hFx, ⟨hn, k1, k2, hbk⟩, -⟩, -⟩ := h
  have k1 : Mc 12 0 = nI n := k1
  have hr : rd (mu Mm 198 0 0) 199 83 2 = some (nI n) := by rw [show (2 : Int32) = nI 2 from rfl, rd_nI (by omega), mu_o (by omega), k2]
  by_cases c1 : ¬ (0 ≤ p ∧ p ≤ nI n - 1)
  · exact ⟨-1, by unfold fX11_book; rw [isW_isIn, k1, isIn_no c1, if_pos rfl], by unfold fX12_book; dsimp only [bnd]; rw [hr, Option.bind_some, isIn_no c1, if_pos rfl]⟩
  have c1 := Decidable.not_not.mp c1
  have hn0 : 0 < n := by
    rcases Nat.eq_zero_or_pos n with e | e
    · subst e
      exfalso
      have e0 : (0 : Int32).toInt = 0 := by decide
      have e1 : (nI 0 - 1 : Int32).toInt = -1 := by decide
      have a := c1.1; have b := c1.2
      rw [fa_le] at a b
      rw [e0] at a; rw [e1] at b; omega
    · exact e
  have c1' := c1
  rw [nI_sub1 hn0] at c1'
  obtain ⟨i, hi, rfl⟩ := in_of (n := n - 1) (by omega) c1'
  obtain ⟨b0, b1, b2, b3⟩ := hbk i (by omega)
  by_cases c2 : 0 ≤ q ∧ q ≤ nI 3
  · obtain ⟨j, hj, rfl⟩ := in_of (n := 3) (by decide) c2
    have e2 : fX12_book (nI i) (nI j) Mm = some (Mm 205 (4 * i + j), mu Mm 198 0 0) := by
      unfold fX12_book; dsimp only [bnd]
      rw [hr, Option.bind_some, isIn_yes c1, if_neg one_ne, isIn_yes (show 0 ≤ nI j ∧ nI j ≤ 3 from c2), if_neg one_ne, lmul 4 i, nI_add, rd_nI (by omega), mu_o (by omega)]; try rfl
    rw [e2]
    refine ⟨_, ?_, rfl⟩
    unfold fX11_book
    rw [isW_isIn, k1, isIn_yes c1, if_neg one_ne, swt_nI (by simp; omega) (by simp)]
    rcases (show j = 0 ∨ j = 1 ∨ j = 2 ∨ j = 3 by omega) with rfl | rfl | rfl | rfl
    · show (rd Mc 13 150 (nI i)).bind _ = _
      rw [rd_nI (by omega), show Mc 13 i = Mm 205 (4 * i) from b0]; try rfl
    · show (rd Mc 14 150 (nI i)).bind _ = _
      rw [rd_nI (by omega), show Mc 14 i = Mm 205 (4 * i + 1) from b1]; try rfl
    · show (rd Mc 15 150 (nI i)).bind _ = _
      rw [rd_nI (by omega), show Mc 15 i = Mm 205 (4 * i + 2) from b2]; try rfl
    · show (rd Mc 16 150 (nI i)).bind _ = _
      rw [rd_nI (by omega), show Mc 16 i = Mm 205 (4 * i + 3) from b3]; try rfl
  · exact ⟨-1, by unfold fX11_book; rw [isW_isIn, k1, isIn_yes c1, if_neg one_ne, swt_no (n := 3) rfl (by decide) c2], by unfold fX12_book; dsimp only [bnd]; rw [hr, Option.bind_some, isIn_yes c1, if_neg one_ne, isIn_no (show ¬ (0 ≤ q ∧ q ≤ 3) from c2), if_pos rfl]⟩
