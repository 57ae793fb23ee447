/-! ===== HEARS, of ===== -/
theorem bN_tb (f : Nat → Bool) : ∀ (n i : Nat), (bN f n).testBit i = (decide (i < n) && f i)
  | 0, i => by simp [bN]
  | n + 1, i => by
    have ih := bN_tb f n
    have hlt := bN_lt f n
    unfold bN
    cases hf : f n with
    | false =>
      simp only [Bool.false_eq_true, if_false]
      rw [ih i]
      by_cases h : i < n
      · simp [h, Nat.lt_succ_of_lt h]
      · by_cases h2 : i = n
        · subst h2; simp [hf]
        · have : ¬ i < n + 1 := by omega
          simp [h, this]
    | true =>
      simp only [if_true]
      have e : bN f n + 2 ^ n = bN f n ||| 2 ^ n := by
        have := Nat.two_pow_add_eq_or_of_lt hlt 1
        rw [Nat.mul_one] at this
        rw [Nat.or_comm, ← this, Nat.add_comm]
      rw [e, fb_bit_set, ih i]
      by_cases h : i < n
      · have h2 : i ≠ n := by omega
        simp [h, Nat.lt_succ_of_lt h, h2]
      · by_cases h2 : i = n
        · subst h2; simp [hf]
        · have : ¬ i < n + 1 := by omega
          simp [h, h2, this]
theorem bN_set (f : Nat → Bool) {n b : Nat} (hn : n ≤ 31) (hb : b < n) : nI (bN f n) ||| jshl 1 (nI b) = nI (bN (fun i => f i || decide (i = b)) n) := by
  rw [shl1_nI b (by omega), fa_or]
  congr 1
  refine Nat.eq_of_testBit_eq fun i => ?_
  rw [fb_bit_set, bN_tb, bN_tb]
  by_cases h : i < n
  · simp [h]
  · have : i ≠ b := by omega
    simp [h, this]
theorem bN_cut (f : Nat → Bool) {m n : Nat} (h : m ≤ n) (hf : ∀ i, m ≤ i → i < n → f i = false) : bN f n = bN f m := by
  refine Nat.eq_of_testBit_eq fun i => ?_
  rw [bN_tb, bN_tb]
  by_cases h1 : i < m
  · simp [h1, Nat.lt_of_lt_of_le h1 h]
  · by_cases h2 : i < n
    · simp [h1, h2, hf i (by omega) h2]
    · simp [h1, h2]
theorem s_l31 : ∀ n, n < 32 → ((nI n &&& 31).toBitVec.smod 32).toNat = n := by decide +kernel
theorem jshr_nI {x p : Nat} (hx : x < 2 ^ 31) (hp : p < 32) : jshr (nI x) (nI p) = nI (x / 2 ^ p) := pk_shrN hx _ p (s_l31 p hp)
theorem bit_nI {x p : Nat} (hx : x < 2 ^ 31) (hp : p < 32) : (jshr (nI x) (nI p) &&& 1 = 1) ↔ x.testBit p = true := by
  have h1 : x / 2 ^ p ≤ x := Nat.div_le_self _ _
  have l1 : (1 : Int32) = nI 1 := rfl
  rw [jshr_nI hx hp, l1, fa_and, nI_eq (Nat.lt_of_le_of_lt Nat.and_le_right (by decide)) (by decide), Nat.testBit_eq_decide_div_mod_eq, Nat.and_one_is_mod]
  simp
/-- who hears b by the first n lines -/
def hrs (wh mu_ : Nat → Int32) (b n p : Nat) : Bool := decide (∃ i, i < n ∧ wh i = nI b ∧ mu_ i = nI p)
theorem hrs_succ (wh mu_ : Nat → Int32) (b n p : Nat) : hrs wh mu_ b (n + 1) p = (hrs wh mu_ b n p || decide (wh n = nI b ∧ mu_ n = nI p)) := by
  unfold hrs
  rw [← Bool.decide_or]
  congr 1
  apply propext
  constructor
  · rintro ⟨i, hi, h⟩
    by_cases e : i = n
    · subst e; exact Or.inr h
    · exact Or.inl ⟨i, by omega, h⟩
  · rintro (⟨i, hi, h⟩ | h)
    · exact ⟨i, by omega, h⟩
    · exact ⟨n, by omega, h⟩
theorem hmask_eq {wh mu_ : Nat → Int32} {b : Nat} : ∀ n, (∀ i, i < n → ∃ p, p < 12 ∧ mu_ i = nI p) → hmask wh mu_ b n = nI (bN (hrs wh mu_ b n) 12)
  | 0, _ => by
    have : bN (hrs wh mu_ b 0) 12 = 0 := by
      rw [bN_cut (m := 0) _ (by omega) (fun i _ _ => by simp [hrs])]; rfl
    rw [this]; rfl
  | n + 1, h => by
    have ih := hmask_eq (wh := wh) (b := b) n (fun i hi => h i (by omega))
    obtain ⟨p, hp, e⟩ := h n (by omega)
    unfold hmask
    rw [ih]
    by_cases c : wh n = nI b
    · rw [if_pos c, e, bN_set _ (by omega) hp]
      congr 1
      refine bN_congr fun i hi => ?_
      rw [hrs_succ]
      congr 1
      apply decide_eq_decide.mpr
      rw [e, nI_eq (by omega) (by omega)]
      exact ⟨fun q => ⟨c, q.symm⟩, fun q => q.2.symm⟩
    · rw [if_neg c]
      congr 1
      refine bN_congr fun i hi => ?_
      rw [hrs_succ]
      simp [c]
theorem hmask_lt {wh mu_ : Nat → Int32} {b n : Nat} (h : ∀ i, i < n → ∃ p, p < 12 ∧ mu_ i = nI p) : ∃ x, x < 65536 ∧ hmask wh mu_ b n = nI x := ⟨_, Nat.lt_of_lt_of_le (bN_lt _ _) (by decide), hmask_eq n h⟩
theorem hearers_L {M : Mem} {n : Nat} {z : Nat} (hn : M 35 0 = nI n) (hn16 : n ≤ 16) : ∀ (f i : Nat), i ≤ n → n - i < f → fX0_hearersOf_L4 (nI z) M f (hmask (M 38) (M 39) z i) (nI i) = some (hmask (M 38) (M 39) z n)
  | 0, i, hi, hf => by omega
  | f + 1, i, hi, hf => by
    rw [fX0_hearersOf_L4, hn]
    by_cases c1 : n ≤ i
    · rw [if_pos (nI_le c1 (by omega)), show i = n by omega]
    · rw [if_neg (nI_ge (show i < n by omega) (by omega)), rd_nI (by omega), Option.bind_some]
      dsimp only [jn, bnd]
      have ih := hearers_L (z := z) hn hn16 f (i + 1) (by omega) (by omega)
      rw [hmask] at ih
      by_cases c2 : M 38 i = nI z
      · rw [if_pos c2, rd_nI (by omega), Option.bind_some, nI_1]
        rw [if_pos c2] at ih
        exact ih
      · rw [if_neg c2, nI_1]
        rw [if_neg c2] at ih
        exact ih
theorem hearers_eq {M : Mem} {n : Nat} (z : Nat) (hn : M 35 0 = nI n) (hn16 : n ≤ 16) : fX0_hearersOf (nI z) M = some (hmask (M 38) (M 39) z n) := hearers_L (z := z) hn hn16 FU 0 (by omega) (FU_gt (by omega))
theorem heard_L {M : Mem} {n z : Nat} (hn : M 35 0 = nI n) (hn16 : n ≤ 16) (h : ∀ i, i < n → ∃ b, b < 14 ∧ M 38 i = nI b) : ∀ (f i : Nat), i ≤ n → n - i < f → fX0_heardBy_L4 (nI z) M f (nI (bN (fun b => hrs (M 38) (M 39) b i z) 14)) (nI i) = some (nI (bN (fun b => hrs (M 38) (M 39) b n z) 14))
  | 0, i, hi, hf => by omega
  | f + 1, i, hi, hf => by
    rw [fX0_heardBy_L4, hn]
    by_cases c1 : n ≤ i
    · rw [if_pos (nI_le c1 (by omega)), show i = n by omega]
    · rw [if_neg (nI_ge (show i < n by omega) (by omega)), rd_nI (by omega), Option.bind_some]
      dsimp only [jn, bnd]
      have ih := heard_L (z := z) hn hn16 h f (i + 1) (by omega) (by omega)
      obtain ⟨b, hb, e⟩ := h i (by omega)
      by_cases c2 : M 39 i = nI z
      · rw [if_pos c2, rd_nI (by omega), Option.bind_some, nI_1, e, bN_set _ (by omega) hb]
        rw [← ih]
        congr 2
        refine bN_congr fun j hj => ?_
        rw [hrs_succ]
        congr 1
        apply decide_eq_decide.mpr
        rw [e, nI_eq (by omega) (by omega)]
        exact ⟨fun q => ⟨q.symm, c2⟩, fun q => q.1.symm⟩
      · rw [if_neg c2, nI_1, ← ih]
        congr 2
        refine bN_congr fun j hj => ?_
        rw [hrs_succ]
        simp [c2]
theorem heard_eq {M : Mem} {n : Nat} (z : Nat) (hn : M 35 0 = nI n) (hn16 : n ≤ 16) (h : ∀ i, i < n → ∃ b, b < 14 ∧ M 38 i = nI b) : fX0_heardBy (nI z) M = some (nI (bN (fun b => hrs (M 38) (M 39) b n z) 14)) := by
  have := heard_L (z := z) hn hn16 h FU 0 (by omega) (FU_gt (by omega))
  have e : bN (fun b => hrs (M 38) (M 39) b 0 z) 14 = 0 := by
    rw [bN_cut (m := 0) _ (by omega) (fun i _ _ => by simp [hrs])]; rfl
  rw [e] at this
  exact this
theorem ofM_L {M : Mem} {B z : Nat} {g : Nat → Nat} (hB : M 198 7 = nI B) (hB14 : B ≤ 14) (hz : z < 12) (hg : ∀ b, b < B → M 218 b = nI (g b) ∧ g b < 65536) : ∀ (f i : Nat), i ≤ B → B - i < f → fX12_of_L62 (nI z) M f (nI (bN (fun b => (g b).testBit z) i)) (nI i) = some (nI (bN (fun b => (g b).testBit z) B), M)
  | 0, i, hi, hf => by omega
  | f + 1, i, hi, hf => by
    rw [fX12_of_L62, hB]
    by_cases c1 : B ≤ i
    · rw [if_pos (nI_le c1 (by omega)), show i = B by omega]
    · rw [if_neg (nI_ge (show i < B by omega) (by omega)), rd_nI (by omega), Option.bind_some, (hg i (by omega)).1]
      dsimp only [jn, bnd]
      have ih := ofM_L hB hB14 hz hg f (i + 1) (by omega) (by omega)
      rw [bN] at ih
      have hb := bit_nI (x := g i) (p := z) (by have := (hg i (by omega)).2; omega) (by omega)
      unfold fX12_has
      by_cases c2 : (g i).testBit z = true
      · rw [if_pos (hb.mpr c2), if_neg one_ne, nI_1, bN_or _ (by omega)]
        simpa [c2] using ih
      · rw [if_neg (fun q => c2 (hb.mp q)), if_pos rfl, nI_1]
        simpa [c2] using ih
theorem s_of (p q : Int32) : SmP (fX11_of p q) (fX12_of p q) := SmP.told fun Mc Mm h => by
  obtain ⟨⟨P, B, n, hBd, hTv, hFx, hBk, hLaw, hTw, hEv, hHe, hTo⟩, -⟩ := h
  obtain ⟨hP12, hB14, hP, hB, hbs⟩ := id hBd
  have hPc : Mc 2 4 = Mm 198 6 := hFx.1
  have hBc : Mc 2 5 = nI B := hFx.2.1.trans hB
  have hB' : mu Mm 198 0 0 198 7 = nI B := by rw [mu_i (by omega)]; exact hB
  have told6 : ∀ x, fX12_isPerson x (mu Mm 198 0 0) = fX12_isPerson x Mm := fun x => by unfold fX12_isPerson; rw [mu_i (by omega)]
  by_cases c1 : fX12_isPerson p Mm = 0
  · exact ⟨-1, by unfold fX11_of; rw [hasP_eq hPc, if_pos c1], by unfold fX12_of; dsimp only [bnd]; rw [told6, if_pos c1]⟩
  obtain ⟨i, hi, rfl⟩ := isP_yes hP (by omega) c1
  by_cases c2 : 0 ≤ q ∧ q ≤ nI 4
  · obtain ⟨j, hj, rfl⟩ := in_of (n := 4) (by decide) c2
    unfold fX11_of
    rw [hasP_eq hPc, if_neg c1, swt_nI (by simp; omega) (by simp)]
    obtain ⟨v1, v2, v3⟩ := hTv.2.1 i (by omega)
    have hlow : j ≤ 2 → fX12_of (nI i) (nI j) Mm = some (Mm 199 (5 + 12 * j + i), mu Mm 198 0 0) := fun hj2 => by
      have c3 : 0 ≤ nI j ∧ nI j ≤ 2 := ⟨nI_pos' (by omega), nI_le hj2 (by decide)⟩
      unfold fX12_of; dsimp only [bnd]
      rw [told6, if_neg c1, isIn_yes c3, if_neg one_ne, lmul 12 j, ladd 5 (12 * j), nI_add, rd_nI (by omega), mu_o (by omega)]; rfl
    rcases (show j = 0 ∨ j = 1 ∨ j = 2 ∨ j = 3 ∨ j = 4 by omega) with rfl | rfl | rfl | rfl | rfl
    · refine ⟨Mc 3 i, ?_, ?_⟩
      · show (rd Mc 3 12 (nI i)).bind _ = _
        rw [rd_nI (by omega)]; rfl
      · rw [hlow (by omega), show Mc 3 i = Mm 199 (5 + i) from v1]
    · refine ⟨Mc 4 i, ?_, ?_⟩
      · show (rd Mc 4 12 (nI i)).bind _ = _
        rw [rd_nI (by omega)]; rfl
      · rw [hlow (by omega), show Mc 4 i = Mm 199 (17 + i) from v2]
    · refine ⟨Mc 5 i, ?_, ?_⟩
      · show (rd Mc 5 12 (nI i)).bind _ = _
        rw [rd_nI (by omega)]; rfl
      · rw [hlow (by omega), show Mc 5 i = Mm 199 (29 + i) from v3]
    · refine ⟨nI (bN (fun b => decide (Mc 6 b = nI i ∨ Mc 7 b = nI i)) B), ?_, ?_⟩
      · show (fX9_bargainsOf (nI i) Mc).bind _ = _
        rw [barC_eq _ hBc hB14]; rfl
      · unfold fX12_of; dsimp only [bnd]
        rw [told6, if_neg c1, isIn_no (by decide), if_pos rfl, if_pos (show nI 3 = 3 from rfl), barM_eq _ hB' hB14]
        have : bN (fun b => decide (mu Mm 198 0 0 202 b = nI i ∨ mu Mm 198 0 0 203 b = nI i)) B = bN (fun b => decide (Mc 6 b = nI i ∨ Mc 7 b = nI i)) B := bN_congr fun b hb => by
          have := hFx.2.2 b (by omega)
          rw [mu_o (by omega), mu_o (by omega), ← this.1, ← this.2.1]
        rw [this]; rfl
    · obtain ⟨m, hm16, k1, k2, k3, k4⟩ := hHe
      have k1 : Mc 35 0 = nI m := k1
      have k3 : ∀ i, i < m → ∃ b p, b < B ∧ p < P ∧ Mc 38 i = nI b ∧ Mc 39 i = nI p := k3
      have k4 : ∀ b, b < 14 → Mm 218 b = hmask (Mc 38) (Mc 39) b m := k4
      have e1 := heard_eq i k1 hm16 (fun i hi => by obtain ⟨b, p, a1, a2, a3, a4⟩ := k3 i hi; exact ⟨b, by omega, a3⟩)
      have hmu : ∀ i, i < m → ∃ p, p < 12 ∧ Mc 39 i = nI p := fun i hi => by obtain ⟨b, p, a1, a2, a3, a4⟩ := k3 i hi; exact ⟨p, by omega, a4⟩
      have e2 := ofM_L (M := mu Mm 198 0 0) (z := i) (g := fun b => bN (hrs (Mc 38) (Mc 39) b m) 12) hB' hB14 (by omega) (fun b hb => ⟨by rw [mu_o (by omega), k4 b (by omega), hmask_eq m hmu], Nat.lt_of_lt_of_le (bN_lt _ _) (by decide)⟩) FU 0 (by omega) (FU_gt (by omega))
      refine ⟨_, by show (fX0_heardBy (nI i) Mc).bind _ = _; rw [e1]; rfl, ?_⟩
      unfold fX12_of; dsimp only [bnd]
      rw [told6, if_neg c1, isIn_no (by decide), if_pos rfl, if_neg (by decide), if_pos (show nI 4 = 4 from rfl)]
      refine Eq.trans e2 ?_
      congr 3
      have : bN (fun b => hrs (Mc 38) (Mc 39) b m i) 14 = bN (fun b => hrs (Mc 38) (Mc 39) b m i) B := bN_cut _ hB14 fun b h1 h2 => by
        unfold hrs
        refine decide_eq_false ?_
        rintro ⟨x, hx, y1, y2⟩
        obtain ⟨b', p', a1, a2, a3, a4⟩ := k3 x hx
        rw [a3, nI_eq (by omega) (by omega)] at y1
        omega
      rw [this]
      refine bN_congr fun b hb => ?_
      rw [bN_tb]
      have : i < 12 := by omega
      simp [this]
  · have ne : ∀ j, j ≤ 4 → ¬ q = nI j := fun j hj e => c2 (by subst e; exact ⟨nI_pos' (by omega), nI_le hj (by decide)⟩)
    refine ⟨-1, by unfold fX11_of; rw [hasP_eq hPc, if_neg c1, swt_no (n := 4) rfl (by decide) c2], ?_⟩
    unfold fX12_of; dsimp only [bnd]
    rw [told6, if_neg c1, isIn_no (fun h => ?_), if_pos rfl, if_neg (show ¬ q = 3 from ne 3 (by omega)), if_neg (show ¬ q = 4 from ne 4 (by omega))]
    obtain ⟨j, hj, rfl⟩ := in_of (n := 2) (by decide) h
    exact ne j (by omega) rfl
