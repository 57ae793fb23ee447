/-! ===== round ===== -/
theorem bcN_lt (x : Nat) : bcN x < 64 := by
  unfold bcN
  exact Nat.lt_succ_of_le Nat.and_le_right
def sh (u t y : Nat) : Nat := y / 2 + bcN (y &&& t) % 2 * 2 ^ u
theorem sh_lt {u t y : Nat} (h : y < 2 ^ (u + 1)) : sh u t y < 2 ^ (u + 1) := by
  unfold sh
  rw [Nat.pow_succ] at *
  have h2 : bcN (y &&& t) % 2 = 0 ∨ bcN (y &&& t) % 2 = 1 := by omega
  rcases h2 with q | q <;> rw [q] <;> omega
theorem pw_le {u : Nat} (h : u ≤ 7) : 2 ^ u ≤ 128 := by
  have := Nat.pow_le_pow_right (show 0 < 2 by omega) h
  omega
theorem roundOf_nI {u t y : Nat} (hu : u ≤ 7) (hy : y < 256) : fX12_roundOf (nI (u + 1)) (nI t) (nI y) = some (nI (sh u t y)) := by
  have hl : y &&& t ≤ y := Nat.and_le_left
  have hb := bcN_lt (y &&& t)
  have l2 : (2 : Int32) = nI 2 := rfl
  unfold fX12_roundOf
  rw [fa_and, ones_nI (by omega), Option.bind_some]
  unfold jrem
  rw [l2, pk_rem (by omega) (by decide) (by decide), pk_div (by omega) (by decide) (by decide), nI_sub1 (by omega), show u + 1 - 1 = u by omega, shl1_nI u (by omega), nI_add]
  unfold sh
  have h2 : bcN (y &&& t) % 2 = 0 ∨ bcN (y &&& t) % 2 = 1 := by omega
  rcases h2 with q | q
  · rw [q, if_neg (by decide), Nat.zero_mul, addl (y / 2) 0]
  · rw [q, if_pos (by decide), Nat.one_mul]
theorem shift_nI {u t y : Nat} (hu : u ≤ 7) (hy : y < 2 ^ (u + 1)) : (jshr (nI y) 1) ||| (jshl ((fJ6_bitCount_0f7a4 (nI y &&& nI t)) &&& 1) (nI (u + 1) - 1)) = nI (sh u t y) := by
  have hl : y &&& t ≤ y := Nat.and_le_left
  have hb := bcN_lt (y &&& t)
  have hp := pw_le hu
  have hy' := hy
  rw [Nat.pow_succ] at hy'
  rw [fa_and, bc_nI (by omega), nI_sub1 (by omega), show u + 1 - 1 = u by omega]
  have e1 : jshr (nI y) 1 = nI (y / 2) := jshr_nI (p := 1) (by omega) (by omega)
  have e2 : nI (bcN (y &&& t)) &&& 1 = nI (bcN (y &&& t) % 2) := fa_mask _ 1
  rw [e1, e2]
  unfold sh
  have h2 : bcN (y &&& t) % 2 = 0 ∨ bcN (y &&& t) % 2 = 1 := by omega
  rcases h2 with q | q
  · rw [q, nI_0, shl0_nI u (by omega), or_0, Nat.zero_mul]; rfl
  · rw [q, Nat.one_mul]
    exact or_nI (by omega) (by omega)
def itr (u t : Nat) : Nat → Nat → Nat
  | 0, y => y
  | k + 1, y => itr u t k (sh u t y)
theorem itr_lt {u t : Nat} : ∀ k y, y < 2 ^ (u + 1) → itr u t k y < 2 ^ (u + 1)
  | 0, _, h => h
  | k + 1, y, h => itr_lt k _ (sh_lt h)
theorem itr_s {u t : Nat} : ∀ k y, itr u t (k + 1) y = sh u t (itr u t k y)
  | 0, _ => rfl
  | k + 1, y => itr_s k (sh u t y)
theorem itr_add {u t : Nat} : ∀ k l y, itr u t (k + l) y = itr u t l (itr u t k y)
  | 0, l, y => by rw [Nat.zero_add]; rfl
  | k + 1, l, y => by rw [show k + 1 + l = k + l + 1 by omega]; exact itr_add k l (sh u t y)
theorem r_L77 {u t N : Nat} {M : Mem} (hu : u ≤ 7) (hN : N ≤ 1000) : ∀ k F j y, j + k = N → k < F → y < 2 ^ (u + 1) → fX12_round_L77 (nI (u + 1)) (nI t) (nI N) M F (nI y) (nI j) = some (nI (itr u t k y), M)
  | k, 0, j, y, _, h, _ => by omega
  | 0, F + 1, j, y, h1, h2, h3 => by
    rw [fX12_round_L77, if_pos (nI_le (by omega) (by omega))]; rfl
  | k + 1, F + 1, j, y, h1, h2, h3 => by
    have hp := pw_le hu
    have h4 := h3
    rw [Nat.pow_succ] at h4
    rw [fX12_round_L77, if_neg (nI_ge (by omega) (by omega)), roundOf_nI hu (by omega), Option.bind_some, nI_1, r_L77 hu hN k F (j + 1) _ (by omega) (by omega) (sh_lt h3)]; rfl
theorem r_L6 {u t N : Nat} (hu : u ≤ 7) (hN : N ≤ 1000) : ∀ k F j y, j + k = N → k < F → y < 2 ^ (u + 1) → fX5_shifted_L6 (nI (u + 1)) (nI t) (nI N) F (nI y) (nI j) = some (nI (itr u t k y))
  | k, 0, j, y, _, h, _ => by omega
  | 0, F + 1, j, y, h1, h2, h3 => by
    rw [fX5_shifted_L6, if_pos (nI_le (by omega) (by omega))]; rfl
  | k + 1, F + 1, j, y, h1, h2, h3 => by
    rw [fX5_shifted_L6, if_neg (nI_ge (by omega) (by omega))]
    dsimp only [bnd]
    rw [shift_nI hu h3, nI_1, r_L6 hu hN k F (j + 1) _ (by omega) (by omega) (sh_lt h3)]; rfl
theorem shifted_nI {u t N y : Nat} (hu : u ≤ 7) (hN : N ≤ 1000) (hy : y < 2 ^ (u + 1)) : fX5_shifted (nI (u + 1)) (nI t) (nI y) (nI N) = some (nI (itr u t N y)) := by
  have := r_L6 (t := t) hu hN N FU 0 y (by omega) (FU_gt (by omega)) hy
  rw [nI_0] at this
  exact this
/-- the first return, sought k places from m -/
def sea (u t s : Nat) : Nat → Nat → Int32
  | 0, _ => -1
  | k + 1, m => if itr u t m s = s then nI m else sea u t s k (m + 1)
theorem sea_no {u t s : Nat} : ∀ k m, (∀ i, m ≤ i → itr u t i s ≠ s) → sea u t s k m = -1
  | 0, m, h => rfl
  | k + 1, m, h => by
    rw [sea, if_neg (h m (by omega))]
    exact sea_no k (m + 1) fun i hi => h i (by omega)
theorem sea_hit {u t s b : Nat} : ∀ a m i, m ≤ i → i < m + a → itr u t i s = s → sea u t s (a + b) m = sea u t s a m
  | 0, m, i, h1, h2, h3 => by omega
  | a + 1, m, i, h1, h2, h3 => by
    rw [show a + 1 + b = a + b + 1 by omega, sea, sea]
    by_cases c : itr u t m s = s
    · rw [if_pos c, if_pos c]
    · rw [if_neg c, if_neg c]
      by_cases d : i = m
      · subst d; exact absurd h3 c
      · exact sea_hit a (m + 1) i (by omega) (by omega) h3
theorem never {u t s : Nat} (hs : s < 2 ^ (u + 1)) (h : ∀ i, 1 ≤ i → i ≤ 2 ^ (u + 1) → itr u t i s ≠ s) (m : Nat) (hm : 1 ≤ m) : itr u t m s ≠ s := by
  by_cases c : m ≤ 2 ^ (u + 1)
  · exact h m hm c
  obtain ⟨i, j, hij, hj, e⟩ := fb_twice (m := 2 ^ (u + 1)) (n := 2 ^ (u + 1) + 1) (f := fun i => itr u t i s) (fun i _ => itr_lt i s hs) (by omega)
  have e : itr u t i s = itr u t j s := e
  have e2 : itr u t m s = itr u t (i + (m - j)) s := by
    rw [itr_add, e, ← itr_add, show j + (m - j) = m by omega]
  rw [e2]
  exact never hs h (i + (m - j)) (by omega)
termination_by m
theorem sea_eq {u t s : Nat} (hs : s < 2 ^ (u + 1)) (hu : u ≤ 7) : sea u t s 256 1 = sea u t s (2 ^ (u + 1)) 1 := by
  have hp := pw_le hu
  by_cases c : ∃ i, (1 ≤ i ∧ i ≤ 2 ^ (u + 1)) ∧ itr u t i s = s
  · obtain ⟨i, ⟨h1, h2⟩, h3⟩ := c
    rw [show 256 = 2 ^ (u + 1) + (256 - 2 ^ (u + 1)) by rw [Nat.pow_succ]; omega]
    exact sea_hit _ 1 i h1 (by omega) h3
  · have := never hs (t := t) fun i h1 h2 h3 => c ⟨i, ⟨h1, h2⟩, h3⟩
    rw [sea_no _ _ this, sea_no _ _ this]
theorem r_L106 {u t s : Nat} {M : Mem} (hu : u ≤ 7) (hs : s < 2 ^ (u + 1)) : ∀ k F m, 1 + m + k = 257 → k < F → fX12_round_L106 (nI (u + 1)) (nI t) (nI s) M F (nI (itr u t m s)) (nI (m + 1)) = some (sea u t s k (m + 1), M)
  | k, 0, m, _, h => by omega
  | 0, F + 1, m, h1, h2 => by
    have c : (256 : Int32) < nI (m + 1) := nI_lt (show 256 < m + 1 by omega) (by omega)
    rw [fX12_round_L106, if_pos c]; rfl
  | k + 1, F + 1, m, h1, h2 => by
    have c : ¬ (256 : Int32) < nI (m + 1) := nI_nlt (show m + 1 ≤ 256 by omega) (by decide)
    have hp := pw_le hu
    have h3 := itr_lt (t := t) m s hs
    have h4 := itr_lt (t := t) (m + 1) s hs
    rw [Nat.pow_succ] at h3 h4 hs
    rw [fX12_round_L106, if_neg c, roundOf_nI hu (by omega), Option.bind_some, ← itr_s, sea, nI_1]
    by_cases d : itr u t (m + 1) s = s
    · rw [if_pos (by rw [d]), if_pos d]
    · rw [if_neg (fun w => d ((nI_eqb (by omega) (by omega)).mp w)), if_neg d]
      exact r_L106 hu (by rw [Nat.pow_succ]; exact hs) k F (m + 1) (by omega) (by omega)
theorem r_L5 {u t s : Nat} (hu : u ≤ 7) (hs : s < 2 ^ (u + 1)) : ∀ k F m, m + k = 2 ^ (u + 1) → k < F → fX5_timesRound_L5 (nI (u + 1)) (nI t) (nI s) F (nI (itr u t m s)) (nI (m + 1)) = some (sea u t s k (m + 1))
  | k, 0, m, _, h => by omega
  | 0, F + 1, m, h1, h2 => by
    have hp := pw_le hu
    rw [fX5_timesRound_L5, shl1_nI (u + 1) (by omega), if_pos (nI_lt (by omega) (by rw [Nat.pow_succ] at h1; omega))]; rfl
  | k + 1, F + 1, m, h1, h2 => by
    have hp := pw_le hu
    have h3 := itr_lt (t := t) m s hs
    have h4 := itr_lt (t := t) (m + 1) s hs
    have hw : 2 ^ (u + 1) ≤ 256 := by rw [Nat.pow_succ]; omega
    have e1 : fX5_shifted (nI (u + 1)) (nI t) (nI (itr u t m s)) 1 = some (nI (itr u t (m + 1) s)) := by
      rw [itr_s]
      exact shifted_nI (N := 1) hu (by omega) h3
    rw [fX5_timesRound_L5, shl1_nI (u + 1) (by omega), if_neg (nI_nlt (by omega) (by omega)), e1, Option.bind_some, sea, nI_1]
    by_cases d : itr u t (m + 1) s = s
    · rw [if_pos (by rw [d]), if_pos d]
    · rw [if_neg (fun w => d ((nI_eqb (by omega) (by omega)).mp w)), if_neg d]
      exact r_L5 hu hs k F (m + 1) (by omega) (by omega)
theorem m1_in {z : Int32} (h : ¬ z = -1) : (-1 ≤ z ∧ z ≤ 1000) ↔ (0 ≤ z ∧ z ≤ 1000) := by
  have a : (-1 : Int32).toInt = -1 := by decide
  have b : (0 : Int32).toInt = 0 := by decide
  have c : z.toInt ≠ -1 := fun q => h (Int32.toInt_inj.mp (q.trans a.symm))
  rw [fa_le, fa_le, fa_le, a, b]
  constructor <;> intro q <;> exact ⟨by omega, q.2⟩
theorem s_round (p q r z : Int32) : SmP (fun _ => fX11_round p q r z) (fX12_round p q r z) := SmP.told fun Mc Mm h => by
  unfold fX11_round fX12_round
  dsimp only [bnd, jn]
  rw [isW_isIn]
  by_cases c1 : ¬ (2 ≤ p ∧ p ≤ 8)
  · rw [isIn_no c1, if_pos rfl, if_pos rfl]; exact ⟨_, rfl, rfl⟩
  have c1 := Decidable.not_not.mp c1
  rw [isIn_yes c1, if_neg one_ne, if_neg one_ne]
  obtain ⟨w, hw1, hw, rfl⟩ := in_of1 (m := 2) (n := 8) (by decide) (by decide) c1
  obtain ⟨u, rfl⟩ : ∃ u, w = u + 1 := ⟨w - 1, by omega⟩
  have hp := pw_le (show u ≤ 7 by omega)
  have hw2 : 2 ^ (u + 1) ≤ 256 := by rw [Nat.pow_succ]; omega
  have hw3 : 0 < 2 ^ (u + 1) := Nat.pos_of_ne_zero (by simp)
  rw [shl1_nI (u + 1) (by omega), nI_sub1 hw3]
  by_cases c2 : ¬ (1 ≤ q ∧ q ≤ nI (2 ^ (u + 1) - 1))
  · rw [isIn_no c2, if_pos rfl, if_pos rfl]
    exact ⟨-1, by split <;> rfl, rfl⟩
  have c2 := Decidable.not_not.mp c2
  rw [isIn_yes c2, if_neg one_ne, if_neg one_ne]
  by_cases c3 : ¬ (1 ≤ r ∧ r ≤ nI (2 ^ (u + 1) - 1))
  · rw [isIn_no c3, if_pos rfl, if_pos rfl]
    exact ⟨-1, by split <;> rfl, rfl⟩
  have c3 := Decidable.not_not.mp c3
  rw [isIn_yes c3, if_neg one_ne, if_neg one_ne]
  obtain ⟨t, ht1, ht, rfl⟩ := in_of1 (m := 1) (n := 2 ^ (u + 1) - 1) (by omega) (by decide) c2
  obtain ⟨s, hs1, hs, rfl⟩ := in_of1 (m := 1) (n := 2 ^ (u + 1) - 1) (by omega) (by decide) c3
  by_cases c4 : z = -1
  · subst c4
    rw [isIn_yes (by decide), if_neg one_ne, if_pos rfl, if_pos rfl, if_pos rfl]
    have k1 := r_L106 (t := t) (M := mu Mm 198 0 0) (show u ≤ 7 by omega) (show s < 2 ^ (u + 1) by omega) 256 FU 0 (by omega) (FU_gt (by omega))
    have k2 := r_L5 (t := t) (show u ≤ 7 by omega) (show s < 2 ^ (u + 1) by omega) (2 ^ (u + 1)) FU 0 (by omega) (FU_gt (by omega))
    rw [sea_eq (by omega) (by omega)] at k1
    refine ⟨_, ?_, k1⟩
    unfold fX5_timesRound
    exact congrArg (fun o : Option Int32 => o.bind fun v2 => some v2) k2
  · rw [if_neg c4, if_neg c4, if_neg c4]
    by_cases c5 : ¬ (0 ≤ z ∧ z ≤ 1000)
    · rw [isIn_no c5, isIn_no (fun q => c5 ((m1_in c4).mp q)), if_pos rfl, if_pos rfl]; exact ⟨_, rfl, rfl⟩
    have c5 := Decidable.not_not.mp c5
    rw [isIn_yes c5, isIn_yes ((m1_in c4).mpr c5), if_neg one_ne, if_neg one_ne]
    obtain ⟨N, hN, rfl⟩ := in_of (n := 1000) (by decide) c5
    have k1 := r_L77 (t := t) (M := mu Mm 198 0 0) (show u ≤ 7 by omega) hN N FU 0 s (by omega) (FU_gt (by omega)) (by omega)
    rw [nI_0] at k1
    refine ⟨_, ?_, k1⟩
    rw [shifted_nI (by omega) hN (by omega)]; rfl
