/-! ===== parts: the sum of what divides ===== -/
def sA (n : Nat) : Nat → Nat → Nat
  | 0, _ => 0
  | k + 1, d => (if n % d = 0 then d else 0) + sA n k (d + 1)
theorem sA_split (n : Nat) : ∀ a b c, sA n (a + b) c = sA n a c + sA n b (c + a)
  | 0, b, c => by rw [sA, Nat.zero_add, Nat.zero_add, Nat.add_zero]
  | a + 1, b, c => by rw [show a + 1 + b = a + b + 1 by omega, sA, sA, sA_split n a b (c + 1), show c + 1 + a = c + (a + 1) by omega]; omega
theorem sA_zero {n : Nat} : ∀ b c, (∀ d, c ≤ d → d < c + b → ¬ n % d = 0) → sA n b c = 0
  | 0, c, _ => rfl
  | b + 1, c, h => by rw [sA, if_neg (h c (by omega) (by omega)), sA_zero b (c + 1) (fun d h1 h2 => h d (by omega) (by omega))]
theorem sA_le (n : Nat) : ∀ k d, sA n k d ≤ k * (d + k)
  | 0, d => by rw [sA]; omega
  | k + 1, d => by
    have h := sA_le n k (d + 1)
    rw [sA, Nat.succ_mul, show d + (k + 1) = d + 1 + k by omega]
    split <;> omega
def sU (n k : Nat) : Nat := sA n (n / k + 1 - k) k
theorem sU_no {n k : Nat} (h : n < k * k) : sU n k = 0 := by
  unfold sU
  have : n / k < k := (Nat.div_lt_iff_lt_mul (by
    rcases Nat.eq_zero_or_pos k with e | e
    · subst e; omega
    · exact e)).mpr h
  rw [show n / k + 1 - k = 0 by omega]; rfl
/-- what divides between n / (k + 1) and n / k is n / k alone -/
theorem sU_gap {n k d : Nat} (hk : 1 ≤ k) (h1 : n / (k + 1) < d) (h2 : d ≤ n / k) (h3 : n % d = 0) : n % k = 0 ∧ d = n / k := by
  have hd : n = d * (n / d) := by have := Nat.div_add_mod n d; omega
  obtain ⟨e, he⟩ : ∃ e, n / d = e := ⟨_, rfl⟩
  rw [he] at hd
  have hd0 : 0 < d := Nat.lt_of_le_of_lt (Nat.zero_le _) h1
  have a1 : n < d * (k + 1) := (Nat.div_lt_iff_lt_mul (by omega)).mp h1
  have a2 : d * k ≤ n := (Nat.le_div_iff_mul_le (by omega)).mp h2
  rw [hd] at a1 a2
  have b1 : e < k + 1 := Nat.lt_of_mul_lt_mul_left a1
  have b2 : k ≤ e := Nat.le_of_mul_le_mul_left a2 hd0
  have e2 : e = k := by omega
  subst e2
  refine ⟨by rw [hd]; exact Nat.mul_mod_left d e, ?_⟩
  rw [hd, Nat.mul_div_cancel _ (by omega)]
theorem sU_step {n k : Nat} (hk : 1 ≤ k) (h : k * k ≤ n) : sU n k = (if n % k = 0 then (if k * k = n then k else k + n / k) else 0) + sU n (k + 1) := by
  have hm : k ≤ n / k := (Nat.le_div_iff_mul_le (by omega)).mpr h
  have hm' : n / (k + 1) ≤ n / k := Nat.div_le_div_left (by omega) (by omega)
  obtain ⟨m, em⟩ : ∃ m, n / k = m := ⟨_, rfl⟩
  obtain ⟨m', em'⟩ : ∃ m', n / (k + 1) = m' := ⟨_, rfl⟩
  have gap : ∀ d, m' < d → d ≤ m → n % d = 0 → n % k = 0 ∧ d = m := fun d h1 h2 h3 => by
    have := sU_gap hk (by rw [em']; exact h1) (by rw [em]; exact h2) h3
    rw [em] at this; exact this
  unfold sU
  rw [em] at hm hm'
  rw [em'] at hm'
  rw [em, em']
  rw [show m + 1 - k = (m - k) + 1 by omega, sA, show m' + 1 - (k + 1) = m' - k by omega, show m - k = (m' - k) + ((m - k) - (m' - k)) by omega, sA_split]
  obtain ⟨a, ea⟩ : ∃ a, m' - k = a := ⟨_, rfl⟩
  rw [ea]
  by_cases c : n % k = 0
  · have hmk : m * k = n := by have := Nat.div_add_mod n k; rw [c, em, Nat.mul_comm] at this; omega
    rw [if_pos c, if_pos c]
    by_cases c2 : k * k = n
    · have : m = k := by
        rw [← c2, Nat.mul_div_cancel _ (by omega)] at em; exact em.symm
      rw [if_pos c2, show m - k - a = 0 by omega, sA]
      omega
    · have h1 : m ≠ k := fun e => c2 (by rw [← hmk, e])
      have h2 : m' < m := by
        rw [← em']
        refine (Nat.div_lt_iff_lt_mul (by omega)).mpr ?_
        rw [Nat.mul_add, hmk]; omega
      rw [if_neg c2, show m - k - a = (m - k - a - 1) + 1 by omega, sA_split n (m - k - a - 1) 1, sA_zero (m - k - a - 1) (k + 1 + a) (fun d d1 d2 d3 => by have := gap d (by omega) (by omega) d3; omega)]
      rw [show k + 1 + a + (m - k - a - 1) = m by omega, sA, sA, if_pos (by rw [← hmk]; exact Nat.mul_mod_right m k)]
      omega
  · rw [if_neg c, if_neg c, sA_zero (m - k - a) (k + 1 + a) (fun d d1 d2 d3 => c (gap d (by omega) (by omega) d3).1)]
    omega
def sP (n : Nat) : Nat := sA n (n / 2) 1
theorem jrem_nI {a d : Nat} (ha : a < 2 ^ 31) (h0 : 0 < d) (hd : d < 2 ^ 31) : jrem (nI a) (nI d) = nI (a % d) := pk_rem ha h0 hd
theorem sP_U {n : Nat} (hn : 1 ≤ n) : sP n = (if n ≤ 1 then 0 else 1) + sU n 2 := by
  unfold sP sU
  by_cases c : n ≤ 1
  · have : n = 1 := by omega
    subst this; decide
  · rw [if_neg c, show n / 2 = (n / 2 + 1 - 2) + 1 by omega, sA, if_pos (by rw [Nat.mod_one]), show n / 2 + 1 - 2 + 1 + 1 - 2 = n / 2 + 1 - 2 by omega]
theorem sP_ref {n : Nat} (hn : n ≤ 9999) : ∀ (k F d a : Nat), d + k = n / 2 + 1 → k < F → 1 ≤ d → fX12_partsTogether_L4 (nI n) F (nI a) (nI d) = some (nI (a + sA n k d))
  | k, 0, d, a, _, h, _ => by omega
  | 0, F + 1, d, a, h1, h2, h3 => by
    rw [fX12_partsTogether_L4, lmul 2 d, if_pos (nI_lt (by omega) (by omega))]; rfl
  | k + 1, F + 1, d, a, h1, h2, h3 => by
    rw [fX12_partsTogether_L4, lmul 2 d, if_neg (nI_nlt (by omega) (by omega)), if_neg (nI_ne0 (by omega) (by omega))]
    dsimp only [jn, bnd]
    rw [jrem_nI (by omega) (by omega) (by omega), sA, nI_1]
    by_cases c : n % d = 0
    · rw [if_pos (by rw [c]; rfl), if_pos c, nI_add, sP_ref hn k F (d + 1) (a + d) (by omega) (by omega) (by omega), Nat.add_assoc]
    · rw [if_neg (nI_ne0 (by omega) (by have := Nat.mod_lt n (show d > 0 by omega); omega)), if_neg c, sP_ref hn k F (d + 1) a (by omega) (by omega) (by omega), Nat.zero_add]
theorem sP_cls {n : Nat} (hn : n ≤ 9999) : ∀ (F k a : Nat), 1 ≤ k → k ≤ 101 → 101 - k < F → fX5_sumOfParts_L13 (nI n) F (nI a) (nI k) = some (nI (a + sU n k))
  | 0, k, a, _, _, h => by omega
  | F + 1, k, a, h1, h2, h3 => by
    have kb := Nat.mul_le_mul h2 h2
    rw [fX5_sumOfParts_L13, pk_mul]
    by_cases c : n < k * k
    · rw [if_pos (nI_lt c (by omega)), sU_no c]; rfl
    · have hk : k ≤ 100 := Decidable.byContradiction fun q => by
        have : k = 101 := by omega
        subst this; omega
      rw [if_neg (nI_nlt (by omega) (by omega)), if_neg (nI_ne0 (by omega) (by omega))]
      dsimp only [jn, bnd]
      rw [jrem_nI (by omega) (by omega) (by omega), sU_step h1 (by omega), nI_1]
      by_cases c1 : n % k = 0
      · rw [if_pos (by rw [c1]; rfl), if_pos c1]
        by_cases c2 : k * k = n
        · rw [if_pos (by rw [c2]), if_pos c2, nI_add, sP_cls hn F (k + 1) (a + k) (by omega) (by omega) (by omega), Nat.add_assoc]
        · rw [if_neg (fun q => c2 ((nI_eqb (by omega) (by omega)).mp q)), if_neg c2, if_neg (nI_ne0 (by omega) (by omega)), pk_div (by omega) (by omega) (by omega), nI_add, nI_add, sP_cls hn F (k + 1) _ (by omega) (by omega) (by omega), Nat.add_assoc]
      · rw [if_neg (nI_ne0 (by omega) (by have := Nat.mod_lt n (show k > 0 by omega); omega)), if_neg c1, sP_cls hn F (k + 1) a (by omega) (by omega) (by omega), Nat.zero_add]
theorem sum_cls {n : Nat} (h1 : 1 ≤ n) (hn : n ≤ 9999) : fX5_sumOfParts (nI n) = some (nI (sP n)) := by
  unfold fX5_sumOfParts
  rw [jn_eq, sP_U h1]
  by_cases c : n ≤ 1
  · rw [if_pos (show nI n ≤ 1 from nI_le c (by decide)), if_pos c]
    exact sP_cls hn FU 2 0 (by omega) (by omega) (FU_gt (by omega))
  · rw [if_neg (show ¬ nI n ≤ 1 from nI_ge (show 1 < n by omega) (by omega)), if_neg c]
    exact sP_cls hn FU 2 1 (by omega) (by omega) (FU_gt (by omega))
theorem sum_ref {n : Nat} (h1 : 1 ≤ n) (hn : n ≤ 9999) : fX12_partsTogether (nI n) = some (nI (sP n)) := by
  have := sP_ref hn (n / 2) FU 1 0 (by omega) (FU_gt (by omega)) (by omega)
  rw [Nat.zero_add] at this
  exact this
theorem sP_bd {n : Nat} (hn : n ≤ 9999) : sP n < 2 ^ 31 := by
  have h := sA_le n (n / 2) 1
  have := Nat.mul_le_mul (show n / 2 ≤ 5000 by omega) (show 1 + n / 2 ≤ 5001 by omega)
  unfold sP
  omega
/-! a bit of an int -/
theorem bitI {w : Int32} {i : Nat} (hi : i < 32) : (jshr w (nI i) &&& 1 = 1) ↔ w.toBitVec.toNat.testBit i = true := by
  have hs : ((nI i &&& 31 : Int32).toBitVec.smod 32).toNat = i := s_l31 i hi
  have e1 := pk_and (jshr w (nI i)) (m := 1) 1 (by decide)
  rw [e1]
  have e2 : (jshr w (nI i)).toInt = w.toInt >>> i := pk_shr w _ i hs
  have hp : (jshr w (nI i)).toBitVec.toNat % 2 = w.toBitVec.toNat / 2 ^ i % 2 := by
    have x1 : (jshr w (nI i)).toInt = (jshr w (nI i)).toBitVec.toInt := rfl
    have x2 : w.toInt = w.toBitVec.toInt := rfl
    rw [x1, x2, BitVec.toInt_eq_toNat_cond, BitVec.toInt_eq_toNat_cond, Int.shiftRight_eq_div_pow] at e2
    have b1 := (jshr w (nI i)).toBitVec.isLt
    have b2 := w.toBitVec.isLt
    generalize (jshr w (nI i)).toBitVec.toNat = A at *
    generalize w.toBitVec.toNat = W at *
    rcases (show i = 0 ∨ i = 1 ∨ i = 2 ∨ i = 3 ∨ i = 4 ∨ i = 5 ∨ i = 6 ∨ i = 7 ∨ i = 8 ∨ i = 9 ∨ i = 10 ∨ i = 11 ∨ i = 12 ∨ i = 13 ∨ i = 14 ∨ i = 15 ∨ i = 16 ∨ i = 17 ∨ i = 18 ∨ i = 19 ∨ i = 20 ∨ i = 21 ∨ i = 22 ∨ i = 23 ∨ i = 24 ∨ i = 25 ∨ i = 26 ∨ i = 27 ∨ i = 28 ∨ i = 29 ∨ i = 30 ∨ i = 31 by omega) with rfl | rfl | rfl | rfl | rfl | rfl | rfl | rfl | rfl | rfl | rfl | rfl | rfl | rfl | rfl | rfl | rfl | rfl | rfl | rfl | rfl | rfl | rfl | rfl | rfl | rfl | rfl | rfl | rfl | rfl | rfl | rfl <;> (split at e2 <;> split at e2 <;> omega)
  rw [hp, Nat.testBit_eq_decide_div_mod_eq]
  have : (1 : Int32) = nI 1 := rfl
  rw [this, nI_eqb (by omega) (by omega), decide_eq_true_eq]
theorem bitS {w : Int32} {i j : Nat} (hi : i < 32) (hj : j < 32) : (w ||| jshl 1 (nI i)).toBitVec.toNat.testBit j = (w.toBitVec.toNat.testBit j || decide (i = j)) := by
  have hs : ((nI i &&& 31 : Int32).toBitVec.smod 32).toNat = i := s_l31 i hi
  have e : (jshl 1 (nI i)).toBitVec.toNat = 2 ^ i := by
    have := pk_shl 1 (nI i &&& 31) i hs
    rw [show (1 : Int32).toBitVec.toNat = 1 from rfl, Nat.one_mul, Nat.mod_eq_of_lt (Nat.pow_lt_pow_right (by omega) hi)] at this
    exact this
  rw [Int32.toBitVec_or, BitVec.toNat_or, Nat.testBit_or, e, Nat.testBit_two_pow]
