/-! ===== lasts ===== -/
theorem dig_eq : ∀ (f : Nat) (z a b : Int32), fX5_ofDigits_L12 z f a b = fX12_digitsOf_L13 z f a b
  | 0, _, _, _ => rfl
  | f + 1, z, a, b => by
    rw [fX5_ofDigits_L12, fX12_digitsOf_L13]
    dsimp only [jn, bnd]
    rw [dig_eq f, dig_eq f]
theorem ofDigits_eq (n z : Int32) : fX5_ofDigits n z = fX12_digitsOf n z := by
  unfold fX5_ofDigits fX12_digitsOf
  dsimp only [jn]
  rw [dig_eq, dig_eq]
/-- digits joined: added (false), multiplied (true) -/
def dgj (m : Bool) : Nat → Nat → Nat → Nat
  | 0, a, _ => a
  | f + 1, a, n => if n = 0 then a else dgj m f (if m then a * (n % 10) else a + n % 10) (n / 10)
theorem dgj_add : ∀ (f a n : Nat), dgj false f a n = a + dgj false f 0 n
  | 0, a, n => rfl
  | f + 1, a, n => by
    unfold dgj
    by_cases h : n = 0
    · rw [if_pos h, if_pos h]; rfl
    · rw [if_neg h, if_neg h]
      simp only [Bool.false_eq_true, if_false]
      rw [dgj_add f (a + n % 10), dgj_add f (0 + n % 10)]; omega
theorem dgj_mul : ∀ (f a n : Nat), dgj true f a n = a * dgj true f 1 n
  | 0, a, n => by unfold dgj; omega
  | f + 1, a, n => by
    unfold dgj
    by_cases h : n = 0
    · rw [if_pos h, if_pos h]; omega
    · rw [if_neg h, if_neg h]
      simp only [if_true]
      rw [dgj_mul f (a * (n % 10)), dgj_mul f (1 * (n % 10)), Nat.one_mul, Nat.mul_assoc]
theorem dgs_le : ∀ (f n : Nat), dgj false f 0 n ≤ n
  | 0, n => by unfold dgj; omega
  | f + 1, n => by
    unfold dgj
    by_cases h : n = 0
    · rw [if_pos h]; omega
    · rw [if_neg h]
      simp only [Bool.false_eq_true, if_false]
      rw [dgj_add]
      have := dgs_le f (n / 10)
      omega
theorem dgp_le : ∀ (f n : Nat), 0 < n → n < 10 ^ f → dgj true f 1 n ≤ n
  | 0, n, h, h2 => by omega
  | f + 1, n, h, h2 => by
    unfold dgj
    rw [if_neg (by omega)]
    simp only [if_true]
    rw [dgj_mul, Nat.one_mul]
    by_cases h3 : n < 10
    · rw [show n / 10 = 0 by omega]
      have : dgj true f 1 0 = 1 := by cases f <;> rfl
      rw [this]; omega
    · have ih := dgp_le f (n / 10) (by omega) (by rw [Nat.pow_succ] at h2; omega)
      have h4 : n % 10 * dgj true f 1 (n / 10) ≤ 9 * (n / 10) := Nat.mul_le_mul (by omega) ih
      omega
theorem dgj_lt (m : Bool) (f n : Nat) (h : 9 < n) (h2 : n < 10 ^ (f + 1)) : 10 * dgj m (f + 1) (if m then 1 else 0) n ≤ 9 * n := by
  unfold dgj
  rw [if_neg (by omega)]
  cases m with
  | false =>
    simp only [Bool.false_eq_true, if_false]
    rw [dgj_add]
    have := dgs_le f (n / 10)
    omega
  | true =>
    simp only [if_true]
    rw [dgj_mul, Nat.one_mul]
    have ih := dgp_le f (n / 10) (by omega) (by rw [Nat.pow_succ] at h2; omega)
    have h4 : n % 10 * dgj true f 1 (n / 10) ≤ 9 * (n / 10) := Nat.mul_le_mul (by omega) ih
    omega
theorem dig_nI (m : Bool) {z : Int32} (hz : z = if m then 1 else 0) : ∀ (f a n F : Nat), n < 10 ^ f → f < F → a * 10 ^ f ≤ 100000000 → n < 10 ^ 9 → fX12_digitsOf_L13 z F (nI a) (nI n) = some (nI (dgj m f a n))
  | f, a, n, 0, _, hF, _, _ => by omega
  | 0, a, n, F + 1, hn, hF, ha, h9 => by
    have : n = 0 := by simpa using hn
    subst this
    rw [fX12_digitsOf_L13, if_pos (by decide)]; rfl
  | f + 1, a, n, F + 1, hn, hF, ha, h9 => by
    rw [fX12_digitsOf_L13]
    unfold dgj
    by_cases h : n = 0
    · subst h
      rw [if_pos (by decide), if_pos rfl]
    · have l10 : (10 : Int32) = nI 10 := rfl
      have hp : a * 10 ^ f * 10 ≤ 100000000 := by rw [Nat.pow_succ, ← Nat.mul_assoc] at ha; exact ha
      have h1 : 1 ≤ 10 ^ f := Nat.one_le_two_pow.trans (Nat.pow_le_pow_left (by omega) f)
      have haa : a ≤ a * 10 ^ f := Nat.le_mul_of_pos_right _ h1
      rw [if_neg (nI_nle (by omega) (by omega)), if_neg h]
      dsimp only [jn, bnd]
      unfold jrem
      rw [l10, pk_rem (by omega) (by decide) (by decide), pk_div (by omega) (by decide) (by decide)]
      have hn' : n / 10 < 10 ^ f := by rw [Nat.pow_succ] at hn; omega
      cases m with
      | false =>
        rw [if_pos (by rw [hz]; rfl), nI_add]
        simp only [Bool.false_eq_true, if_false]
        refine dig_nI false hz f (a + n % 10) (n / 10) F hn' (by omega) ?_ (by omega)
        have : (a + n % 10) * 10 ^ f ≤ a * 10 ^ f + 9 * 10 ^ f := by rw [← Nat.add_mul]; exact Nat.mul_le_mul_right _ (by omega)
        have h5 : 10 ^ f ≤ 10 ^ 7 := by
          refine Nat.pow_le_pow_right (by omega) ?_
          sorry
        sorry
      | true =>
        rw [if_neg (by rw [hz]; decide), pk_mul]
        simp only [if_true]
        refine dig_nI true hz f (a * (n % 10)) (n / 10) F hn' (by omega) ?_ (by omega)
        have : a * (n % 10) * 10 ^ f ≤ a * 10 ^ f * 10 := by
          rw [Nat.mul_right_comm, Nat.mul_assoc (a * 10 ^ f)]
          exact Nat.mul_le_mul_left _ (by omega)
        omega
