/-! ===== lasts ===== -/
theorem dig_eq : ∀ (f : Nat) (z a b : Int32), fX5_ofDigits_L12 z f a b = fX12_digitsOf_L13 z f a b
  | 0, _, _, _ => rfl
  | f + 1, z, a, b => by
    rw [fX5_ofDigits_L12, fX12_digitsOf_L13]
    dsimp only [jn, bnd]
    rw [dig_eq f, dig_eq f]
theorem ofDigits_eq (n z : Int32) : fX5_ofDigits n z = fX12_digitsOf n z := by
  unfold fX5_ofDigits fX12_digitsOf
  dsimp only [jn]
  rw [dig_eq, dig_eq]
/-- digits joined: added (false), multiplied (true) -/
def dgj (m : Bool) : Nat → Nat → Nat → Nat
  | 0, a, _ => a
  | f + 1, a, n => if n = 0 then a else dgj m f (if m then a * (n % 10) else a + n % 10) (n / 10)
theorem dgj_add : ∀ (f a n : Nat), dgj false f a n = a + dgj false f 0 n
  | 0, a, n => rfl
  | f + 1, a, n => by
    unfold dgj
    by_cases h : n = 0
    · rw [if_pos h, if_pos h]; rfl
    · rw [if_neg h, if_neg h]
      simp only [Bool.false_eq_true, if_false]
      rw [dgj_add f (a + n % 10), dgj_add f (0 + n % 10)]; omega
theorem dgj_mul : ∀ (f a n : Nat), dgj true f a n = a * dgj true f 1 n
  | 0, a, n => by unfold dgj; omega
  | f + 1, a, n => by
    unfold dgj
    by_cases h : n = 0
    · rw [if_pos h, if_pos h]; omega
    · rw [if_neg h, if_neg h]
      simp only [if_true]
      rw [dgj_mul f (a * (n % 10)), dgj_mul f (1 * (n % 10)), Nat.one_mul, Nat.mul_assoc]
theorem dgs_le : ∀ (f n : Nat), dgj false f 0 n ≤ n
  | 0, n => by unfold dgj; omega
  | f + 1, n => by
    unfold dgj
    by_cases h : n = 0
    · rw [if_pos h]; omega
    · rw [if_neg h]
      simp only [Bool.false_eq_true, if_false]
      rw [dgj_add]
      have := dgs_le f (n / 10)
      omega
theorem dgp_le : ∀ (f n : Nat), 0 < n → n < 10 ^ f → dgj true f 1 n ≤ n
  | 0, n, h, h2 => by omega
  | f + 1, n, h, h2 => by
    unfold dgj
    rw [if_neg (by omega)]
    simp only [if_true]
    rw [dgj_mul, Nat.one_mul]
    by_cases h3 : n < 10
    · rw [show n / 10 = 0 by omega]
      have : dgj true f 1 0 = 1 := by cases f <;> rfl
      rw [this]; omega
    · have ih := dgp_le f (n / 10) (by omega) (by rw [Nat.pow_succ] at h2; omega)
      have h4 : n % 10 * dgj true f 1 (n / 10) ≤ 9 * (n / 10) := Nat.mul_le_mul (by omega) ih
      omega
theorem dgj_lt (m : Bool) (f n : Nat) (h : 9 < n) (h2 : n < 10 ^ (f + 1)) : 10 * dgj m (f + 1) (if m then 1 else 0) n ≤ 9 * n := by
  unfold dgj
  rw [if_neg (by omega)]
  cases m with
  | false =>
    simp only [Bool.false_eq_true, if_false]
    rw [dgj_add]
    have := dgs_le f (n / 10)
    omega
  | true =>
    simp only [if_true]
    rw [dgj_mul, Nat.one_mul]
    have ih := dgp_le f (n / 10) (by omega) (by rw [Nat.pow_succ] at h2; omega)
    have h4 : n % 10 * dgj true f 1 (n / 10) ≤ 9 * (n / 10) := Nat.mul_le_mul (by omega) ih
    omega
theorem dig_nI (m : Bool) {z : Int32} (hz : z = if m then 1 else 0) : ∀ (f a n F : Nat), n < 10 ^ f → f < F → n < 10 ^ 9 → fX12_digitsOf_L13 z F (nI a) (nI n) = some (nI (dgj m f a n))
  | f, a, n, 0, _, hF, _ => by omega
  | 0, a, n, F + 1, hn, hF, h9 => by
    have : n = 0 := by simpa using hn
    subst this
    rw [fX12_digitsOf_L13, if_pos (by decide)]; rfl
  | f + 1, a, n, F + 1, hn, hF, h9 => by
    rw [fX12_digitsOf_L13]
    unfold dgj
    by_cases h : n = 0
    · subst h
      rw [if_pos (by decide), if_pos rfl]
    · have l10 : (10 : Int32) = nI 10 := rfl
      rw [if_neg (nI_nle (by omega) (by omega)), if_neg h]
      dsimp only [jn, bnd]
      unfold jrem
      rw [l10, pk_rem (by omega) (by decide) (by decide), pk_div (by omega) (by decide) (by decide)]
      have hn' : n / 10 < 10 ^ f := by rw [Nat.pow_succ] at hn; omega
      cases m with
      | false =>
        rw [if_pos (by rw [hz]; rfl), nI_add]
        simp only [Bool.false_eq_true, if_false]
        exact dig_nI false hz f (a + n % 10) (n / 10) F hn' (by omega) (by omega)
      | true =>
        rw [if_neg (by rw [hz]; decide), pk_mul]
        simp only [if_true]
        exact dig_nI true hz f (a * (n % 10)) (n / 10) F hn' (by omega) (by omega)
theorem dgj_lt6 (m : Bool) (v : Nat) (h : 9 < v) (h2 : v < 1000000) : 10 * dgj m 6 (if m then 1 else 0) v ≤ 9 * v := dgj_lt m 5 v h (by omega)
theorem digitsOf_nI (m : Bool) {z : Int32} (hz : z = if m then 1 else 0) {v : Nat} (h : v < 1000000) : fX12_digitsOf (nI v) z = some (nI (dgj m 6 (if m then 1 else 0) v)) := by
  unfold fX12_digitsOf
  dsimp only [jn]
  cases m with
  | false =>
    rw [if_pos (by rw [hz]; rfl), ← nI_0, dig_nI false hz 6 0 v FU (by omega) (FU_gt (by omega)) (by omega)]; rfl
  | true =>
    rw [if_neg (by rw [hz]; decide), lit 1, dig_nI true hz 6 1 v FU (by omega) (FU_gt (by omega)) (by omega)]; rfl
theorem gap_mul {a b : Nat} (h : a * 100000 < b) : a * 9 * 100000 < b * 10 := by
  rw [Nat.mul_right_comm]
  generalize a * 100000 = x at h ⊢
  omega
theorem pow_gap : ∀ t : Nat, 9 ^ (200 + t) * 100000 < 10 ^ (200 + t)
  | 0 => by decide +kernel
  | t + 1 => by
    have := pow_gap t
    rw [← Nat.add_assoc, Nat.pow_succ, Nat.pow_succ]
    exact gap_mul this
theorem lst (m : Bool) {z z2 : Int32} (hz : z = if m then 1 else 0) (hz2 : z2 ≤ 1 ↔ m = false) : ∀ (F v t : Nat), v * 10 ^ t ≤ 9 ^ t * 999999 → v < 1000000 → t ≤ 300 → 301 < F + t → ∃ v' t' : Nat, (∀ K, fX5_lasting_L5 K z F (nI v) (nI t) = K (nI v') (nI t')) ∧ ∀ K M, fX12_lasts_L34 K z2 M F (nI t) (nI v) = K (nI t') (nI v')
  | 0, v, t, _, _, h3, h4 => by omega
  | F + 1, v, t, h1, h2, h3, h4 => by
    by_cases c : v ≤ 9
    · have n9 : nI v ≤ (9 : Int32) := nI_le c (by decide)
      refine ⟨v, t, fun K => ?_, fun K M => ?_⟩
      · rw [fX5_lasting_L5, if_pos n9]
      · rw [fX12_lasts_L34, if_pos n9]
    · have ht : t < 200 := Decidable.byContradiction fun q => by
        have := pow_gap (t - 200)
        rw [show 200 + (t - 200) = t by omega] at this
        have h5 : 10 * 10 ^ t ≤ v * 10 ^ t := Nat.mul_le_mul_right _ (by omega)
        generalize 9 ^ t = a at *
        generalize 10 ^ t = b at *
        omega
      have hd := dgj_lt6 m v (by omega) h2
      have n9 : ¬ nI v ≤ (9 : Int32) := nI_ge (show 9 < v by omega) (by omega)
      have n1000 : ¬ (1000 : Int32) ≤ nI t := nI_ge (show t < 1000 by omega) (by decide)
      have he := digitsOf_nI m hz h2
      obtain ⟨v', t', k1, k2⟩ := lst m hz hz2 F (dgj m 6 (if m then 1 else 0) v) (t + 1) (by
        rw [Nat.pow_succ, Nat.pow_succ]
        generalize dgj m 6 (if m then 1 else 0) v = d at *
        have h5 : 10 * d * 10 ^ t ≤ 9 * v * 10 ^ t := Nat.mul_le_mul_right _ hd
        rw [Nat.mul_assoc 9] at h5
        have h6 : d * (10 ^ t * 10) = 10 * d * 10 ^ t := by rw [Nat.mul_comm (10 ^ t), ← Nat.mul_assoc, Nat.mul_comm d]
        rw [h6]
        omega) (by omega) (by omega) (by omega)
      refine ⟨v', t', fun K => ?_, fun K M => ?_⟩
      · rw [fX5_lasting_L5, if_neg n9, if_neg n1000, ofDigits_eq, he]
        show fX5_lasting_L5 K z F _ (nI t + 1) = _
        rw [nI_1, k1]
      · rw [fX12_lasts_L34, if_neg n9]
        dsimp only [jn, bnd]
        have e : ∀ w : Int32, w = z → ((fX12_digitsOf (nI v) w).bind fun v4 => fX12_lasts_L34 K z2 M F (nI t + 1) v4) = K (nI t') (nI v') := fun w hw => by
          rw [hw, he]
          show fX12_lasts_L34 K z2 M F (nI t + 1) _ = _
          rw [nI_1, k2]
        cases m with
        | false => rw [if_pos (hz2.mpr rfl)]; exact e 0 hz.symm
        | true => rw [if_neg (fun q => by cases hz2.mp q)]; exact e 1 hz.symm
theorem s_lasts (p q : Int32) : SmP (fun _ => fX11_lasts p q) (fX12_lasts p q) := SmP.told fun Mc Mm h => by
  unfold fX11_lasts fX12_lasts
  dsimp only [bnd, jn]
  rw [isW_isIn]
  by_cases c1 : ¬ (0 ≤ p ∧ p ≤ 999999)
  · rw [isIn_no c1, if_pos rfl, if_pos rfl]; exact ⟨_, rfl, rfl⟩
  have c1 := Decidable.not_not.mp c1
  rw [isIn_yes c1, if_neg one_ne, if_neg one_ne]
  by_cases c2 : ¬ (0 ≤ q ∧ q ≤ 3)
  · rw [isIn_no c2, if_pos rfl, if_pos rfl]; exact ⟨_, rfl, rfl⟩
  have c2 := Decidable.not_not.mp c2
  rw [isIn_yes c2, if_neg one_ne, if_neg one_ne]
  obtain ⟨v, hv, rfl⟩ := in_of (n := 999999) (by decide) c1
  obtain ⟨j, hj, rfl⟩ := in_of (n := 3) (by decide) c2
  have hq : (nI j < 2 ↔ (decide (2 ≤ j)) = false) ∧ (nI j ≤ 1 ↔ (decide (2 ≤ j)) = false) := by
    rcases (show j = 0 ∨ j = 1 ∨ j = 2 ∨ j = 3 by omega) with rfl | rfl | rfl | rfl <;> decide
  generalize hm : decide (2 ≤ j) = m at hq
  obtain ⟨v', t', k1, k2⟩ := lst m (z := if m then 1 else 0) (z2 := nI j) rfl hq.2 FU v 0 (by omega) (by omega) (by omega) (FU_gt (n := 301) (by omega))
  rw [nI_0] at k1 k2
  rw [k2]
  have e : ∀ w : Int32, (fX5_lasting (nI v) (if m then 1 else 0) w) = if w = 0 then some (nI v') else some (nI t') := fun w => by
    unfold fX5_lasting; rw [k1]
  have e3 : ∀ w : Int32, w = (if m then 1 else 0) → (if jrem (nI j) 2 = 0 then (fX5_lasting (nI v) w 1).bind fun v5 => some v5 else (fX5_lasting (nI v) w 0).bind fun v5 => some v5) = if jrem (nI j) 2 = 0 then some (nI t') else some (nI v') := fun w hw => by
    rw [hw, e, e]; rfl
  refine ⟨if jrem (nI j) 2 = 0 then nI t' else nI v', ?_, ?_⟩
  · cases m with
    | false => rw [if_pos (hq.1.mpr rfl), e3 0 rfl]; split <;> rfl
    | true => rw [if_neg (fun x => by cases hq.1.mp x), e3 1 rfl]; split <;> rfl
  · split <;> rfl
