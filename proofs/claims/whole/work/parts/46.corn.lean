/-! ===== corners ===== -/
def lr : Nat → Nat → Nat → Nat
  | 0, e, _ => e
  | f + 1, e, s => if s ≤ e * e then e else lr f (e + 1) s
def IsR (s r : Nat) : Prop := s ≤ r * r ∧ ∀ e, e < r → e * e < s
theorem lr_is {s : Nat} : ∀ f e, (∀ e', e' < e → e' * e' < s) → s ≤ (e + f) * (e + f) → IsR s (lr f e s)
  | 0, e, h, h2 => ⟨h2, h⟩
  | f + 1, e, h, h2 => by
    unfold lr
    by_cases c : s ≤ e * e
    · rw [if_pos c]; exact ⟨c, h⟩
    · rw [if_neg c]
      refine lr_is f (e + 1) (fun e' h' => ?_) (by rw [show e + 1 + f = e + (f + 1) by omega]; exact h2)
      by_cases q : e' = e
      · subst q; omega
      · exact h e' (by omega)
def rt (s : Nat) : Nat := lr s 0 s
theorem rt_is (s : Nat) : IsR s (rt s) := lr_is s 0 (fun e' h => by omega) (by
  rw [Nat.zero_add]
  cases s with
  | zero => exact Nat.le_refl _
  | succ s => exact Nat.le_mul_of_pos_right _ (by omega))
theorem sq_bd {e : Nat} (h : e < 1000) : e * e < 1000000 := by
  have := Nat.mul_le_mul (show e ≤ 999 by omega) (show e ≤ 999 by omega)
  omega
theorem rt_le (x y : Nat) : rt (x * x + y * y) ≤ x + y := Decidable.byContradiction fun q => by
  have := (rt_is (x * x + y * y)).2 (x + y) (by omega)
  rw [Nat.add_mul, Nat.mul_add, Nat.mul_add] at this
  omega
theorem rt_ge {x y e : Nat} (h : e * e < x * x + y * y) : e < rt (x * x + y * y) := Decidable.byContradiction fun q => by
  have h1 := (rt_is (x * x + y * y)).1
  have := Nat.mul_le_mul (Nat.le_of_not_lt q) (Nat.le_of_not_lt q)
  omega
theorem rt_y {x y : Nat} (hx : 1 ≤ x) : y < rt (x * x + y * y) := rt_ge (by
  have := Nat.mul_le_mul hx hx
  omega)
theorem sq_no2 (x e : Nat) (h : e * e = x * x + x * x) : x = 0 := by
  by_cases hx : x = 0
  · exact hx
  rcases (show ∃ a, e = a + a ∨ e = a + a + 1 from ⟨e / 2, by omega⟩) with ⟨a, rfl | rfl⟩
  · have h2 : x * x = a * a + a * a := by rw [Nat.add_mul, Nat.mul_add] at h; omega
    have hp := Nat.mul_le_mul (show 1 ≤ x by omega) (show 1 ≤ x by omega)
    have ha : a < x := Decidable.byContradiction fun q => by
      have := Nat.mul_le_mul (Nat.le_of_not_lt q) (Nat.le_of_not_lt q)
      omega
    have h3 := sq_no2 a x h2
    subst h3
    omega
  · rw [Nat.add_mul, Nat.mul_add, Nat.one_mul, Nat.add_mul, Nat.mul_add] at h
    omega
termination_by x
def cnt (P : Nat → Bool) : Nat → Nat → Nat
  | 0, _ => 0
  | k + 1, y => (if P y then 1 else 0) + cnt P k (y + 1)
def cn2 (P : Nat → Nat → Bool) (n : Nat) : Nat → Nat → Nat
  | 0, _ => 0
  | k + 1, x => cnt (P x) (n - x) x + cn2 P n k (x + 1)
def cP (m : Bool) (n x y : Nat) : Bool := decide (rt (x * x + y * y) * rt (x * x + y * y) = x * x + y * y) && (if m then decide (x + y + rt (x * x + y * y) = n) else decide (rt (x * x + y * y) ≤ n))
theorem cP_diag {m : Bool} {n x : Nat} (h1 : 1 ≤ x) : cP m n x x = false := by
  unfold cP
  rw [decide_eq_false (fun q => by have := sq_no2 x _ q; omega), Bool.false_and]
theorem m_L54 {K : Int32 → Option (Int32 × Mem)} {M : Mem} {x y : Nat} (hx : x ≤ 200) (hy : y ≤ 200) : ∀ (F e : Nat), e ≤ rt (x * x + y * y) → rt (x * x + y * y) - e < F → fX12_corners_L54 K (nI x) (nI y) M F (nI e) = K (nI (rt (x * x + y * y)))
  | 0, e, _, h => by omega
  | F + 1, e, h1, h2 => by
    have hr := rt_is (x * x + y * y)
    have hl := rt_le x y
    have b1 := sq_bd (show x < 1000 by omega)
    have b2 := sq_bd (show y < 1000 by omega)
    have b3 := sq_bd (show e < 1000 by omega)
    rw [fX12_corners_L54, pk_mul, pk_mul, pk_mul, nI_add]
    by_cases c : e = rt (x * x + y * y)
    · rw [if_pos (nI_le (by rw [c]; exact hr.1) (by omega)), ← c]
    · have := hr.2 e (by omega)
      rw [if_neg (nI_ge this (by omega))]
      dsimp only [bnd]
      rw [nI_1]
      exact m_L54 hx hy F (e + 1) (by omega) (by omega)
theorem nI_eqb {a b : Nat} (ha : a < 2 ^ 31) (hb : b < 2 ^ 31) : (nI a = nI b) ↔ a = b := ⟨fun h => by
  have := congrArg Int32.toInt h
  rw [nI_toInt ha, nI_toInt hb] at this; omega, fun h => by rw [h]⟩
theorem m_L44 {m : Bool} {z2 : Int32} (hz : z2 = if m then 1 else 0) {K : Int32 → Option (Int32 × Mem)} {M : Mem} {n x : Nat} (hn : n ≤ 200) (hx : x ≤ 200) (hx1 : 1 ≤ x) : ∀ (k F y c : Nat), y + k = n → k < F → fX12_corners_L44 K (nI n) z2 (nI x) M F (nI c) (nI y) = K (nI (c + cnt (cP m n x) k y))
  | k, 0, y, c, _, h => by omega
  | 0, F + 1, y, c, h1, h2 => by
    rw [fX12_corners_L44, if_pos (nI_le (by omega) (by omega))]; rfl
  | k + 1, F + 1, y, c, h1, h2 => by
    have hl := rt_le x y
    have b1 := sq_bd (show x < 1000 by omega)
    have b2 := sq_bd (show y < 1000 by omega)
    have b3 := sq_bd (show rt (x * x + y * y) < 1000 by omega)
    rw [fX12_corners_L44, if_neg (nI_ge (by omega) (by omega)), m_L54 hx (by omega) FU y (Nat.le_of_lt (rt_y hx1)) (FU_gt (by omega))]
    dsimp only [jn, bnd]
    rw [pk_mul, pk_mul, pk_mul, nI_add, nI_1, nI_add, nI_add]
    have ih := fun c' => m_L44 hz (K := K) (M := M) hn hx hx1 k F (y + 1) c' (by omega) (by omega)
    unfold cnt
    have e1 : (if cP m n x y = true then 1 else 0) = if rt (x * x + y * y) * rt (x * x + y * y) = x * x + y * y then (if (if m then x + y + rt (x * x + y * y) = n else rt (x * x + y * y) ≤ n) then 1 else 0) else 0 := by
      unfold cP
      cases m <;> by_cases q : rt (x * x + y * y) * rt (x * x + y * y) = x * x + y * y <;> simp [q]
    rw [e1]
    by_cases q : rt (x * x + y * y) * rt (x * x + y * y) = x * x + y * y
    · rw [if_pos (by rw [q]), if_pos q]
      cases m with
      | false =>
        rw [if_pos (by rw [hz]; rfl)]
        simp only [Bool.false_eq_true, if_false]
        by_cases r : rt (x * x + y * y) ≤ n
        · rw [if_neg (nI_nlt r (by omega)), if_pos r, nI_1, ih, Nat.add_assoc]
        · rw [if_pos (nI_lt (by omega) (by omega)), if_neg r, ih, Nat.zero_add]
      | true =>
        rw [if_neg (by rw [hz]; decide)]
        simp only [if_true]
        by_cases r : x + y + rt (x * x + y * y) = n
        · rw [if_pos (by rw [r]), if_pos r, nI_1, ih, Nat.add_assoc]
        · rw [if_neg (fun w => r ((nI_eqb (by omega) (by omega)).mp w)), if_neg r, ih, Nat.zero_add]
    · rw [if_neg (fun w => q ((nI_eqb (by omega) (by omega)).mp w)), if_neg q, ih, Nat.zero_add]
theorem m_L34 {m : Bool} {z2 : Int32} (hz : z2 = if m then 1 else 0) {M : Mem} {n : Nat} (hn : n ≤ 200) : ∀ (k F x c : Nat), x + k = n → 1 ≤ x → k < F → fX12_corners_L34 (nI n) z2 M F (nI c) (nI x) = some (nI (c + cn2 (cP m n) n k x), M)
  | k, 0, x, c, _, _, h => by omega
  | 0, F + 1, x, c, h1, h2, h3 => by
    rw [fX12_corners_L34, if_pos (nI_le (by omega) (by omega))]; rfl
  | k + 1, F + 1, x, c, h1, h2, h3 => by
    rw [fX12_corners_L34, if_neg (nI_ge (by omega) (by omega)), m_L44 hz hn (by omega) h2 (n - x) FU x c (by omega) (FU_gt (by omega)), nI_1, m_L34 hz hn k F (x + 1) _ (by omega) (by omega) (by omega)]
    rw [cn2, Nat.add_assoc]

theorem c_L40 {n s r : Nat} (hn : n ≤ 200) (hr : IsR s r) (hs : s < 2 ^ 31) (hr1 : r < 1000) : ∀ (F e : Nat), e ≤ r → 1000 - e < F → ∃ e', (∀ K, fX5_cornersUpTo_L40 K (nI n) (nI s) F (nI e) = K (nI e')) ∧ e' ≤ r ∧ (n < e' ∨ e' = r)
  | 0, e, _, h => by omega
  | F + 1, e, h1, h2 => by
    have b3 := sq_bd (show e < 1000 by omega)
    by_cases c : n < e
    · exact ⟨e, fun K => by rw [fX5_cornersUpTo_L40, if_pos (nI_lt c (by omega))], h1, Or.inl c⟩
    by_cases c2 : e = r
    · exact ⟨e, fun K => by rw [fX5_cornersUpTo_L40, pk_mul, if_neg (nI_nlt (by omega) (by omega)), if_pos (nI_le (by rw [c2]; exact hr.1) (by omega))], h1, Or.inr c2⟩
    · obtain ⟨e', k1, k2⟩ := c_L40 hn hr hs hr1 F (e + 1) (by omega) (by omega)
      exact ⟨e', fun K => by rw [fX5_cornersUpTo_L40, pk_mul, if_neg (nI_nlt (by omega) (by omega)), if_neg (nI_ge (hr.2 e (by omega)) (by omega)), nI_1, k1], k2⟩
theorem cP_zero {n x y : Nat} (h : n < rt (x * x + y * y)) : cP false n x y = false := by
  unfold cP
  simp only [Bool.false_eq_true, if_false]
  rw [decide_eq_false (Nat.not_le.mpr h), Bool.and_false]
theorem cnt_zero {n x : Nat} : ∀ k y, n < rt (x * x + y * y) → cnt (cP false n x) k y = 0
  | 0, y, h => rfl
  | k + 1, y, h => by
    rw [cnt, cP_zero h, cnt_zero k (y + 1) (rt_ge (by
      have h1 := (rt_is (x * x + y * y)).2 n h
      have := Nat.mul_le_mul (show y ≤ y + 1 by omega) (show y ≤ y + 1 by omega)
      omega))]; rfl
theorem c_40 {n x y e : Nat} (hn : n ≤ 200) (hx : x ≤ 200) (hy : y ≤ 200) (h : e ≤ rt (x * x + y * y)) : ∃ e', (∀ K, fX5_cornersUpTo_L40 K (nI n) (nI (x * x + y * y)) FU (nI e) = K (nI e')) ∧ e' ≤ rt (x * x + y * y) ∧ (n < e' ∨ e' = rt (x * x + y * y)) := by
  have hl := rt_le x y
  have b1 := sq_bd (show x < 1000 by omega)
  have b2 := sq_bd (show y < 1000 by omega)
  exact c_L40 hn (rt_is (x * x + y * y)) (by omega) (by omega) FU e h (FU_gt (by omega))
theorem rt_mono {x y : Nat} : rt (x * x + y * y) ≤ rt (x * x + (y + 1) * (y + 1)) := Decidable.byContradiction fun q => by
  have h4 := (rt_is (x * x + y * y)).2 _ (Nat.lt_of_not_le q)
  have h5 := (rt_is (x * x + (y + 1) * (y + 1))).1
  have := Nat.mul_le_mul (show y ≤ y + 1 by omega) (show y ≤ y + 1 by omega)
  omega
theorem c_L18 {K : Int32 → Option Int32} {n x : Nat} (hn : n ≤ 200) (hx : x ≤ 200) : ∀ (k F y c e : Nat), y + k = n → k < F → e ≤ rt (x * x + y * y) → fX5_cornersUpTo_L18 K (nI n) (nI x) F (nI c) (nI e) (nI y) = K (nI (c + cnt (cP false n x) k y))
  | k, 0, y, c, e, _, h, _ => by omega
  | 0, F + 1, y, c, e, h1, h2, h3 => by
    rw [fX5_cornersUpTo_L18, if_pos (nI_le (by omega) (by omega))]; rfl
  | k + 1, F + 1, y, c, e, h1, h2, h3 => by
    have hl := rt_le x y
    have b1 := sq_bd (show x < 1000 by omega)
    have b2 := sq_bd (show y < 1000 by omega)
    have b3 := sq_bd (show rt (x * x + y * y) < 1000 by omega)
    rw [fX5_cornersUpTo_L18, if_neg (nI_ge (by omega) (by omega))]
    by_cases c1 : n < e
    · rw [if_pos (nI_lt c1 (by omega)), cnt_zero _ _ (by omega), Nat.add_zero]
    rw [if_neg (nI_nlt (by omega) (by omega))]
    rw [pk_mul, pk_mul, nI_add, nI_1 y, nI_1 c]
    obtain ⟨e', k1, k2, k3⟩ := c_40 hn hx (by omega) h3
    rw [bnd, k1]
    dsimp only [jn]
    have hm : e' ≤ rt (x * x + (y + 1) * (y + 1)) := Nat.le_trans k2 rt_mono
    have ih := fun c' => c_L18 (K := K) hn hx k F (y + 1) c' e' (by omega) (by omega) hm
    rw [cnt]
    by_cases c2 : n < e'
    · rw [if_pos (nI_lt c2 (by omega)), ih, cP_zero (by omega)]
      simp only [Bool.false_eq_true, if_false, Nat.zero_add]
    have c3 : e' = rt (x * x + y * y) := by omega
    rw [if_neg (nI_nlt (by omega) (by omega)), pk_mul, ih, ih, c3]
    by_cases q : rt (x * x + y * y) * rt (x * x + y * y) = x * x + y * y
    · rw [if_pos (by rw [q]), show cP false n x y = true by unfold cP; rw [decide_eq_true q]; simp; omega, if_pos rfl, Nat.add_assoc]
    · rw [if_neg (fun w => q ((nI_eqb (by omega) (by omega)).mp w)), show cP false n x y = false by unfold cP; rw [decide_eq_false q, Bool.false_and]]
      simp only [Bool.false_eq_true, if_false, Nat.zero_add]
theorem c_L4 {n : Nat} (hn : n ≤ 200) : ∀ (k F x c : Nat), x + k = n → 1 ≤ x → k < F → fX5_cornersUpTo_L4 (nI n) F (nI c) (nI x) = some (nI (c + cn2 (cP false n) n k x))
  | k, 0, x, c, _, _, h => by omega
  | 0, F + 1, x, c, h1, h2, h3 => by
    rw [fX5_cornersUpTo_L4, if_pos (nI_le (by omega) (by omega))]; rfl
  | k + 1, F + 1, x, c, h1, h2, h3 => by
    rw [fX5_cornersUpTo_L4, if_neg (nI_ge (by omega) (by omega))]
    dsimp only [bnd]
    rw [nI_1, c_L18 hn (by omega) (n - (x + 1)) FU (x + 1) c (x + 1) (by omega) (FU_gt (by omega)) (Nat.le_of_lt (rt_y h2)), c_L4 hn k F (x + 1) _ (by omega) (by omega) (by omega), cn2, Nat.add_assoc, show n - x = (n - (x + 1)) + 1 by omega, cnt, cP_diag h2]
    simp only [Bool.false_eq_true, if_false, Nat.zero_add]
theorem rt_eq {s z : Nat} (h : z * z = s) : rt s = z := by
  have hr := rt_is s
  rcases Nat.lt_trichotomy (rt s) z with q | q | q
  · have h1 := Nat.mul_le_mul (show rt s ≤ z by omega) (show rt s ≤ z by omega)
    have h2 := Nat.mul_lt_mul_of_lt_of_le q (Nat.le_of_lt q) (by omega)
    have := hr.1
    omega
  · exact q
  · have := hr.2 z q; omega
theorem cnt_zero1 {n x : Nat} (hx : 1 ≤ x) : ∀ k y, n ≤ x + 2 * y → cnt (cP true n x) k y = 0
  | 0, y, h => rfl
  | k + 1, y, h => by
    have hy := rt_y (y := y) hx
    rw [cnt, cnt_zero1 hx k (y + 1) (by omega), show cP true n x y = false by
      unfold cP
      simp only [if_true]
      rw [decide_eq_false (show ¬ x + y + rt (x * x + y * y) = n by omega), Bool.and_false]]; rfl
theorem c_L13 {K : Int32 → Option Int32} {n x : Nat} (hn : n ≤ 200) (hx : x ≤ 200) (hx1 : 1 ≤ x) : ∀ (k F y c : Nat), y + k = n → k < F → fX5_cornersAround_L13 K (nI n) (nI x) F (nI c) (nI y) = K (nI (c + cnt (cP true n x) k y))
  | k, 0, y, c, _, h => by omega
  | k, F + 1, y, c, h1, h2 => by
    rw [fX5_cornersAround_L13, lmul 2 y, nI_add]
    by_cases c1 : n ≤ x + 2 * y
    · rw [if_pos (nI_le c1 (by omega)), cnt_zero1 hx1 _ _ c1]; rfl
    rw [if_neg (nI_ge (by omega) (by omega))]
    dsimp only [jn, bnd]
    cases k with
    | zero => omega
    | succ k =>
      have b1 := sq_bd (show x < 1000 by omega)
      have b2 := sq_bd (show y < 1000 by omega)
      have b3 := sq_bd (show n - x - y < 1000 by omega)
      have ih := fun c' => c_L13 (K := K) hn hx hx1 k F (y + 1) c' (by omega) (by omega)
      rw [pk_sub (by omega), pk_sub (by omega), pk_mul, pk_mul, pk_mul, nI_add, nI_1, nI_1, ih, ih, cnt]
      by_cases q : x * x + y * y = (n - x - y) * (n - x - y)
      · have hr := rt_eq q.symm
        rw [if_pos (by rw [q]), show cP true n x y = true by
          unfold cP; rw [hr, decide_eq_true q.symm]; simp; omega, if_pos rfl, Nat.add_assoc]
      · rw [if_neg (fun w => q ((nI_eqb (by omega) (by omega)).mp w)), show cP true n x y = false by
          unfold cP
          simp only [if_true]
          by_cases w : x + y + rt (x * x + y * y) = n
          · rw [decide_eq_false (fun v => q (by rw [← v, show n - x - y = rt (x * x + y * y) by omega])), Bool.false_and]
          · rw [decide_eq_false w, Bool.and_false]]
        simp only [Bool.false_eq_true, if_false, Nat.zero_add]
theorem c_A4 {n : Nat} (hn : n ≤ 200) : ∀ (k F x c : Nat), x + k = n → 1 ≤ x → k < F → fX5_cornersAround_L4 (nI n) F (nI c) (nI x) = some (nI (c + cn2 (cP true n) n k x))
  | k, 0, x, c, _, _, h => by omega
  | 0, F + 1, x, c, h1, h2, h3 => by
    rw [fX5_cornersAround_L4, if_pos (nI_le (by omega) (by omega))]; rfl
  | k + 1, F + 1, x, c, h1, h2, h3 => by
    rw [fX5_cornersAround_L4, if_neg (nI_ge (by omega) (by omega))]
    dsimp only [bnd]
    rw [nI_1, c_L13 hn (by omega) h2 (n - (x + 1)) FU (x + 1) c (by omega) (FU_gt (by omega)), c_A4 hn k F (x + 1) _ (by omega) (by omega) (by omega), cn2, Nat.add_assoc, show n - x = (n - (x + 1)) + 1 by omega, cnt, cP_diag h2]
    simp only [Bool.false_eq_true, if_false, Nat.zero_add]
theorem s_corners (p q : Int32) : SmP (fun _ => fX11_corners p q) (fX12_corners p q) := SmP.told fun Mc Mm h => by
  unfold fX11_corners fX12_corners
  dsimp only [bnd, jn]
  rw [isW_isIn]
  by_cases c1 : ¬ (1 ≤ p ∧ p ≤ 200)
  · rw [isIn_no c1, if_pos rfl, if_pos rfl]; exact ⟨_, rfl, rfl⟩
  have c1 := Decidable.not_not.mp c1
  rw [isIn_yes c1, if_neg one_ne, if_neg one_ne]
  obtain ⟨v, hv1, hv, rfl⟩ := in_of1 (m := 1) (n := 200) (by decide) (by decide) c1
  by_cases c2 : ¬ (0 ≤ q ∧ q ≤ 1)
  · rw [isIn_no c2, if_pos rfl, if_neg (fun e => c2 (by rw [e]; decide)), if_neg (fun e => c2 (by rw [e]; decide))]; exact ⟨_, rfl, rfl⟩
  have c2 := Decidable.not_not.mp c2
  rw [isIn_yes c2, if_neg one_ne]
  obtain ⟨j, hj, rfl⟩ := in_of (n := 1) (by decide) c2
  rcases (show j = 0 ∨ j = 1 by omega) with rfl | rfl
  · have k1 := c_L4 hv (v - 1) FU 1 0 (by omega) (by omega) (FU_gt (by omega))
    have k2 := m_L34 (m := false) (z2 := nI 0) rfl (M := mu Mm 198 0 0) hv (v - 1) FU 1 0 (by omega) (by omega) (FU_gt (by omega))
    refine ⟨_, ?_, k2⟩
    rw [if_pos (by decide)]
    unfold fX5_cornersUpTo
    exact (congrArg (fun o : Option Int32 => o.bind fun v2 => some v2) k1)
  · have k1 := c_A4 hv (v - 1) FU 1 0 (by omega) (by omega) (FU_gt (by omega))
    have k2 := m_L34 (m := true) (z2 := nI 1) rfl (M := mu Mm 198 0 0) hv (v - 1) FU 1 0 (by omega) (by omega) (FU_gt (by omega))
    refine ⟨_, ?_, k2⟩
    rw [if_neg (by decide), if_pos (by decide)]
    unfold fX5_cornersAround
    exact (congrArg (fun o : Option Int32 => o.bind fun v2 => some v2) k1)
