/-! ===== apart ===== -/
def apT : List (Nat × Nat) := [(0, 0), (0, 0), (3, 2), (2, 1), (0, 0), (9, 4), (5, 2), (8, 3), (3, 1), (0, 0), (19, 6), (10, 3), (7, 2), (649, 180), (15, 4), (4, 1), (0, 0), (33, 8), (17, 4), (170, 39), (9, 2), (55, 12), (197, 42), (24, 5), (5, 1), (0, 0), (51, 10), (26, 5), (127, 24), (9801, 1820), (11, 2), (1520, 273), (17, 3), (23, 4), (35, 6), (6, 1), (0, 0), (73, 12), (37, 6), (25, 4), (19, 3), (2049, 320), (13, 2), (3482, 531), (199, 30), (161, 24), (24335, 3588), (48, 7), (7, 1), (0, 0), (99, 14)]
theorem apT_ok : ∀ d, d < 51 → 2 ≤ d → (∃ k, k < 8 ∧ 2 ≤ k ∧ k * k = d) ∨ ((apT.getD d (0, 0)).1 * (apT.getD d (0, 0)).1 = 1 + d * (apT.getD d (0, 0)).2 * (apT.getD d (0, 0)).2 ∧ 1 ≤ (apT.getD d (0, 0)).2 ∧ (apT.getD d (0, 0)).2 ≤ 3588) := by decide +kernel
theorem apT_sq : ∀ d, d < 51 → 2 ≤ d → ∀ k, k < 8 → (apT.getD d (0, 0)).2 = 0 ∨ ¬ k * k = d := by decide +kernel
def aS (d y : Nat) : Nat := 1 + d * y * y
theorem aS_bd {d y : Nat} (hd : d ≤ 50) (hy : y ≤ 3588) : aS d y ≤ 643687201 := by
  unfold aS
  have := Nat.mul_le_mul (Nat.mul_le_mul hd hy) hy
  omega
theorem aR_bd {s : Nat} (h : s ≤ 643687201) : rt s ≤ 25372 := Decidable.byContradiction fun q => by
  have := (rt_is s).2 25372 (by omega)
  omega
theorem aX_bd {x : Nat} (h : x ≤ 25372) : x * x ≤ 643738384 := Nat.mul_le_mul h h
theorem aR_mono {d y y' : Nat} (h : y ≤ y') : rt (aS d y) ≤ rt (aS d y') := Decidable.byContradiction fun q => by
  have h4 := (rt_is (aS d y)).2 _ (Nat.lt_of_not_le q)
  have h5 := (rt_is (aS d y')).1
  have : aS d y ≤ aS d y' := by
    unfold aS
    have := Nat.mul_le_mul (Nat.mul_le_mul (Nat.le_refl d) h) h
    omega
  omega
theorem ap_in {S : Nat} (hS : S ≤ 643687201) : ∀ (F x : Nat), x ≤ rt S → rt S - x < F → ∀ K, fX5_leastApart_L20 K (nI S) F (nI x) = K (nI (rt S))
  | 0, x, _, h => by omega
  | F + 1, x, h1, h2 => fun K => by
    have hb := aR_bd hS
    have hr := rt_is S
    have c : ¬ (30000 : Int32) ≤ nI x := nI_ge (show x < 30000 by omega) (by decide)
    have xb := aX_bd (show x ≤ 25372 by omega)
    rw [fX5_leastApart_L20, if_neg c, pk_mul]
    by_cases e : x = rt S
    · rw [if_pos (nI_le (by rw [e]; exact hr.1) (by omega)), e]
    · have := hr.2 x (by omega)
      rw [if_neg (nI_ge this (by omega)), nI_1]
      exact ap_in hS F (x + 1) (by omega) (by omega) K
theorem aS_c (d y : Nat) : (1 : Int32) + nI d * nI y * nI y = nI (aS d y) := by rw [pk_mul, pk_mul, ladd 1]; rfl
theorem aS_m (d y : Nat) : nI d * nI y * nI y + (1 : Int32) = nI (aS d y) := by rw [pk_mul, pk_mul, nI_1, Nat.add_comm]; rfl
theorem ap_step {d y x F : Nat} {K : Int32 → Int32 → Option Int32} (hd : d ≤ 50) (hy : y ≤ 3588) (hx : x ≤ rt (aS d y)) : fX5_leastApart_L4 K (nI d) (F + 1) (nI x) (nI y) = if nI (rt (aS d y) * rt (aS d y)) = nI (aS d y) then K (nI (rt (aS d y))) (nI y) else fX5_leastApart_L4 K (nI d) F (nI (rt (aS d y))) (nI (y + 1)) := by
  have c : ¬ (3588 : Int32) < nI y := nI_nlt (show y ≤ 3588 from hy) (by decide)
  have hb := aR_bd (aS_bd hd hy)
  rw [fX5_leastApart_L4, if_neg c, aS_c, bnd_eq, ap_in (aS_bd hd hy) FU x hx (FU_gt (by omega)), pk_mul, nI_1]
theorem ap_out {d y0 : Nat} (hd : d ≤ 50) (hy0 : y0 ≤ 3588) (h0 : rt (aS d y0) * rt (aS d y0) = aS d y0) (hn : ∀ y, 1 ≤ y → y < y0 → ¬ rt (aS d y) * rt (aS d y) = aS d y) : ∀ (k F x y : Nat), y + k = y0 → k < F → 1 ≤ y → x ≤ rt (aS d y) → ∀ K, fX5_leastApart_L4 K (nI d) F (nI x) (nI y) = K (nI (rt (aS d y0))) (nI y0)
  | k, 0, x, y, _, h, _, _ => by omega
  | 0, F + 1, x, y, h1, h2, h3, h4 => fun K => by
    have e : y = y0 := by omega
    subst e
    rw [ap_step hd hy0 h4, h0, if_pos rfl]
  | k + 1, F + 1, x, y, h1, h2, h3, h4 => fun K => by
    have hb := aS_bd hd (show y ≤ 3588 by omega)
    have xb := aX_bd (aR_bd hb)
    rw [ap_step hd (show y ≤ 3588 by omega) h4, if_neg (fun q => hn y h3 (by omega) ((nI_eqb (by omega) (by omega)).mp q))]
    exact ap_out hd hy0 h0 hn k F _ (y + 1) (by omega) (by omega) (by omega) (aR_mono (by omega)) K
theorem ap_none {d : Nat} (hd : d ≤ 50) (hn : ∀ y, 1 ≤ y → y ≤ 3588 → ¬ rt (aS d y) * rt (aS d y) = aS d y) : ∀ (k F x y : Nat), y + k = 3589 → k < F → 1 ≤ y → x ≤ rt (aS d y) → ∀ K, fX5_leastApart_L4 K (nI d) F (nI x) (nI y) = some (-1)
  | k, 0, x, y, _, h, _, _ => by omega
  | 0, F + 1, x, y, h1, h2, h3, h4 => fun K => by
    have c : (3588 : Int32) < nI y := nI_lt (show 3588 < y by omega) (by omega)
    rw [fX5_leastApart_L4, if_pos c]
  | k + 1, F + 1, x, y, h1, h2, h3, h4 => fun K => by
    have hb := aS_bd hd (show y ≤ 3588 by omega)
    have xb := aX_bd (aR_bd hb)
    rw [ap_step hd (show y ≤ 3588 by omega) h4, if_neg (fun q => hn y h3 (by omega) ((nI_eqb (by omega) (by omega)).mp q))]
    exact ap_none hd hn k F _ (y + 1) (by omega) (by omega) (by omega) (aR_mono (by omega)) K
theorem ap_ref {d y0 : Nat} {M : Mem} (hd : d ≤ 50) (hy0 : y0 ≤ 3588) (h0 : rt (aS d y0) * rt (aS d y0) = aS d y0) (hn : ∀ y, 1 ≤ y → y < y0 → ¬ rt (aS d y) * rt (aS d y) = aS d y) : ∀ (F x y : Nat), 1 ≤ y → y ≤ y0 → x ≤ rt (aS d y) → (rt (aS d y0) - x) + (y0 - y) < F → ∀ K, fX12_apart_L57 K (nI d) M F (nI x) (nI y) = K (nI (rt (aS d y0))) (nI y0)
  | 0, x, y, _, _, _, h => by omega
  | F + 1, x, y, h1, h2, h3, h4 => fun K => by
    have hb := aS_bd hd (show y ≤ 3588 by omega)
    have hrb := aR_bd hb
    have xb := aX_bd (show x ≤ 25372 by omega)
    have hr := rt_is (aS d y)
    have hm := aR_mono (d := d) h2
    rw [fX12_apart_L57, aS_m, pk_mul]
    by_cases e : x = rt (aS d y)
    · by_cases e2 : y = y0
      · subst e2
        rw [if_pos (by rw [e, h0]), e]
      · have := hn y h1 (by omega)
        rw [← e] at this
        rw [if_neg (fun q => this ((nI_eqb (by omega) (by omega)).mp q)), if_pos (nI_le (by rw [e]; exact hr.1) (by omega)), bnd_eq, nI_1]
        exact ap_ref hd hy0 h0 hn F x (y + 1) (by omega) (by omega) (by rw [e]; exact aR_mono (by omega)) (by omega) K
    · have := hr.2 x (by omega)
      rw [if_neg (fun q => by have := (nI_eqb (by omega) (by omega)).mp q; omega), if_neg (nI_ge this (by omega)), bnd_eq, nI_1]
      exact ap_ref hd hy0 h0 hn F (x + 1) y h1 h2 (by omega) (by omega) K
theorem ap_sq {M : Mem} {d k : Nat} {K : Option (Int32 × Mem)} (hk : k < 8) (e : k * k = d) : ∀ (F j : Nat), j ≤ k → k - j < F → fX12_apart_L30 K (nI d) M F (nI j) = some (-1, M)
  | 0, j, _, h => by omega
  | F + 1, j, h1, h2 => by
    have jb : j * j ≤ k * k := Nat.mul_le_mul h1 h1
    have kb := Nat.mul_le_mul (show k ≤ 7 by omega) (show k ≤ 7 by omega)
    rw [fX12_apart_L30, pk_mul, if_neg (nI_nlt (by omega) (by omega))]
    by_cases q : j = k
    · subst q; rw [if_pos (by rw [e])]
    · have : j * j < k * k := Nat.mul_lt_mul_of_lt_of_le (by omega) (by omega) (by omega)
      rw [if_neg (fun z => by have := (nI_eqb (by omega) (by omega)).mp z; omega), nI_1]
      exact ap_sq hk e F (j + 1) (by omega) (by omega)
theorem ap_nsq {M : Mem} {d : Nat} {K : Option (Int32 × Mem)} (hd : d ≤ 50) (h : ∀ k, k < 8 → ¬ k * k = d) : ∀ (F j : Nat), j ≤ 8 → 8 - j < F → fX12_apart_L30 K (nI d) M F (nI j) = K
  | 0, j, _, h => by omega
  | F + 1, j, h1, h2 => by
    have jb : j * j ≤ 8 * 8 := Nat.mul_le_mul h1 h1
    rw [fX12_apart_L30, pk_mul]
    by_cases c : d < j * j
    · rw [if_pos (nI_lt c (by omega))]
    · rw [if_neg (nI_nlt (by omega) (by omega))]
      have hj : j < 8 := Decidable.byContradiction fun q => by
        have : j = 8 := by omega
        subst this; omega
      rw [if_neg (fun z => h j hj ((nI_eqb (by omega) (by omega)).mp z)), nI_1]
      exact ap_nsq hd h F (j + 1) (by omega) (by omega)
theorem s_apart (p q : Int32) : SmP (fun _ => fX11_apart p q) (fX12_apart p q) := SmP.told fun Mc Mm hA => by
  unfold fX11_apart fX12_apart
  rw [isW_isIn, bnd_eq]
  by_cases c1 : ¬ (2 ≤ p ∧ p ≤ 50)
  · rw [isIn_no c1, if_pos rfl, if_pos rfl]; exact ⟨_, rfl, rfl⟩
  have c1 := Decidable.not_not.mp c1
  rw [isIn_yes c1, if_neg one_ne, if_neg one_ne]
  by_cases c2 : ¬ (0 ≤ q ∧ q ≤ 1)
  · rw [isIn_no c2, if_pos rfl, if_pos rfl]; exact ⟨_, rfl, rfl⟩
  have c2 := Decidable.not_not.mp c2
  rw [isIn_yes c2, if_neg one_ne, if_neg one_ne, jn_eq]
  obtain ⟨d, hd2, hd, rfl⟩ := in_of1 (m := 2) (n := 50) (by decide) (by decide) c1
  obtain ⟨j, hj, rfl⟩ := in_of (n := 1) (by decide) c2
  have s1 : 2 ≤ rt (aS d 1) := Decidable.byContradiction fun q => by
    have h1 := (rt_is (aS d 1)).1
    have := Nat.mul_le_mul (show rt (aS d 1) ≤ 1 by omega) (show rt (aS d 1) ≤ 1 by omega)
    unfold aS at *
    omega
  rcases apT_ok d (by omega) hd2 with ⟨k, hk, hk2, e⟩ | ⟨t1, t2, t3⟩
  · have hn : ∀ y, 1 ≤ y → y ≤ 3588 → ¬ rt (aS d y) * rt (aS d y) = aS d y := fun y h1 h2 q => by
      have e2 : aS d y = 1 + (k * y) * (k * y) := by
        unfold aS
        rw [← e, Nat.mul_assoc, Nat.mul_assoc, Nat.mul_assoc, Nat.mul_left_comm y k y]
      obtain ⟨z, hz⟩ : ∃ z, k * y = z := ⟨_, rfl⟩
      have hz1 : 1 ≤ z := by
        have := Nat.mul_le_mul (show 1 ≤ k by omega) h1
        omega
      rw [hz] at e2
      rw [e2] at q
      obtain ⟨r, hr⟩ : ∃ r, rt (1 + z * z) = r := ⟨_, rfl⟩
      rw [hr] at q
      rcases Nat.lt_or_ge z r with w | w
      · have := Nat.mul_le_mul (show z + 1 ≤ r from w) (show z + 1 ≤ r from w)
        rw [Nat.add_mul, Nat.mul_add] at this
        omega
      · have := Nat.mul_le_mul w w
        omega
    have n1 := fun K => ap_none hd hn 3588 FU 2 1 (by omega) (FU_gt (by omega)) (by omega) s1 K
    have cl : ∀ t, fX5_leastApart (nI d) t = some (-1) := fun t => by
      unfold fX5_leastApart
      exact n1 _
    rw [show (2 : Int32) = nI 2 from rfl, ap_sq hk e FU 2 hk2 (FU_gt (by omega))]
    simp only [cl]
    refine ⟨-1, ?_, rfl⟩
    split <;> rfl
  · have hsq : ∀ k, k < 8 → ¬ k * k = d := fun k hk => (apT_sq d (by omega) hd2 k hk).resolve_left (by omega)
    obtain ⟨y0, ⟨y1, y2⟩, y3⟩ := pk_least (fun y => 1 ≤ y ∧ rt (aS d y) * rt (aS d y) = aS d y) ⟨(apT.getD d (0, 0)).2, t2, by
      have hr := rt_is (aS d (apT.getD d (0, 0)).2)
      have e : aS d (apT.getD d (0, 0)).2 = (apT.getD d (0, 0)).1 * (apT.getD d (0, 0)).1 := t1.symm
      rcases Nat.lt_or_ge (apT.getD d (0, 0)).1 (rt (aS d (apT.getD d (0, 0)).2)) with w | w
      · have := hr.2 _ w; omega
      · have := Nat.mul_le_mul w w
        have := hr.1
        omega⟩
    have hy0 : y0 ≤ 3588 := Decidable.byContradiction fun q => by
      refine y3 (apT.getD d (0, 0)).2 (by omega) ⟨t2, ?_⟩
      have hr := rt_is (aS d (apT.getD d (0, 0)).2)
      have e : aS d (apT.getD d (0, 0)).2 = (apT.getD d (0, 0)).1 * (apT.getD d (0, 0)).1 := t1.symm
      rcases Nat.lt_or_ge (apT.getD d (0, 0)).1 (rt (aS d (apT.getD d (0, 0)).2)) with w | w
      · have := hr.2 _ w; omega
      · have := Nat.mul_le_mul w w
        have := hr.1
        omega
    have hn : ∀ y, 1 ≤ y → y < y0 → ¬ rt (aS d y) * rt (aS d y) = aS d y := fun y a b c => y3 y b ⟨a, c⟩
    have hrb := aR_bd (aS_bd hd hy0)
    have n1 := ap_out hd hy0 y2 hn (y0 - 1) FU 2 1 (by omega) (FU_gt (by omega)) (by omega) s1
    have n2 := ap_ref (M := mu Mm 198 0 0) hd hy0 y2 hn FU 1 1 (by omega) y1 (by omega) (FU_gt (by omega))
    have cl : ∀ t, fX5_leastApart (nI d) t = if t = 0 then some (nI y0) else some (nI (rt (aS d y0))) := fun t => by
      unfold fX5_leastApart
      exact n1 _
    rw [show (2 : Int32) = nI 2 from rfl, ap_nsq hd hsq FU 2 (by omega) (FU_gt (by omega))]
    rcases (show j = 0 ∨ j = 1 by omega) with rfl | rfl
    · refine ⟨nI (rt (aS d y0)), ?_, ?_⟩
      · rw [if_pos (show nI 0 = 0 from rfl)]
        simp only [cl]
        rw [if_neg one_ne]; rfl
      · rw [show (1 : Int32) = nI 1 from rfl, n2, if_pos (show nI 0 = 0 from rfl)]
    · refine ⟨nI y0, ?_, ?_⟩
      · rw [if_neg (show ¬ nI 1 = 0 from by decide)]
        simp only [cl]
        rfl
      · rw [show (1 : Int32) = nI 1 from rfl, n2, if_neg (show ¬ nI 1 = 0 from by decide)]
