/-! ===== own: the chains end ===== -/
def kap (v : Nat) : Nat := fA (Ld v 10) 0 - fA (La v 10 0) 0
def okk (k : Nat) : Bool := Nat.ble (k / 999) 9 && (Nat.ble (k % 999 / 90) (k / 999) && Nat.beq k (999 * (k / 999) + 90 * (k % 999 / 90)))
def okv (v : Nat) : Bool := Nat.ble (fA (La v 10 0) 0) (fA (Ld v 10) 0) && okk (kap v)
theorem okv_all : ∀ w, w < 10 → ∀ x, x < w + 1 → ∀ y, y < x + 1 → ∀ z, z < y + 1 → okv (1000 * w + 100 * x + 10 * y + z) = true := by decide +kernel
theorem two_sort (g : Nat → Nat) (a b : Nat) : g a + g b = g (max a b) + g (min a b) := by
  rcases Nat.le_total a b with h | h
  · rw [Nat.max_eq_right h, Nat.min_eq_left h, Nat.add_comm]
  · rw [Nat.max_eq_left h, Nat.min_eq_right h]
theorem four_sort (a b c d : Nat) (ha : a < 10) (hb : b < 10) (hc : c < 10) (hd : d < 10) : ∃ w x y z, z ≤ y ∧ y ≤ x ∧ x ≤ w ∧ w < 10 ∧ ∀ g : Nat → Nat, g a + g b + g c + g d = g w + g x + g y + g z := by
  refine ⟨max (max a b) (max c d), max (max (min a b) (min c d)) (min (max a b) (max c d)), min (max (min a b) (min c d)) (min (max a b) (max c d)), min (min a b) (min c d), by omega, by omega, by omega, by omega, fun g => ?_⟩
  have h1 := two_sort g a b
  have h2 := two_sort g c d
  have h3 := two_sort g (max a b) (max c d)
  have h4 := two_sort g (min a b) (min c d)
  have h5 := two_sort g (max (min a b) (min c d)) (min (max a b) (max c d))
  generalize g (max (max a b) (max c d)) = q1 at *
  generalize g (max (max (min a b) (min c d)) (min (max a b) (max c d))) = q2 at *
  generalize g (min (max (min a b) (min c d)) (min (max a b) (max c d))) = q3 at *
  generalize g (min (min a b) (min c d)) = q4 at *
  generalize g (max (min a b) (min c d)) = q5 at *
  generalize g (min (max a b) (max c d)) = q6 at *
  generalize g (max a b) = q7 at *
  generalize g (max c d) = q8 at *
  generalize g (min a b) = q9 at *
  generalize g (min c d) = q10 at *
  omega
theorem kcn4 (v z : Nat) : kcn 4 v z = (if v % 10 = z then 1 else 0) + (if v / 10 % 10 = z then 1 else 0) + (if v / 10 / 10 % 10 = z then 1 else 0) + (if v / 10 / 10 / 10 % 10 = z then 1 else 0) := by
  rw [kcn, kcn, kcn, kcn, kcn]; omega
theorem Ld_congr {v w : Nat} (h : ∀ z, kcn 4 v z = kcn 4 w z) : ∀ n, Ld v n = Ld w n
  | 0 => rfl
  | n + 1 => by rw [Ld, Ld, h, Ld_congr h n]
theorem La_congr {v w : Nat} (h : ∀ z, kcn 4 v z = kcn 4 w z) : ∀ k n, La v k n = La w k n
  | 0, _ => rfl
  | k + 1, n => by rw [La, La, h, La_congr h k]
theorem okv_of {v : Nat} : okv v = true := by
  obtain ⟨w, x, y, z, h1, h2, h3, h4, hg⟩ := four_sort (v % 10) (v / 10 % 10) (v / 10 / 10 % 10) (v / 10 / 10 / 10 % 10) (by omega) (by omega) (by omega) (by omega)
  have hk : ∀ t, kcn 4 v t = kcn 4 (1000 * w + 100 * x + 10 * y + z) t := fun t => by
    rw [kcn4, kcn4, hg (fun d => if d = t then 1 else 0), show (1000 * w + 100 * x + 10 * y + z) % 10 = z by omega, show (1000 * w + 100 * x + 10 * y + z) / 10 % 10 = y by omega, show (1000 * w + 100 * x + 10 * y + z) / 10 / 10 % 10 = x by omega, show (1000 * w + 100 * x + 10 * y + z) / 10 / 10 / 10 % 10 = w by omega]
    omega
  have := okv_all w h4 x (by omega) y (by omega) z (by omega)
  unfold okv kap at this ⊢
  rw [Ld_congr hk, La_congr hk]
  exact this
def gok : Nat → Nat → Bool
  | 0, v => Nat.beq v 6174 || Nat.beq v 0
  | f + 1, v => (Nat.beq v 6174 || Nat.beq v 0) || gok f (kap v)
theorem gok_all : ∀ a, a < 10 → ∀ b, b < a + 1 → gok 7 (999 * a + 90 * b) = true := by decide +kernel
theorem kap_of (v : Nat) : fA (La v 10 0) 0 ≤ fA (Ld v 10) 0 ∧ kap v < 10000 ∧ gok 7 (kap v) = true := by
  have h := okv_of (v := v)
  unfold okv okk at h
  simp only [Bool.and_eq_true] at h
  obtain ⟨h1, h2, h3, h4⟩ := h
  have h2 := Nat.le_of_ble_eq_true h2
  have h3 := Nat.le_of_ble_eq_true h3
  have h4 := Nat.eq_of_beq_eq_true h4
  refine ⟨Nat.le_of_ble_eq_true h1, by omega, ?_⟩
  have := gok_all (kap v / 999) (by omega) (kap v % 999 / 90) (by omega)
  rw [← h4] at this
  exact this
