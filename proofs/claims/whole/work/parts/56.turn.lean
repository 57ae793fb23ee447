/-! ===== turning ===== -/
def oI (a : Int) : Int32 := Int32.ofInt a
theorem oI_add (a b : Int) : oI a + oI b = oI (a + b) := (Int32.ofInt_add a b).symm
theorem oI_inj {a b : Int} (ha : -2000000 ≤ a ∧ a ≤ 2000000) (hb : -2000000 ≤ b ∧ b ≤ 2000000) : oI a = oI b ↔ a = b := by
  refine ⟨fun e => ?_, fun e => by rw [e]⟩
  have := congrArg Int32.toInt e
  unfold oI at this
  rw [Int32.toInt_ofInt_of_le (by omega) (by omega), Int32.toInt_ofInt_of_le (by omega) (by omega)] at this
  exact this
theorem oI_pack (x y : Int) : (100 : Int32) * oI y + oI x = oI (100 * y + x) := by
  unfold oI
  rw [Int32.ofInt_add, Int32.ofInt_mul]; rfl
def tX (d : Nat) : Int := if d = 0 then 1 else if d = 2 then -1 else 0
def tY (d : Nat) : Int := if d = 1 then 1 else if d = 3 then -1 else 0
theorem t_ox : ∀ d, d < 4 → (∀ (α : Type) (f : Int32 → α), (jn f fun J => if nI d = 0 then J 1 else if nI d = 2 then J (-1) else J 0) = f (oI (tX d))) ∧ ∀ (α : Type) (f : Int32 → α), (jn f fun J => if nI d = 1 then J 1 else if nI d = 3 then J (-1) else J 0) = f (oI (tY d)) := fun d hd => by
  rcases (show d = 0 ∨ d = 1 ∨ d = 2 ∨ d = 3 by omega) with rfl | rfl | rfl | rfl <;> exact ⟨fun α J => rfl, fun α J => rfl⟩
theorem t_rot : ∀ d, d < 4 → ((-(1 : Int32)) * oI (tY d) = oI (tX ((d + 1) % 4)) ∧ (1 : Int32) * oI (tX d) = oI (tY ((d + 1) % 4)) ∧ jrem (nI d + 1) 4 = nI ((d + 1) % 4)) ∧ ((-(-1 : Int32)) * oI (tY d) = oI (tX ((d + 3) % 4)) ∧ (-1 : Int32) * oI (tX d) = oI (tY ((d + 3) % 4)) ∧ jrem (nI d + 3) 4 = nI ((d + 3) % 4)) := by decide +kernel
theorem t_b (d : Nat) : (-1 ≤ tX d ∧ tX d ≤ 1) ∧ (-1 ≤ tY d ∧ tY d ≤ 1) := by
  unfold tX tY
  refine ⟨?_, ?_⟩ <;> split <;> (try split) <;> omega
/-- the class's row of squares: looked through from i on -/
theorem t_find {K : Option (Int32 × Mem)} {M : Mem} {u : Nat} {z : Int32} (hu : u ≤ 17) : ∀ (k F i : Nat), i + k = u → k < F → ((∃ j, i ≤ j ∧ j < u ∧ M 51 j = z) → fX10_stand_L11 K (nI u) z M F (nI i) = some (nI u, M)) ∧ ((¬ ∃ j, i ≤ j ∧ j < u ∧ M 51 j = z) → fX10_stand_L11 K (nI u) z M F (nI i) = K)
  | k, 0, i, _, h => by omega
  | 0, F + 1, i, h1, h2 => by
    rw [fX10_stand_L11, if_pos (nI_le (by omega) (by omega))]
    refine ⟨?_, fun _ => rfl⟩
    rintro ⟨j, a, b, -⟩; omega
  | k + 1, F + 1, i, h1, h2 => by
    rw [fX10_stand_L11, if_neg (nI_ge (by omega) (by omega)), rd_nI (by omega), Option.bind_some]
    by_cases c : M 51 i = z
    · rw [if_pos c]
      exact ⟨fun _ => rfl, fun q => absurd ⟨i, by omega, by omega, c⟩ q⟩
    · rw [if_neg c, nI_1]
      obtain ⟨i1, i2⟩ := t_find (K := K) hu k F (i + 1) (by omega) (by omega)
      refine ⟨?_, fun q => i2 ?_⟩
      · rintro ⟨j, a, b, e⟩
        have : j ≠ i := fun q => c (q ▸ e)
        exact i1 ⟨j, by omega, b, e⟩
      · rintro ⟨j, a, b, e⟩
        exact q ⟨j, by omega, b, e⟩
/-- the reference's path: whether the newest square was stood on before -/
theorem t_seen {M : Mem} {s : Nat} (hs : s ≤ 16) : ∀ (k F i : Nat) (b : Int32), i + k = s → k < F → ((∃ j, i ≤ j ∧ j < s ∧ M 226 j = M 226 s ∧ M 227 j = M 227 s) → ∀ K, fX12_turning_L190 K (nI s) M F b (nI i) = K 0) ∧ ((¬ ∃ j, i ≤ j ∧ j < s ∧ M 226 j = M 226 s ∧ M 227 j = M 227 s) → ∀ K, fX12_turning_L190 K (nI s) M F b (nI i) = K b)
  | k, 0, i, b, _, h => by omega
  | 0, F + 1, i, b, h1, h2 => by
    refine ⟨?_, fun _ K => ?_⟩
    · rintro ⟨j, a, b, -⟩; omega
    · rw [fX12_turning_L190, if_pos (nI_le (by omega) (by omega))]
  | k + 1, F + 1, i, b, h1, h2 => by
    have st : ∀ K, fX12_turning_L190 K (nI s) M (F + 1) b (nI i) = if M 226 i = M 226 s then (if M 227 i = M 227 s then fX12_turning_L190 K (nI s) M F 0 (nI (i + 1)) else fX12_turning_L190 K (nI s) M F b (nI (i + 1))) else fX12_turning_L190 K (nI s) M F b (nI (i + 1)) := fun K => by
      rw [fX12_turning_L190, if_neg (nI_ge (by omega) (by omega)), rd_nI (by omega), rd_nI (by omega), rd_nI (by omega), rd_nI (by omega)]
      simp only [Option.bind_some, jn, nI_1]
    by_cases c : M 226 i = M 226 s ∧ M 227 i = M 227 s
    · obtain ⟨i1, i2⟩ := t_seen hs k F (i + 1) 0 (by omega) (by omega)
      refine ⟨fun _ K => ?_, fun q => absurd ⟨i, by omega, by omega, c⟩ q⟩
      rw [st, if_pos c.1, if_pos c.2]
      by_cases q : ∃ j, i + 1 ≤ j ∧ j < s ∧ M 226 j = M 226 s ∧ M 227 j = M 227 s
      · exact i1 q K
      · exact i2 q K
    · obtain ⟨i1, i2⟩ := t_seen hs k F (i + 1) b (by omega) (by omega)
      have e : ∀ K, fX12_turning_L190 K (nI s) M (F + 1) b (nI i) = fX12_turning_L190 K (nI s) M F b (nI (i + 1)) := fun K => by
        rw [st]
        by_cases q : M 226 i = M 226 s
        · rw [if_pos q, if_neg (fun q2 => c ⟨q, q2⟩)]
        · rw [if_neg q]
      refine ⟨?_, fun q K => ?_⟩
      · rintro ⟨j, a, b, q⟩ K
        have : j ≠ i := fun z => c (z ▸ q)
        rw [e, i1 ⟨j, by omega, b, q⟩]
      · rw [e, i2]
        rintro ⟨j, a, b, q'⟩
        exact q ⟨j, by omega, b, q'⟩
def TSt (n : Nat) (r : Nat → Nat) (s u : Nat) (px py : Nat → Int) (Mc Mm : Mem) : Prop :=
  (Mc 43 0 = nI n ∧ ∀ i, i < n → Mc 44 i = nI (r i)) ∧ (Mm 198 48 = nI n ∧ ∀ i, i < n → Mm 225 i = nI (r i)) ∧ (∀ j, j < s → Mm 226 j = oI (px j) ∧ Mm 227 j = oI (py j)) ∧ (∀ j, j < s → (-(j : Int) ≤ px j ∧ px j ≤ j) ∧ (-(j : Int) ≤ py j ∧ py j ≤ j)) ∧ u ≤ s ∧ (∀ i, i < u → ∃ j, j < s ∧ Mc 51 i = oI (100 * py j + px j)) ∧ ∀ j, j < s → ∃ i, i < u ∧ Mc 51 i = oI (100 * py j + px j)
theorem t_step {n : Nat} {r : Nat → Nat} {s u d : Nat} {px py : Nat → Int} {Mc Mm : Mem} (hd : d < 4) (hs1 : 1 ≤ s) (hs : s ≤ 16) (h : TSt n r s u px py Mc Mm) :
    ∃ u' Mc' px' py', TSt n r (s + 1) u' px' py' Mc' (mu (mu Mm 226 s (oI (px (s - 1) + tX d))) 227 s (oI (py (s - 1) + tY d))) ∧ px' s = px (s - 1) + tX d ∧ py' s = py (s - 1) + tY d ∧
      fX10_stand (nI u) (oI (px (s - 1) + tX d)) (oI (py (s - 1) + tY d)) Mc = some (nI u', Mc') ∧
      ∃ c : Int32, (∀ K, fX12_turning_L190 K (nI s) (mu (mu Mm 226 s (oI (px (s - 1) + tX d))) 227 s (oI (py (s - 1) + tY d))) FU 1 0 = K c) ∧ ∀ (α : Type) (f : Int32 → α), (jn f fun J => if c = 0 then J (nI u) else bnd (nI u + 1) fun x => J x) = f (nI u') := by
  obtain ⟨⟨a1, a2⟩, ⟨b1, b2⟩, hp, hb, hu, hA, hB⟩ := h
  obtain ⟨x, hx⟩ : ∃ x, px (s - 1) + tX d = x := ⟨_, rfl⟩
  obtain ⟨y, hy⟩ : ∃ y, py (s - 1) + tY d = y := ⟨_, rfl⟩
  rw [hx, hy]
  have bd := t_b d
  have bs := hb (s - 1) (by omega)
  have hxb : -(s : Int) ≤ x ∧ x ≤ s := by omega
  have hyb : -(s : Int) ≤ y ∧ y ≤ s := by omega
  have inj : ∀ j, j < s → (oI (100 * py j + px j) = oI (100 * y + x) ↔ px j = x ∧ py j = y) := fun j hj => by
    have := hb j hj
    rw [oI_inj (by omega) (by omega)]
    omega
  have e226 : ∀ j, j ≤ s → mu (mu Mm 226 s (oI x)) 227 s (oI y) 226 j = if j = s then oI x else Mm 226 j := fun j hj => by
    rw [mu_o (by omega)]
    by_cases q : j = s
    · subst q; rw [mu_s, if_pos rfl]
    · rw [mu_i q, if_neg q]
  have e227 : ∀ j, j ≤ s → mu (mu Mm 226 s (oI x)) 227 s (oI y) 227 j = if j = s then oI y else Mm 227 j := fun j hj => by
    by_cases q : j = s
    · subst q; rw [mu_s, if_pos rfl]
    · rw [mu_i q, mu_o (by omega), if_neg q]
  have same : (∃ j, 0 ≤ j ∧ j < s ∧ mu (mu Mm 226 s (oI x)) 227 s (oI y) 226 j = mu (mu Mm 226 s (oI x)) 227 s (oI y) 226 s ∧ mu (mu Mm 226 s (oI x)) 227 s (oI y) 227 j = mu (mu Mm 226 s (oI x)) 227 s (oI y) 227 s) ↔ ∃ i, 0 ≤ i ∧ i < u ∧ Mc 51 i = oI (100 * y + x) := by
    constructor
    · rintro ⟨j, -, j1, j2, j3⟩
      rw [e226 j (by omega), e226 s (by omega), if_neg (by omega), if_pos rfl, (hp j j1).1] at j2
      rw [e227 j (by omega), e227 s (by omega), if_neg (by omega), if_pos rfl, (hp j j1).2] at j3
      have := hb j j1
      rw [oI_inj (by omega) (by omega)] at j2 j3
      obtain ⟨i, i1, i2⟩ := hB j j1
      exact ⟨i, by omega, i1, by rw [i2, j2, j3]⟩
    · rintro ⟨i, -, i1, i2⟩
      obtain ⟨j, j1, j2⟩ := hA i i1
      rw [j2] at i2
      obtain ⟨j3, j4⟩ := (inj j j1).mp i2
      refine ⟨j, by omega, j1, ?_, ?_⟩
      · rw [e226 j (by omega), e226 s (by omega), if_neg (by omega), if_pos rfl, (hp j j1).1, j3]
      · rw [e227 j (by omega), e227 s (by omega), if_neg (by omega), if_pos rfl, (hp j j1).2, j4]
  have st0 : fX10_stand (nI u) (oI x) (oI y) Mc = fX10_stand_L11 (some (nI (u + 1), mu Mc 51 u (oI (100 * y + x)))) (nI u) (oI (100 * y + x)) Mc FU (nI 0) := by
    unfold fX10_stand
    dsimp only [bnd]
    have c16 : nI u ≤ (16 : Int32) := nI_le (show u ≤ 16 by omega) (by decide)
    rw [oI_pack, if_pos c16, wr_nI (by omega), Option.bind_some, nI_1, nI_0]
  obtain ⟨st1, st2⟩ := t_find (K := some (nI (u + 1), mu Mc 51 u (oI (100 * y + x)))) (M := Mc) (u := u) (z := oI (100 * y + x)) (by omega) u FU 0 (by omega) (FU_gt (by omega))
  obtain ⟨sn1, sn2⟩ := t_seen (M := mu (mu Mm 226 s (oI x)) 227 s (oI y)) hs s FU 0 1 (by omega) (FU_gt (by omega))
  rw [nI_0] at sn1 sn2
  have rows : ((mu (mu Mm 226 s (oI x)) 227 s (oI y)) 198 48 = nI n ∧ ∀ i, i < n → (mu (mu Mm 226 s (oI x)) 227 s (oI y)) 225 i = nI (r i)) := ⟨by rw [mu_o (by omega), mu_o (by omega)]; exact b1, fun i hi => by rw [mu_o (by omega), mu_o (by omega)]; exact b2 i hi⟩
  have hp' : ∀ j, j < s + 1 → mu (mu Mm 226 s (oI x)) 227 s (oI y) 226 j = oI (if j = s then x else px j) ∧ mu (mu Mm 226 s (oI x)) 227 s (oI y) 227 j = oI (if j = s then y else py j) := fun j hj => by
    rw [e226 j (by omega), e227 j (by omega)]
    by_cases q : j = s
    · rw [if_pos q, if_pos q, if_pos q, if_pos q]; exact ⟨rfl, rfl⟩
    · rw [if_neg q, if_neg q, if_neg q, if_neg q]; exact hp j (by omega)
  have hb' : ∀ j : Nat, j < s + 1 → (-(j : Int) ≤ (if j = s then x else px j) ∧ (if j = s then x else px j) ≤ j) ∧ (-(j : Int) ≤ (if j = s then y else py j) ∧ (if j = s then y else py j) ≤ j) := fun j hj => by
    by_cases q : j = s
    · rw [if_pos q, if_pos q]; omega
    · rw [if_neg q, if_neg q]; exact hb j (by omega)
  by_cases c : ∃ i, 0 ≤ i ∧ i < u ∧ Mc 51 i = oI (100 * y + x)
  · refine ⟨u, Mc, fun j => if j = s then x else px j, fun j => if j = s then y else py j, ⟨⟨a1, a2⟩, rows, hp', hb', by omega, fun i hi => ?_, fun j hj => ?_⟩, if_pos rfl, if_pos rfl, by rw [st0, st1 c], 0, sn1 (same.mpr c), fun α J => by dsimp only [jn]; rw [if_pos rfl]⟩
    · obtain ⟨j, j1, j2⟩ := hA i hi
      refine ⟨j, by omega, ?_⟩
      show Mc 51 i = oI (100 * (if j = s then y else py j) + (if j = s then x else px j))
      rw [if_neg (by omega), if_neg (by omega)]; exact j2
    · show ∃ i, i < u ∧ Mc 51 i = oI (100 * (if j = s then y else py j) + (if j = s then x else px j))
      by_cases q : j = s
      · rw [if_pos q, if_pos q]
        obtain ⟨i, -, i1, i2⟩ := c
        exact ⟨i, i1, i2⟩
      · rw [if_neg q, if_neg q]; exact hB j (by omega)
  · refine ⟨u + 1, mu Mc 51 u (oI (100 * y + x)), fun j => if j = s then x else px j, fun j => if j = s then y else py j, ⟨⟨by rw [mu_o (by omega)]; exact a1, fun i hi => by rw [mu_o (by omega)]; exact a2 i hi⟩, rows, hp', hb', by omega, fun i hi => ?_, fun j hj => ?_⟩, if_pos rfl, if_pos rfl, by rw [st0, st2 c], 1, sn2 (fun e => c (same.mp e)), fun α J => by dsimp only [jn, bnd]; rw [if_neg one_ne, nI_1]⟩
    · show ∃ j, j < s + 1 ∧ mu Mc 51 u (oI (100 * y + x)) 51 i = oI (100 * (if j = s then y else py j) + (if j = s then x else px j))
      by_cases q : i = u
      · subst q
        exact ⟨s, by omega, by rw [mu_s, if_pos rfl, if_pos rfl]⟩
      · obtain ⟨j, j1, j2⟩ := hA i (by omega)
        exact ⟨j, by omega, by rw [mu_i q, if_neg (by omega), if_neg (by omega)]; exact j2⟩
    · show ∃ i, i < u + 1 ∧ mu Mc 51 u (oI (100 * y + x)) 51 i = oI (100 * (if j = s then y else py j) + (if j = s then x else px j))
      by_cases q : j = s
      · rw [if_pos q, if_pos q]; exact ⟨u, by omega, mu_s⟩
      · rw [if_neg q, if_neg q]
        obtain ⟨i, i1, i2⟩ := hB j (by omega)
        exact ⟨i, by omega, by rw [mu_i (by omega)]; exact i2⟩
theorem jn_eq {α β : Type} (f : α) (g : α → β) : jn f g = g f := rfl
theorem bnd_eq {α β : Type} (f : α) (g : α → β) : bnd f g = g f := rfl
theorem fld_eq (a b c : Int32) : a + b - c = a + (b - c) := by rw [Int32.sub_eq_add_neg, Int32.sub_eq_add_neg, Int32.add_assoc]
theorem t_ref0 {n : Nat} {r : Nat → Nat} {K : Int32 → Int32 → Int32 → Mem → Option (Int32 × Mem)} {F t s u u' d : Nat} {px py : Nat → Int} {fl cc : Int32} {Mm : Mem} (h3 : d < 4) (h4 : 1 ≤ s) (hs : s ≤ 16) (hn : n ≤ 16) (ht : t < n) (b1 : Mm 198 48 = nI n) (b2 : Mm 225 t = nI (r t)) (e : r t = 0) (p1 : Mm 226 (s - 1) = oI (px (s - 1))) (p2 : Mm 227 (s - 1) = oI (py (s - 1))) (q5 : ∀ K, fX12_turning_L190 K (nI s) (mu (mu Mm 226 s (oI (px (s - 1) + tX d))) 227 s (oI (py (s - 1) + tY d))) FU 1 0 = K cc) (q6 : ∀ (α : Type) (f : Int32 → α), (jn f fun J => if cc = 0 then J (nI u) else bnd (nI u + 1) fun x => J x) = f (nI u')) :
    fX12_turning_L32 K (F + 1) (nI s) (nI u) (nI d) fl (nI t) Mm = fX12_turning_L32 K F (nI (s + 1)) (nI u') (nI d) (fl + oI (px (s - 1)) * oI (py (s - 1) + tY d) - oI (px (s - 1) + tX d) * oI (py (s - 1))) (nI (t + 1)) (mu (mu Mm 226 s (oI (px (s - 1) + tX d))) 227 s (oI (py (s - 1) + tY d))) := by
  have c : ¬ nI n ≤ nI t := nI_ge (by omega) (by omega)
  have c0 : nI (r t) ≤ (0 : Int32) := by rw [e]; decide
  have r1 : mu (mu Mm 226 s (oI (px (s - 1) + tX d))) 227 s (oI (py (s - 1) + tY d)) 226 (s - 1) = oI (px (s - 1)) := by rw [mu_o (by omega), mu_i (by omega), p1]
  have r2 : mu (mu Mm 226 s (oI (px (s - 1) + tX d))) 227 s (oI (py (s - 1) + tY d)) 227 s = oI (py (s - 1) + tY d) := mu_s
  have r3 : mu (mu Mm 226 s (oI (px (s - 1) + tX d))) 227 s (oI (py (s - 1) + tY d)) 226 s = oI (px (s - 1) + tX d) := by rw [mu_o (by omega), mu_s]
  have r4 : mu (mu Mm 226 s (oI (px (s - 1) + tX d))) 227 s (oI (py (s - 1) + tY d)) 227 (s - 1) = oI (py (s - 1)) := by rw [mu_i (by omega), mu_o (by omega), p2]
  rw [fX12_turning_L32]
  revert q5
  generalize FU = G
  intro q5
  rw [b1, if_neg c, rd_nI (by omega), b2, Option.bind_some, jn_eq]
  rw [if_pos c0, nI_sub1 (by omega), rd_nI (by omega), p1, Option.bind_some, (t_ox d h3).1]
  rw [oI_add, wr_nI (by omega), Option.bind_some, rd_nI (by omega), mu_o (by omega), p2, Option.bind_some, (t_ox d h3).2]
  rw [oI_add, wr_nI (by omega), Option.bind_some]
  rw [rd_nI (by omega), r1, Option.bind_some, rd_nI (by omega), r2, Option.bind_some, rd_nI (by omega), r3, Option.bind_some, rd_nI (by omega), r4, Option.bind_some]
  rw [bnd_eq, q5, q6, bnd_eq, nI_1, nI_1]
theorem t_loop {n : Nat} {r : Nat → Nat} (hn : n ≤ 16) (hr : ∀ i, i < n → r i ≤ 2) : ∀ (k F t s u d : Nat) (px py : Nat → Int) (fl : Int32) (Mc Mm : Mem), t + k = n → k < F → d < 4 → 1 ≤ s → s ≤ t + 1 → TSt n r s u px py Mc Mm → ∃ s' u' px' py' fl' Mc' Mm', 1 ≤ s' ∧ s' ≤ 17 ∧ TSt n r s' u' px' py' Mc' Mm' ∧ (∀ K, fX10_turned_L25 K F (oI (px (s - 1))) (oI (py (s - 1))) (oI (tX d)) (oI (tY d)) fl (nI u) (nI t) Mc = K (oI (px' (s' - 1))) (oI (py' (s' - 1))) fl' (nI u') Mc') ∧ ∀ K, fX12_turning_L32 K F (nI s) (nI u) (nI d) fl (nI t) Mm = K (nI s') (nI u') fl' Mm'
  | k, 0, t, s, u, d, px, py, fl, Mc, Mm, _, h, _, _, _, _ => by omega
  | 0, F + 1, t, s, u, d, px, py, fl, Mc, Mm, h1, h2, h3, h4, h5, hT => by
    have c : nI n ≤ nI t := nI_le (by omega) (by omega)
    exact ⟨s, u, px, py, fl, Mc, Mm, h4, by omega, hT, fun K => by rw [fX10_turned_L25, hT.1.1, if_pos c], fun K => by rw [fX12_turning_L32, hT.2.1.1, if_pos c]⟩
  | k + 1, F + 1, t, s, u, d, px, py, fl, Mc, Mm, h1, h2, h3, h4, h5, hT => by
    have c : ¬ nI n ≤ nI t := nI_ge (by omega) (by omega)
    have a1 := hT.1.1
    have a2 := hT.1.2 t (by omega)
    have b1 := hT.2.1.1
    have b2 := hT.2.1.2 t (by omega)
    have hrt := hr t (by omega)
    rcases (show r t = 0 ∨ r t = 1 ∨ r t = 2 by omega) with e | e | e
    · obtain ⟨u', Mc', px', py', q1, q2, q3, q4, cc, q5, q6⟩ := t_step h3 h4 (show s ≤ 16 by omega) hT
      obtain ⟨s2, u2, px2, py2, fl2, Mc2, Mm2, z1, z2, z3, z4, z5⟩ := t_loop hn hr k F (t + 1) (s + 1) u' d px' py' (fl + (oI (px (s - 1)) * oI (py (s - 1) + tY d) - oI (px (s - 1) + tX d) * oI (py (s - 1)))) Mc' _ (by omega) (by omega) h3 (by omega) (by omega) q1
      rw [show s + 1 - 1 = s by omega, q2, q3] at z4
      refine ⟨s2, u2, px2, py2, fl2, Mc2, Mm2, z1, z2, z3, fun K => ?_, fun K => ?_⟩
      · rw [fX10_turned_L25, a1, if_neg c, rd_nI (by omega), a2, e, Option.bind_some]
        dsimp only [jn, bnd]
        rw [if_pos (show nI 0 = 0 from rfl), oI_add (px (s - 1)), oI_add (py (s - 1)), q4, Option.bind_some, nI_1, z4]
      · rw [t_ref0 h3 h4 (show s ≤ 16 by omega) hn (show t < n by omega) b1 b2 e (hT.2.2.1 (s - 1) (by omega)).1 (hT.2.2.1 (s - 1) (by omega)).2 q5 q6, fld_eq, z5]
    · obtain ⟨w1, w2, w3⟩ := (t_rot d h3).1
      obtain ⟨s2, u2, px2, py2, fl2, Mc2, Mm2, z1, z2, z3, z4, z5⟩ := t_loop hn hr k F (t + 1) s u ((d + 1) % 4) px py fl Mc Mm (by omega) (by omega) (by omega) h4 (by omega) hT
      refine ⟨s2, u2, px2, py2, fl2, Mc2, Mm2, z1, z2, z3, fun K => ?_, fun K => ?_⟩
      · rw [fX10_turned_L25, a1, if_neg c, rd_nI (by omega), a2, e, Option.bind_some]
        dsimp only [jn, bnd]
        rw [if_neg (show ¬ nI 1 = 0 from by decide), if_pos (show nI 1 = 1 from rfl), w1, w2, nI_1, z4]
      · have c0 : ¬ nI 1 ≤ (0 : Int32) := by decide
        rw [fX12_turning_L32, b1, if_neg c, rd_nI (by omega), b2, e, Option.bind_some]
        dsimp only [jn, bnd]
        rw [if_neg c0, Option.bind_some, if_pos (show nI 1 = 1 from rfl), w3, nI_1, z5]
    · obtain ⟨w1, w2, w3⟩ := (t_rot d h3).2
      obtain ⟨s2, u2, px2, py2, fl2, Mc2, Mm2, z1, z2, z3, z4, z5⟩ := t_loop hn hr k F (t + 1) s u ((d + 3) % 4) px py fl Mc Mm (by omega) (by omega) (by omega) h4 (by omega) hT
      refine ⟨s2, u2, px2, py2, fl2, Mc2, Mm2, z1, z2, z3, fun K => ?_, fun K => ?_⟩
      · rw [fX10_turned_L25, a1, if_neg c, rd_nI (by omega), a2, e, Option.bind_some]
        dsimp only [jn, bnd]
        rw [if_neg (show ¬ nI 2 = 0 from by decide), if_neg (show ¬ nI 2 = 1 from by decide), w1, w2, nI_1, z4]
      · have c0 : ¬ nI 2 ≤ (0 : Int32) := by decide
        rw [fX12_turning_L32, b1, if_neg c, rd_nI (by omega), b2, e, Option.bind_some]
        dsimp only [jn, bnd]
        rw [if_neg c0, Option.bind_some, if_neg (show ¬ nI 2 = 1 from by decide), w3, nI_1, z5]
theorem s_turning (p : Int32) : Sm (fX11_turning p) (fX12_turning p) := fun Mc Mm hA => by
  have fin : ∀ r Mc' Mm', fX11_turning p Mc = some (r, Mc') → fX12_turning p Mm = some (r, Mm') → Mm' 226 0 = Mm 226 0 → Mm' 227 0 = Mm 227 0 → ∃ r Mc' Mm', fX11_turning p Mc = some (r, Mc') ∧ fX12_turning p Mm = some (r, Mm') ∧ AR Mc' Mm' := fun r Mc' Mm' e1 e2 z1 z2 => by
    refine ⟨r, Mc', Mm', e1, e2, AR_c (Agr.of (wX11_turning p Mc) e1) (by decide +kernel) ?_⟩
    have hm := Agr.of (wX12_turning p Mm) e2
    have ho : Agr [] Mc Mc := Agr.rfl'
    obtain ⟨⟨P, B, n, hBd, hTv, hFx, hBk, hLaw, hTw, hEv, hHe, hTo⟩, ⟨N, hN, hN2, hPa⟩, hTa, hFa, hIm, hCs⟩ := hA
    have m199 : ∀ i, rmW (r, Mm') 199 i = Mm 199 i := fun i => hm 199 i (by decide) (by simp)
    refine ⟨⟨P, B, n, Bd_agr hm rfl hBd, ?_, Fx_agr ho hm rfl rfl hFx, Bk_agr ho hm rfl rfl (m199 2) hBk, LawR_agr ho hm rfl rfl hLaw, TwR_agr ho hm rfl rfl hTw, EvR_agr ho hm rfl rfl hEv, HeR_agr ho hm rfl rfl hHe, ToR_agr ho hm rfl rfl hTo⟩, ⟨N, (m199 2).trans hN, hN2, PaR_agr (Nat.le_refl _) ho hm rfl (by decide +kernel) hPa⟩, TaR_agr ho hm rfl rfl hTa, ?_, ImR_agr ho hm rfl rfl hIm, CsR_agr ho hm rfl rfl z1 z2 hCs⟩
    · have : Mm' 199 = Mm 199 := funext m199
      rw [this]; exact hTv
    · have f1 : Mm' 198 33 = Mm 198 33 := hm 198 33 (by decide) (by decide)
      have f2 : Mm' 198 34 = Mm 198 34 := hm 198 34 (by decide) (by decide)
      rw [f1, f2]; exact hFa
  obtain ⟨⟨P, B, n0, hBd, hTv, hFx, hBk, hLaw, hTw, hEv, hHe, hTo⟩, -, -, -, -, hCs⟩ := hA
  obtain ⟨-, -, -, -, -, -, -, -, z6, z7, -⟩ := hCs
  obtain ⟨-, -, -, n, hn, h1, h2, h3⟩ := hTo.2.1
  have h1 : Mc 43 0 = nI n := h1
  have h2' : mu Mm 198 0 0 198 48 = nI n := by rw [mu_i (by omega)]; exact h2
  by_cases cp : ¬ (0 ≤ p ∧ p ≤ 3)
  · refine fin (-10000) Mc (mu Mm 198 0 0) ?_ ?_ rfl rfl
    · unfold fX11_turning; rw [isW_isIn, isIn_no cp, if_pos rfl]
    · unfold fX12_turning; dsimp only [bnd]; rw [isIn_no cp, if_pos rfl]
  have cp := Decidable.not_not.mp cp
  have hr : ∃ r : Nat → Nat, ∀ i, i < n → r i ≤ 2 ∧ Mc 44 i = nI (r i) ∧ Mm 225 i = nI (r i) := ⟨fun i => (Mc 44 i).toNatClampNeg, fun i hi => by
    obtain ⟨x, -, x1, x2, x3⟩ := h3 i hi
    have x2 : Mc 44 i = nI x := x2
    show (Mc 44 i).toNatClampNeg ≤ 2 ∧ Mc 44 i = nI (Mc 44 i).toNatClampNeg ∧ Mm 225 i = nI (Mc 44 i).toNatClampNeg
    rw [x2, nI_clamp (by omega)]
    exact ⟨x1, rfl, x3⟩⟩
  obtain ⟨r, hr⟩ := hr
  have o0 : oI 0 = 0 := by decide
  have hT : TSt n r 1 1 (fun _ => 0) (fun _ => 0) (mu Mc 51 0 0) (mu Mm 198 0 0) := by
    refine ⟨⟨by rw [mu_o (by omega)]; exact h1, fun i hi => by rw [mu_o (by omega)]; exact (hr i hi).2.1⟩, ⟨h2', fun i hi => by rw [mu_o (by omega)]; exact (hr i hi).2.2⟩, fun j hj => ?_, fun j hj => ⟨⟨by show -(j : Int) ≤ 0; omega, by show (0 : Int) ≤ j; omega⟩, by show -(j : Int) ≤ 0; omega, by show (0 : Int) ≤ j; omega⟩, by omega, fun i hi => ⟨0, by omega, ?_⟩, fun j hj => ⟨0, by omega, ?_⟩⟩
    · have : j = 0 := by omega
      subst this
      rw [mu_o (by omega), mu_o (by omega), o0]; exact ⟨z6, z7⟩
    · have : i = 0 := by omega
      subst this
      rw [mu_s]; rfl
    · rw [mu_s]; rfl
  obtain ⟨s, u, px, py, fl, Mc', Mm', q1, q2, q3, q4, q5⟩ := t_loop hn (fun i hi => (hr i hi).1) n FU 0 1 1 0 (fun _ => 0) (fun _ => 0) 0 _ _ (by omega) (FU_gt (by omega)) (by omega) (by omega) (by omega) hT
  have p1 := q3.2.2.1 (s - 1) (by omega)
  have p0 := q3.2.2.1 0 (by omega)
  have b0 := q3.2.2.2.1 0 (by omega)
  have x0 : px 0 = 0 := by omega
  have y0 : py 0 = 0 := by omega
  have e1 : fX11_turning p Mc = (swt p 0 [(some (oI (px (s - 1)), Mc')), (some (oI (py (s - 1)), Mc')), (some (nI u, Mc'))] (if oI (px (s - 1)) = 0 then (if oI (py (s - 1)) = 0 then (some (fl, Mc')) else (some ((-1000), Mc'))) else (some ((-1000), Mc')))).bind fun r1 => some (r1.1, r1.2) := by
    unfold fX11_turning fX10_turned
    have st : fX10_stand 0 0 0 Mc = some (nI 1, mu Mc 51 0 0) := by
      unfold fX10_stand
      dsimp only [bnd]
      obtain ⟨F, hF⟩ : ∃ F, FU = F + 1 := ⟨99999, rfl⟩
      have c0 : (0 : Int32) ≤ 0 := by decide
      have c1 : (0 : Int32) ≤ 16 := by decide
      have w0 : wr Mc 51 17 0 (100 * 0 + 0) = some (mu Mc 51 0 0) := (wr_nI (j := 0) (by omega)).trans rfl
      rw [hF, fX10_stand_L11, if_pos c0, if_pos c1, w0]; rfl
    rw [isW_isIn, isIn_yes cp, if_neg one_ne, st, Option.bind_some]
    have := q4 (fun e19 e20 e21 e22 M23 => swt p 0 [(some (e19, M23)), (some (e20, M23)), (some (e22, M23))] (if e19 = 0 then (if e20 = 0 then (some (e21, M23)) else (some ((-1000), M23))) else (some ((-1000), M23))))
    rw [← this]; rfl
  have e2 : fX12_turning p Mm = if p = 3 then (if oI (px (s - 1)) = 0 then (if oI (py (s - 1)) = 0 then (some (fl, Mm')) else (some ((-1000), Mm'))) else (some ((-1000), Mm'))) else (if p = 0 then (some (oI (px (s - 1)), Mm')) else (if p = 1 then (some (oI (py (s - 1)), Mm')) else (some (nI u, Mm')))) := by
    unfold fX12_turning
    dsimp only [bnd]
    have := q5 (fun (e37 : Int32) (e38 : Int32) (e39 : Int32) (M40 : Mem) => (rd M40 226 17 (e37 - 1)).bind fun v41 => (rd M40 227 17 (e37 - 1)).bind fun v42 => if p = 3 then (if v41 = 0 then (if v42 = 0 then (some (e39, M40)) else (some ((-1000), M40))) else (some ((-1000), M40))) else (if p = 0 then (some (v41, M40)) else (if p = 1 then (some (v42, M40)) else (some (e38, M40)))))
    rw [isIn_yes cp, if_neg one_ne]
    refine Eq.trans ?_ (this.trans ?_)
    · rfl
    · rw [nI_sub1 (by omega), rd_nI (by omega), rd_nI (by omega), Option.bind_some, Option.bind_some, p1.1, p1.2]
  have m1 : Mm' 226 0 = Mm 226 0 := by rw [p0.1, x0, z6]; exact o0
  have m2 : Mm' 227 0 = Mm 227 0 := by rw [p0.2, y0, z7]; exact o0
  obtain ⟨j, hj, rfl⟩ := in_of (n := 3) (by decide) cp
  rcases (show j = 0 ∨ j = 1 ∨ j = 2 ∨ j = 3 by omega) with rfl | rfl | rfl | rfl
  · exact fin _ _ _ e1 (e2.trans rfl) m1 m2
  · exact fin _ _ _ e1 (e2.trans rfl) m1 m2
  · exact fin _ _ _ e1 (e2.trans rfl) m1 m2
  · have s3 : ∀ (a b c dv : Option (Int32 × Mem)), swt (nI 3) 0 [a, b, c] dv = dv := fun a b c dv => rfl
    rw [s3] at e1
    rw [if_pos (show nI 3 = 3 from rfl)] at e2
    by_cases c1 : oI (px (s - 1)) = 0
    · by_cases c2 : oI (py (s - 1)) = 0
      · rw [if_pos c1, if_pos c2] at e1 e2
        exact fin _ _ _ e1 e2 m1 m2
      · rw [if_pos c1, if_neg c2] at e1 e2
        exact fin _ _ _ e1 e2 m1 m2
    · rw [if_neg c1] at e1 e2
      exact fin _ _ _ e1 e2 m1 m2
