/-! ===== what codes of THE LAW come to ===== -/
theorem mf_same (M : Mem) (k : Nat) : mf M k (M k) = M := by
  funext a i; rw [mf_apply]; by_cases h : a = k
  · rw [if_pos h, h]
  · rw [if_neg h]
theorem mu_mf (M : Mem) (k j : Nat) (f : Nat → Int32) (v : Int32) : mu (mf M k f) k j v = mf M k (upd f j v) := by
  unfold mu
  rw [mf_s]
  funext a i
  rw [mf_apply, mf_apply, mf_apply]
  by_cases h : a = k
  · rw [if_pos h, if_pos h]
  · rw [if_neg h, if_neg h, if_neg h]
def SR (f h : Nat → Int32) : List Bool → Prop
  | [] => True
  | c :: r => f r.length = h r.length ∧ (c = true → h r.length = 0 ∨ h r.length = 1) ∧ SR f h r
theorem SR_up {f h : Nat → Int32} {v w : Int32} {j : Nat} : ∀ {s : List Bool}, s.length ≤ j → SR f h s → SR (upd f j v) (upd h j w) s
  | [], _, _ => trivial
  | c :: r, hj, h1 => by
    rw [List.length_cons] at hj
    refine ⟨?_, ?_, SR_up (s := r) (by omega) h1.2.2⟩
    · rw [pk_un (by omega), pk_un (by omega)]; exact h1.1
    · rw [pk_un (by omega)]; exact h1.2.1
theorem two_eq {x : Nat} {a b : Int32} (h1 : 2 ≤ x) (h2 : x ≤ 11) (h9 : x ≠ 9) (h5 : x = 5 → ¬ b = 0) (h10 : x = 10 ∨ x = 11 → (a = 0 ∨ a = 1) ∧ (b = 0 ∨ b = 1)) : ∃ v, fX1_joined (nI (opc x)) a b = some v ∧ fX12_twoOf (nI x) a b = some v ∧ (6 ≤ x → v = 0 ∨ v = 1) := by
  rcases (show x = 2 ∨ x = 3 ∨ x = 4 ∨ x = 5 ∨ x = 6 ∨ x = 7 ∨ x = 8 ∨ x = 10 ∨ x = 11 by omega) with rfl | rfl | rfl | rfl | rfl | rfl | rfl | rfl | rfl
  · exact ⟨a + b, rfl, rfl, fun h => by omega⟩
  · exact ⟨a - b, rfl, rfl, fun h => by omega⟩
  · exact ⟨a * b, rfl, rfl, fun h => by omega⟩
  · have hb := h5 rfl
    refine ⟨a / b, ?_, ?_, fun h => by omega⟩
    · show (if b = 0 then some 0 else if b = 0 then none else some (a / b)) = _
      rw [if_neg hb, if_neg hb]
    · show (if b = 0 then none else some (a / b)) = _
      rw [if_neg hb]
  · by_cases c : b ≤ a
    · exact ⟨0, if_pos c, if_pos c, fun _ => Or.inl rfl⟩
    · exact ⟨1, if_neg c, if_neg c, fun _ => Or.inr rfl⟩
  · by_cases c : a = b
    · exact ⟨1, if_pos c, if_pos c, fun _ => Or.inr rfl⟩
    · exact ⟨0, if_neg c, if_neg c, fun _ => Or.inl rfl⟩
  · by_cases c : a ≤ b
    · exact ⟨0, if_pos c, if_pos c, fun _ => Or.inl rfl⟩
    · exact ⟨1, if_neg c, if_neg c, fun _ => Or.inr rfl⟩
  · obtain ⟨ha, hb⟩ := h10 (Or.inl rfl)
    rcases ha with rfl | rfl <;> rcases hb with rfl | rfl
    · exact ⟨0, rfl, rfl, fun _ => Or.inl rfl⟩
    · exact ⟨0, rfl, rfl, fun _ => Or.inl rfl⟩
    · exact ⟨0, rfl, rfl, fun _ => Or.inl rfl⟩
    · exact ⟨1, rfl, rfl, fun _ => Or.inr rfl⟩
  · obtain ⟨ha, hb⟩ := h10 (Or.inr rfl)
    rcases ha with rfl | rfl <;> rcases hb with rfl | rfl
    · exact ⟨0, rfl, rfl, fun _ => Or.inl rfl⟩
    · exact ⟨1, rfl, rfl, fun _ => Or.inr rfl⟩
    · exact ⟨1, rfl, rfl, fun _ => Or.inr rfl⟩
    · exact ⟨1, rfl, rfl, fun _ => Or.inr rfl⟩
/-- one code: the class's step and the reference's -/
theorem ev_push {K : Int32 → Mem → Option (Int32 × Mem)} {Mc Mm : Mem} {f h : Nat → Int32} {F i t m l : Nat} {v : Int32} (hm : m ≤ 400) (h1 : Mc 17 1 = nI m) (hn : ∀ j, j < 10 → Mc 23 j = Mm 219 j) (hi : i < t) (ht : t ≤ m) (hl : l < 30) (hc : (∃ x, x < 10000 ∧ Mm 213 i = 0 ∧ Mm 214 i = nI x ∧ Mc 22 i = nI x ∧ v = nI x) ∨ (∃ x, x < 10 ∧ Mm 213 i = 1 ∧ Mm 214 i = nI x ∧ Mc 22 i = nI (10000 + x) ∧ v = Mm 219 x)) :
    fX1_worked_L5 K (nI t) (F + 1) (nI l) (nI i) (mf Mc 24 f) = fX1_worked_L5 K (nI t) F (nI (l + 1)) (nI (i + 1)) (mf Mc 24 (upd f l v)) ∧ fX12_runs_L12 0 (nI t) (F + 1) (nI l) (nI i) (mf Mm 220 h) = fX12_runs_L12 0 (nI t) F (nI (l + 1)) (nI (i + 1)) (mf Mm 220 (upd h l v)) := by
  have e17 : mf Mc 24 f 17 1 = nI m := by rw [mf_o (by omega)]; exact h1
  have e22 : mf Mc 24 f 22 i = Mc 22 i := by rw [mf_o (by omega)]
  have e213 : mf Mm 220 h 213 i = Mm 213 i := by rw [mf_o (by omega)]
  have e214 : mf Mm 220 h 214 i = Mm 214 i := by rw [mf_o (by omega)]
  have ez : (400 : Int32) * 0 + nI t = nI t := by
    have : (400 : Int32) * 0 = nI 0 := by decide
    rw [this, nI_add, Nat.zero_add]
  have c32 : ¬ (32 : Int32) ≤ nI l := nI_ge (show l < 32 by omega) (by decide)
  have ci : ¬ nI t ≤ nI i := nI_ge hi (by omega)
  have ci2 : ¬ nI m ≤ nI i := nI_ge (by omega) (by omega)
  rcases hc with ⟨x, x1, x2, x3, x4, rfl⟩ | ⟨x, x1, x2, x3, x4, rfl⟩
  · have k1 : ¬ (20000 : Int32) ≤ nI x := nI_ge (show x < 20000 by omega) (by decide)
    have k2 : ¬ (10000 : Int32) ≤ nI x := nI_ge (show x < 10000 by omega) (by decide)
    constructor
    · rw [fX1_worked_L5, if_neg (nI_pos (by omega)), if_neg ci, e17, if_neg ci2, rd_nI (by omega), e22, x4, Option.bind_some]
      dsimp only [jn]
      rw [if_neg k1, if_neg c32, if_neg k2, wr_nI (by omega), Option.bind_some, mu_mf, nI_1, nI_1]
    · rw [fX12_runs_L12, ez, if_neg ci, rd_nI (by omega), e213, x2, Option.bind_some]
      dsimp only [jn, bnd]
      rw [if_pos rfl, Option.bind_some, if_pos rfl, rd_nI (by omega), e214, x3, Option.bind_some, wr_nI (by omega), Option.bind_some, mu_mf, nI_1, nI_1]
  · have k1 : ¬ (20000 : Int32) ≤ nI (10000 + x) := nI_ge (show 10000 + x < 20000 by omega) (by decide)
    have k2 : (10000 : Int32) ≤ nI (10000 + x) := nI_le (show 10000 ≤ 10000 + x by omega) (by omega)
    have k3 : nI (10000 + x) - 10000 = nI x := by
      have : (10000 : Int32) = nI 10000 := rfl
      rw [this, pk_sub (by omega), Nat.add_sub_cancel_left]
    have k4 : ¬ (10 : Int32) ≤ nI x := nI_ge (show x < 10 by omega) (by decide)
    have k5 : fX1_named (nI x) (mf Mc 24 f) = some (Mm 219 x) := by
      unfold fX1_named
      rw [if_neg (nI_pos (by omega)), if_neg k4, rd_nI (by omega), mf_o (by omega), hn x x1]; rfl
    constructor
    · rw [fX1_worked_L5, if_neg (nI_pos (by omega)), if_neg ci, e17, if_neg ci2, rd_nI (by omega), e22, x4, Option.bind_some]
      dsimp only [jn]
      rw [if_neg k1, if_neg c32, if_pos k2, k3, k5, Option.bind_some, wr_nI (by omega), Option.bind_some, mu_mf, nI_1, nI_1]
    · have n01 : ¬ (1 : Int32) = 0 := by decide
      rw [fX12_runs_L12, ez, if_neg ci, rd_nI (by omega), e213, x2, Option.bind_some]
      dsimp only [jn, bnd]
      rw [if_neg n01, Option.bind_some, if_pos rfl, Option.bind_some, if_neg n01, rd_nI (by omega), e214, x3, Option.bind_some, rd_nI (by omega), mf_o (by omega), Option.bind_some, wr_nI (by omega), Option.bind_some, mu_mf, nI_1, nI_1]
theorem ev_not {K : Int32 → Mem → Option (Int32 × Mem)} {Mc Mm : Mem} {f h : Nat → Int32} {F i t m l : Nat} (hm : m ≤ 400) (h1 : Mc 17 1 = nI m) (hi : i < t) (ht : t ≤ m) (hl : l < 30) (ho : Mm 213 i = 9) (hc : Mc 22 i = nI 20110) :
    fX1_worked_L5 K (nI t) (F + 1) (nI (l + 1)) (nI i) (mf Mc 24 f) = fX1_worked_L5 K (nI t) F (nI (l + 1)) (nI (i + 1)) (mf Mc 24 (upd f l (1 - f l))) ∧ fX12_runs_L12 0 (nI t) (F + 1) (nI (l + 1)) (nI i) (mf Mm 220 h) = fX12_runs_L12 0 (nI t) F (nI (l + 1)) (nI (i + 1)) (mf Mm 220 (upd h l (1 - h l))) := by
  have e17 : mf Mc 24 f 17 1 = nI m := by rw [mf_o (by omega)]; exact h1
  have e22 : mf Mc 24 f 22 i = nI 20110 := by rw [mf_o (by omega)]; exact hc
  have e213 : mf Mm 220 h 213 i = 9 := by rw [mf_o (by omega)]; exact ho
  have ez : (400 : Int32) * 0 + nI t = nI t := by
    have : (400 : Int32) * 0 = nI 0 := by decide
    rw [this, nI_add, Nat.zero_add]
  have ci : ¬ nI t ≤ nI i := nI_ge hi (by omega)
  have ci2 : ¬ nI m ≤ nI i := nI_ge (by omega) (by omega)
  have k1 : (20000 : Int32) ≤ nI 20110 := by decide
  have k2 : nI 20110 = (20110 : Int32) := rfl
  constructor
  · rw [fX1_worked_L5, if_neg (nI_pos (by omega)), if_neg ci, e17, if_neg ci2, rd_nI (by omega), e22, Option.bind_some]
    dsimp only [jn]
    rw [if_pos k1, if_pos k2, if_neg (nI_nle (by omega) (by omega)), nI_pred, rd_nI (by omega), Option.bind_some, wr_nI (by omega), Option.bind_some, mu_mf, mf_s, nI_1]
  · have n0 : ¬ (9 : Int32) = 0 := by decide
    have n1 : ¬ (9 : Int32) = 1 := by decide
    rw [fX12_runs_L12, ez, if_neg ci, rd_nI (by omega), e213, Option.bind_some]
    dsimp only [jn, bnd]
    rw [if_neg n0, Option.bind_some, if_neg n1, Option.bind_some, if_pos rfl, nI_pred, rd_nI (by omega), Option.bind_some, wr_nI (by omega), Option.bind_some, mu_mf, mf_s, nI_1]
theorem opc_b : ∀ x, 2 ≤ x → x ≤ 11 → opc x < 200 ∧ (x ≠ 9 → opc x ≠ 110) := by
  intro x h1 h2
  rcases (show x = 2 ∨ x = 3 ∨ x = 4 ∨ x = 5 ∨ x = 6 ∨ x = 7 ∨ x = 8 ∨ x = 9 ∨ x = 10 ∨ x = 11 by omega) with rfl | rfl | rfl | rfl | rfl | rfl | rfl | rfl | rfl | rfl <;> decide
theorem ev_two {K : Int32 → Mem → Option (Int32 × Mem)} {Mc Mm : Mem} {f h : Nat → Int32} {F i t m l x : Nat} {v : Int32} (hm : m ≤ 400) (h1 : Mc 17 1 = nI m) (hi : i < t) (ht : t ≤ m) (hl : l < 30) (hx1 : 2 ≤ x) (hx2 : x ≤ 11) (hx9 : x ≠ 9) (ho : Mm 213 i = nI x) (hc : Mc 22 i = nI (20000 + opc x)) (j1 : fX1_joined (nI (opc x)) (f l) (f (l + 1)) = some v) (j2 : fX12_twoOf (nI x) (h l) (h (l + 1)) = some v) :
    fX1_worked_L5 K (nI t) (F + 1) (nI (l + 2)) (nI i) (mf Mc 24 f) = fX1_worked_L5 K (nI t) F (nI (l + 1)) (nI (i + 1)) (mf Mc 24 (upd f l v)) ∧ fX12_runs_L12 0 (nI t) (F + 1) (nI (l + 2)) (nI i) (mf Mm 220 h) = fX12_runs_L12 0 (nI t) F (nI (l + 1)) (nI (i + 1)) (mf Mm 220 (upd h l v)) := by
  obtain ⟨o1, o2⟩ := opc_b x hx1 hx2
  have e17 : mf Mc 24 f 17 1 = nI m := by rw [mf_o (by omega)]; exact h1
  have e22 : mf Mc 24 f 22 i = nI (20000 + opc x) := by rw [mf_o (by omega)]; exact hc
  have e213 : mf Mm 220 h 213 i = nI x := by rw [mf_o (by omega)]; exact ho
  have ez : (400 : Int32) * 0 + nI t = nI t := by
    have : (400 : Int32) * 0 = nI 0 := by decide
    rw [this, nI_add, Nat.zero_add]
  have ci : ¬ nI t ≤ nI i := nI_ge hi (by omega)
  have ci2 : ¬ nI m ≤ nI i := nI_ge (by omega) (by omega)
  have k1 : (20000 : Int32) ≤ nI (20000 + opc x) := nI_le (show 20000 ≤ 20000 + opc x by omega) (by omega)
  have k2 : ¬ nI (20000 + opc x) = (20110 : Int32) := fun e => by
    have := (nI_eqb (show 20000 + opc x < 2 ^ 31 by omega) (show 20110 < 2 ^ 31 by omega)).mp e
    have := o2 hx9; omega
  have k3 : nI (20000 + opc x) - 20000 = nI (opc x) := by
    have : (20000 : Int32) = nI 20000 := rfl
    rw [this, pk_sub (by omega), Nat.add_sub_cancel_left]
  have k4 : ¬ nI (l + 2) ≤ (1 : Int32) := nI_ge (show 1 < l + 2 by omega) (by omega)
  have k5 : nI (l + 2) + (-1) = nI (l + 1) := pk_m1 (l + 1)
  constructor
  · rw [fX1_worked_L5, if_neg (nI_pos (by omega)), if_neg ci, e17, if_neg ci2, rd_nI (by omega), e22, Option.bind_some]
    dsimp only [jn]
    rw [if_pos k1, if_neg k2, if_neg k4, k5, nI_pred, rd_nI (by omega), mf_s, Option.bind_some, rd_nI (by omega), mf_s, Option.bind_some, k3, j1, Option.bind_some, wr_nI (by omega), Option.bind_some, mu_mf, nI_1]
  · have n0 : ¬ nI x = (0 : Int32) := nI_ne0 (by omega) (by omega)
    have n1 : ¬ nI x = (1 : Int32) := fun e => by
      have := (nI_eqb (show x < 2 ^ 31 by omega) (show 1 < 2 ^ 31 by omega)).mp e
      omega
    have n9 : ¬ nI x = (9 : Int32) := fun e => by
      have := (nI_eqb (show x < 2 ^ 31 by omega) (show 9 < 2 ^ 31 by omega)).mp e
      omega
    rw [fX12_runs_L12, ez, if_neg ci, rd_nI (by omega), e213, Option.bind_some]
    dsimp only [jn, bnd]
    rw [if_neg n0, Option.bind_some, if_neg n1, Option.bind_some, if_neg n9, nI_pred, Option.bind_some, nI_pred, rd_nI (by omega), mf_s, Option.bind_some, rd_nI (by omega), mf_s, Option.bind_some, j2, Option.bind_some, wr_nI (by omega), Option.bind_some, mu_mf, nI_1]
