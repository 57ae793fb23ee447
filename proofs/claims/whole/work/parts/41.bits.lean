/-! ===== sets as ints: how many bits ===== -/
theorem ushr_nI {n : Nat} (hn : n < 2 ^ 32) : jushr (nI n) 1 = nI (n / 2) ∧ jushr (nI n) 2 = nI (n / 4) ∧ jushr (nI n) 4 = nI (n / 16) ∧ jushr (nI n) 8 = nI (n / 256) ∧ jushr (nI n) 16 = nI (n / 65536) :=
  ⟨pk_ushrN hn 1 1 (by decide), pk_ushrN hn 2 2 (by decide), pk_ushrN hn 4 4 (by decide), pk_ushrN hn 8 8 (by decide), pk_ushrN hn 16 16 (by decide)⟩
def bcN (x : Nat) : Nat :=
  let a := x - (x / 2 &&& 1431655765)
  let b := (a &&& 858993459) + (a / 4 &&& 858993459)
  let c := (b + b / 16) &&& 252645135
  let d := c + c / 256
  (d + d / 65536) &&& 63
theorem bc_nI {x : Nat} (h : x < 65536) : fJ6_bitCount_0f7a4 (nI x) = nI (bcN x) := by
  unfold fJ6_bitCount_0f7a4
  dsimp only [bnd]
  have l1 : (1431655765 : Int32) = nI 1431655765 := rfl
  have l2 : (858993459 : Int32) = nI 858993459 := rfl
  have l3 : (252645135 : Int32) = nI 252645135 := rfl
  have l4 : (63 : Int32) = nI 63 := rfl
  have a1 : x / 2 &&& 1431655765 ≤ x := Nat.le_trans Nat.and_le_left (Nat.div_le_self _ _)
  rw [l1, l2, l3, l4, (ushr_nI (by omega)).1, fa_and, pk_sub a1]
  generalize ha : x - (x / 2 &&& 1431655765) = a
  have ha' : a ≤ 65535 := by omega
  rw [(ushr_nI (n := a) (by omega)).2.1, fa_and, fa_and, nI_add]
  have b1 : a &&& 858993459 ≤ a := Nat.and_le_left
  have b2 : a / 4 &&& 858993459 ≤ a / 4 := Nat.and_le_left
  generalize hb : (a &&& 858993459) + (a / 4 &&& 858993459) = b
  have hb' : b ≤ 131070 := by omega
  rw [(ushr_nI (n := b) (by omega)).2.2.1, nI_add, fa_and]
  have c1 : (b + b / 16) &&& 252645135 ≤ b + b / 16 := Nat.and_le_left
  generalize hc : (b + b / 16) &&& 252645135 = c
  have hc' : c ≤ 300000 := by omega
  rw [(ushr_nI (n := c) (by omega)).2.2.2.1, nI_add]
  generalize hd : c + c / 256 = dd
  have hd' : dd ≤ 310000 := by omega
  rw [(ushr_nI (n := dd) (by omega)).2.2.2.2, nI_add, fa_and]
  unfold bcN
  simp only [ha, hb, hc, hd]
theorem bcN_step0 : ∀ a, a < 256 → ∀ b, b < 256 → 256 * a + b ≠ 0 → bcN ((256 * a + b) &&& (256 * a + b - 1)) + 1 = bcN (256 * a + b) := by decide +kernel
theorem bcN_step {x : Nat} (h : x < 65536) (h0 : x ≠ 0) : bcN (x &&& (x - 1)) + 1 = bcN x := by
  have := bcN_step0 (x / 256) (by omega) (x % 256) (by omega)
  rw [show 256 * (x / 256) + x % 256 = x by omega] at this
  exact this h0
theorem ones_L {x : Nat} : ∀ (f y : Nat), x < 65536 → x < f → fX12_onesOf_L4 f (nI y) (nI x) = some (nI (y + bcN x)) := by
  induction x using Nat.strongRecOn with
  | ind x ih =>
    intro f y hx hf
    obtain ⟨f, rfl⟩ : ∃ g, f = g + 1 := ⟨f - 1, by omega⟩
    rw [fX12_onesOf_L4]
    by_cases h0 : x = 0
    · subst h0
      rw [if_pos nI_0]
      rfl
    · rw [if_neg (nI_ne0 (by omega) (by omega))]
      dsimp only [bnd]
      rw [nI_1, nI_sub1 (by omega), fa_and]
      have h1 : x &&& (x - 1) ≤ x - 1 := Nat.and_le_right
      rw [ih _ (by omega) f (y + 1) (by omega) (by omega), ← bcN_step hx h0]
      congr 2; omega
theorem ones_nI {x : Nat} (hx : x < 65536) : fX12_onesOf (nI x) = some (nI (bcN x)) := by
  have := ones_L (x := x) FU 0 hx (FU_gt (by omega))
  rw [nI_0, Nat.zero_add] at this
  exact this
theorem ones_bc {x : Nat} (hx : x < 65536) : fX12_onesOf (nI x) = some (fJ6_bitCount_0f7a4 (nI x)) := by rw [ones_nI hx, bc_nI hx]
theorem shl1_nI : ∀ n, n < 31 → jshl 1 (nI n) = nI (2 ^ n) := by decide +kernel
/-- a set by its members below n -/
def bN (f : Nat → Bool) : Nat → Nat
  | 0 => 0
  | n + 1 => if f n then bN f n + 2 ^ n else bN f n
theorem bN_lt (f : Nat → Bool) : ∀ n, bN f n < 2 ^ n
  | 0 => Nat.zero_lt_one
  | n + 1 => by
    have := bN_lt f n
    unfold bN
    rw [Nat.pow_succ]
    split <;> omega
theorem bN_or (f : Nat → Bool) {n : Nat} (hn : n < 31) : nI (bN f n) ||| jshl 1 (nI n) = nI (bN f n + 2 ^ n) := by
  rw [shl1_nI n hn, fa_or]
  congr 1
  have := Nat.two_pow_add_eq_or_of_lt (bN_lt f n) 1
  rw [Nat.mul_one] at this
  rw [Nat.or_comm, ← this, Nat.add_comm]
theorem bN_congr {f g : Nat → Bool} : ∀ {n : Nat}, (∀ i, i < n → f i = g i) → bN f n = bN g n
  | 0, _ => rfl
  | n + 1, h => by
    unfold bN
    rw [h n (by omega), bN_congr (fun i hi => h i (by omega))]
/-! the loops that gather a set -/
theorem those_L {M : Mem} {k B : Nat} {z : Int32} (hB : M k 5 = nI B) (hB14 : B ≤ 14) : ∀ (f i : Nat), i ≤ B → B - i < f → fX9_thoseThatAre_L4 k z M f (nI (bN (fun b => decide (M (k + 9) b = z)) i)) (nI i) = some (nI (bN (fun b => decide (M (k + 9) b = z)) B))
  | 0, i, hi, hf => by omega
  | f + 1, i, hi, hf => by
    rw [fX9_thoseThatAre_L4, hB]
    by_cases c1 : B ≤ i
    · rw [if_pos (nI_le c1 (by omega)), show i = B by omega]
    · rw [if_neg (nI_ge (show i < B by omega) (by omega)), rd_nI (by omega), Option.bind_some]
      dsimp only [jn, bnd]
      have ih := those_L (z := z) hB hB14 f (i + 1) (by omega) (by omega)
      rw [bN] at ih
      by_cases c2 : M (k + 9) i = z
      · rw [if_pos c2, nI_1, bN_or _ (by omega)]
        simpa [c2] using ih
      · rw [if_neg c2, nI_1]
        simpa [c2] using ih
theorem those_eq {M : Mem} {k B : Nat} (z : Int32) (hB : M k 5 = nI B) (hB14 : B ≤ 14) : fX9_thoseThatAre k z M = some (nI (bN (fun b => decide (M (k + 9) b = z)) B)) := by
  have := those_L (z := z) hB hB14 FU 0 (by omega) (FU_gt (by omega))
  exact this
theorem setIs_L {M : Mem} {B : Nat} {z : Int32} (hB : M 198 7 = nI B) (hB14 : B ≤ 14) : ∀ (f i : Nat), i ≤ B → B - i < f → fX12_setThatIs_L4 z M f (nI (bN (fun b => decide (M 199 (69 + b) = z)) i)) (nI i) = some (nI (bN (fun b => decide (M 199 (69 + b) = z)) B))
  | 0, i, hi, hf => by omega
  | f + 1, i, hi, hf => by
    rw [fX12_setThatIs_L4, hB]
    by_cases c1 : B ≤ i
    · rw [if_pos (nI_le c1 (by omega)), show i = B by omega]
    · rw [if_neg (nI_ge (show i < B by omega) (by omega)), ladd 69 i, rd_nI (by omega), Option.bind_some]
      dsimp only [jn, bnd]
      have ih := setIs_L (z := z) hB hB14 f (i + 1) (by omega) (by omega)
      rw [bN] at ih
      by_cases c2 : M 199 (69 + i) = z
      · rw [if_pos c2, nI_1, bN_or _ (by omega)]
        simpa [c2] using ih
      · rw [if_neg c2, nI_1]
        simpa [c2] using ih
theorem setIs_eq {M : Mem} {B : Nat} (z : Int32) (hB : M 198 7 = nI B) (hB14 : B ≤ 14) : fX12_setThatIs z M = some (nI (bN (fun b => decide (M 199 (69 + b) = z)) B)) := setIs_L (z := z) hB hB14 FU 0 (by omega) (FU_gt (by omega))
theorem barC_L {M : Mem} {B : Nat} {z : Int32} (hB : M 2 5 = nI B) (hB14 : B ≤ 14) : ∀ (f i : Nat), i ≤ B → B - i < f → fX9_bargainsOf_L4 z M f (nI (bN (fun b => decide (M 6 b = z ∨ M 7 b = z)) i)) (nI i) = some (nI (bN (fun b => decide (M 6 b = z ∨ M 7 b = z)) B))
  | 0, i, hi, hf => by omega
  | f + 1, i, hi, hf => by
    rw [fX9_bargainsOf_L4, hB]
    by_cases c1 : B ≤ i
    · rw [if_pos (nI_le c1 (by omega)), show i = B by omega]
    · have e1 : fX9_isOneOf (nI i) z M = some (if M 6 i = z ∨ M 7 i = z then 1 else 0) := by
        unfold fX9_isOneOf fX9_hasBargain
        rw [hB, if_neg (nI_pos (by omega)), if_neg (nI_ge (show i < B by omega) (by omega)), if_neg one_ne, rd_nI (by omega), Option.bind_some, rd_nI (by omega), Option.bind_some]
        by_cases d1 : M 6 i = z
        · rw [if_pos d1, if_pos (Or.inl d1)]
        · by_cases d2 : M 7 i = z
          · rw [if_neg d1, if_pos d2, if_pos (Or.inr d2)]
          · rw [if_neg d1, if_neg d2, if_neg (fun q => q.elim d1 d2)]
      rw [if_neg (nI_ge (show i < B by omega) (by omega)), e1, Option.bind_some]
      dsimp only [jn, bnd]
      have ih := barC_L (z := z) hB hB14 f (i + 1) (by omega) (by omega)
      rw [bN] at ih
      by_cases c2 : M 6 i = z ∨ M 7 i = z
      · rw [if_pos c2, if_neg one_ne, nI_1, bN_or _ (by omega)]
        simpa [c2] using ih
      · rw [if_neg c2, if_pos rfl, nI_1]
        simpa [c2] using ih
theorem barC_eq {M : Mem} {B : Nat} (z : Int32) (hB : M 2 5 = nI B) (hB14 : B ≤ 14) : fX9_bargainsOf z M = some (nI (bN (fun b => decide (M 6 b = z ∨ M 7 b = z)) B)) := barC_L (z := z) hB hB14 FU 0 (by omega) (FU_gt (by omega))
theorem barM_L {M : Mem} {B : Nat} {z : Int32} (hB : M 198 7 = nI B) (hB14 : B ≤ 14) : ∀ (f i : Nat), i ≤ B → B - i < f → fX12_bargainsOf_L4 z M f (nI (bN (fun b => decide (M 202 b = z ∨ M 203 b = z)) i)) (nI i) = some (nI (bN (fun b => decide (M 202 b = z ∨ M 203 b = z)) B))
  | 0, i, hi, hf => by omega
  | f + 1, i, hi, hf => by
    rw [fX12_bargainsOf_L4, hB]
    by_cases c1 : B ≤ i
    · rw [if_pos (nI_le c1 (by omega)), show i = B by omega]
    · rw [if_neg (nI_ge (show i < B by omega) (by omega)), rd_nI (by omega), Option.bind_some]
      dsimp only [jn, bnd]
      rw [rd_nI (by omega), Option.bind_some]
      have ih := barM_L (z := z) hB hB14 f (i + 1) (by omega) (by omega)
      rw [bN] at ih
      rw [nI_1, bN_or _ (by omega)]
      by_cases d1 : M 202 i = z
      · rw [if_pos d1]
        simpa [d1] using ih
      · by_cases d2 : M 203 i = z
        · rw [if_neg d1, if_pos d2]
          simpa [d1, d2] using ih
        · rw [if_neg d1, if_neg d2]
          simpa [d1, d2] using ih
theorem barM_eq {M : Mem} {B : Nat} (z : Int32) (hB : M 198 7 = nI B) (hB14 : B ≤ 14) : fX12_bargainsOf z M = some (nI (bN (fun b => decide (M 202 b = z ∨ M 203 b = z)) B)) := barM_L (z := z) hB hB14 FU 0 (by omega) (FU_gt (by omega))
