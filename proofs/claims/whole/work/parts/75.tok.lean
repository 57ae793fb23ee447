/-! ===== text: bytes, words ===== -/
def ck (x : Nat) : Nat := if (97 ≤ x ∧ x ≤ 122) ∨ (65 ≤ x ∧ x ≤ 90) then 1 else if 48 ≤ x ∧ x ≤ 57 then 2 else if x = 32 ∨ x = 10 then 4 else 3
def mk (x : Nat) : Bool := decide (x = 59) || (decide (x = 43) || (decide (x = 45) || (decide (x = 42) || (decide (x = 47) || (decide (x = 40) || (decide (x = 41) || (decide (x = 60) || (decide (x = 61) || decide (x = 62)))))))))
def kf (v1 : Int32) : Option Int32 :=
  jn (jn (jn (if v1 = 32 then (some 4) else (if v1 = 10 then (some 4) else (some 3))) fun (J4 : Option (Int32)) => if v1 < 48 then (J4) else (if 57 < v1 then (J4) else (some 2))) fun (J3 : Option (Int32)) => if v1 < 65 then (J3) else (if 90 < v1 then (J3) else (some 1))) fun (J2 : Option (Int32)) => if v1 < 97 then (J2) else (if v1 ≤ 122 then (some 1) else (J2))
theorem kf_is : ∀ x, x < 256 → kf (ji2b (nI x)) = some (nI (ck x)) := by decide +kernel
theorem ref_is : ∀ x, x < 256 → fX12_isLetter (nI x) = (if ck x = 1 then 1 else 0) ∧ fX12_isDigit (nI x) = (if ck x = 2 then 1 else 0) ∧ ((nI x = 32 ∨ nI x = 10) ↔ ck x = 4) ∧ fX12_isMarkSign (nI x) = (if mk x then 1 else 0) ∧ ¬ nI x = -1 := by decide +kernel
theorem sig_is : ∀ x, x < 256 → ∀ c, c < 64 → (ji2b (nI x) = nI c ↔ x = c) := by decide +kernel
theorem mk_lt : ∀ x, x < 256 → mk x = true → x < 64 ∧ 40 ≤ x ∧ ck x = 3 := by decide +kernel
theorem mk_all (c : Nat) (h : mk c = true) : c < 256 := by
  unfold mk at h
  simp only [Bool.or_eq_true, decide_eq_true_eq] at h
  omega
theorem dig_is : ∀ x, x < 256 → ck x = 2 → 48 ≤ x ∧ x ≤ 57 ∧ ji2b (nI x) = nI x := by decide +kernel
theorem let_is : ∀ x, x < 256 → ck x = 1 → x ≠ 32 := by decide +kernel
def wOff : List Nat := [1, 7, 13, 19, 24, 27, 31, 35, 40, 47, 55, 61, 65, 71, 77, 82, 87, 91, 94, 102, 108, 115]
def wLen : List Nat := [5, 5, 5, 4, 2, 3, 3, 4, 6, 7, 5, 3, 5, 5, 4, 4, 3, 2, 7, 5, 6, 2]
def wOf (w : Nat) : Nat := wOff.getD w 118
def wLn (w : Nat) : Nat := wLen.getD w 0
def wLt (w j : Nat) : Int32 := wordsL.getD (wOf w + j) 0
def wmap (i : Nat) : Nat := [0, 1, 2, 7, 8, 9, 10, 11, 12, 13, 14, 15, 16, 3, 6, 5, 4, 18, 17, 21, 20, 19].getD i 0
theorem w_tab : ∀ w, w < 22 → (∀ j, j < wLn w → ¬ wLt w j = 32) ∧ wLt w (wLn w) = 32 ∧ wOf w + wLn w + 1 = wOf (w + 1) ∧ wOf w + wLn w ≤ 117 ∧ 1 ≤ wOf w ∧ 1 ≤ wLn w ∧ wLn w ≤ 7 := by decide +kernel
theorem w_map : ∀ i, i < 22 → wmap i < 22 ∧ slen i = wLn (wmap i) ∧ ∀ j, j < slen i → sbyt i j = wLt (wmap i) j ∧ ji2c (sbyt i j &&& 255) = wLt (wmap i) j := by decide +kernel
theorem w_inj : ∀ i, i < 22 → ∀ j, j < 22 → wmap i = wmap j → i = j := by decide +kernel
theorem w_dist : ∀ w, w < 22 → ∀ v, v < 22 → wLn w = wLn v → (∀ j, j < wLn w → wLt w j = wLt v j) → w = v := by decide +kernel
theorem w_let : ∀ w, w < 22 → ∀ j, j < wLn w → ∃ y, y < 128 ∧ wLt w j = nI y := by
  intro w hw j hj
  have : ∀ w, w < 22 → ∀ j, j < wLn w → wLt w j = nI (wLt w j).toNatClampNeg ∧ (wLt w j).toNatClampNeg < 128 := by decide +kernel
  obtain ⟨a, b⟩ := this w hw j hj
  exact ⟨_, b, a⟩
theorem sig128 {x y : Nat} (hx : x < 256) (hy : y < 128) : ji2b (nI x) = nI y ↔ x = y := by
  by_cases c : x < 128
  · have : ji2b (nI x) = nI x := fa_byte_small c
    rw [this, nI_eqb (by omega) (by omega)]
  · have : ∀ x, x < 256 → 128 ≤ x → ji2b (nI x) < 0 := by decide +kernel
    have h := this x hx (by omega)
    constructor
    · intro e; rw [e] at h; exact absurd h (nI_pos (by omega))
    · intro e; omega
/-- the TAPE in both memories -/
def TpR (L : Nat) (b : Nat → Nat) (Mc Mm : Mem) : Prop := L ≤ 400 ∧ Mc 178 1 = nI L ∧ Mm 198 13 = nI L ∧ (∀ i, i < L → b i < 256 ∧ Mm 206 i = nI (b i) ∧ Mc 179 i = ji2b (nI (b i))) ∧ ∀ i, i < 118 → Mm 207 i = wordsL.getD i 0
section TOK
variable {L : Nat} {b : Nat → Nat} {Mc Mm : Mem}
theorem kind_at (h : TpR L b Mc Mm) {i : Nat} (hi : i < L) : fX8_kindAt (nI i) Mc = some (nI (ck (b i))) := by
  obtain ⟨h1, h2, h3, h4, h5⟩ := h
  obtain ⟨a1, a2, a3⟩ := h4 i hi
  unfold fX8_kindAt
  rw [if_neg (nI_pos (by omega)), h2, if_neg (nI_ge hi (by omega)), if_pos (show nI i < (400 : Int32) from nI_lt (show i < 400 by omega) (by decide)), rd_nI (by omega), a3, Option.bind_some]
  exact kf_is (b i) a1
theorem kind_end (h : TpR L b Mc Mm) {i : Nat} (hi : L ≤ i) (hi2 : i < 2 ^ 31) : fX8_kindAt (nI i) Mc = some 0 := by
  unfold fX8_kindAt
  rw [if_neg (nI_pos hi2), h.2.1, if_pos (nI_le hi hi2)]
theorem raw_at (h : TpR L b Mc Mm) {i : Nat} (hi : i < L) : fX12_raw (nI i) Mm = some (nI (b i)) := by
  obtain ⟨h1, h2, h3, h4, h5⟩ := h
  obtain ⟨a1, a2, a3⟩ := h4 i hi
  unfold fX12_raw
  rw [h3, if_neg (nI_ge hi (by omega)), rd_nI (by omega), a2]; rfl
theorem raw_end (h : TpR L b Mc Mm) {i : Nat} (hi : L ≤ i) (hi2 : i < 2 ^ 31) : fX12_raw (nI i) Mm = some (-1) := by
  unfold fX12_raw
  rw [h.2.2.1, if_pos (nI_le hi hi2)]
theorem TpR_c {Mc' : Mem} (h : TpR L b Mc Mm) (e1 : Mc' 178 1 = Mc 178 1) (e2 : Mc' 179 = Mc 179) : TpR L b Mc' Mm := by
  unfold TpR at *; rw [e1, e2]; exact h
theorem TpR_m {Mm' : Mem} (h : TpR L b Mc Mm) (e1 : Mm' 198 13 = Mm 198 13) (e2 : Mm' 206 = Mm 206) (e3 : Mm' 207 = Mm 207) : TpR L b Mc Mm' := by
  unfold TpR at *; rw [e1, e2, e3]; exact h
/-- a word of the reference's row against bytes p .. e -/
def wMt (b : Nat → Nat) (w p e : Nat) : Prop := e = p + wLn w ∧ ∀ j, j < wLn w → nI (b (p + j)) = wLt w j
theorem wa_in (h : TpR L b Mc Mm) {w p e : Nat} (hw : w < 22) (hp : p ≤ e) (he : e ≤ L) (hl : ∀ i, p ≤ i → i < e → ck (b i) = 1) : ∀ (k F j : Nat), j + k = wLn w + 1 → k < F → (∀ i, i < j → nI (b (p + i)) = wLt w i) → p + j ≤ e → ∃ m, p + m ≤ e ∧ m ≤ wLn w ∧ (∀ i, i < m → nI (b (p + i)) = wLt w i) ∧ (p + m = e ∨ ¬ wLt w m = nI (b (p + m))) ∧ ∀ K, fX12_wordAt_L19 K (nI p) (nI e) (nI (wOf w - 1)) Mm F (nI j) = K (nI m)
  | k, 0, j, _, q, _, _ => by omega
  | k, F + 1, j, h1, h2, h3, h4 => by
    obtain ⟨t1, t2, t3, t4, t5, t6, t7⟩ := w_tab w hw
    have hL := h.1
    by_cases c : e ≤ p + j
    · have hj : j ≤ wLn w := by
        rcases Nat.lt_or_ge (wLn w) j with q | q
        · exfalso
          have := h3 (wLn w) q
          rw [t2] at this
          have := let_is (b (p + wLn w)) (h.2.2.2.1 _ (by omega)).1 (hl _ (by omega) (by omega))
          have e32 : nI (b (p + wLn w)) = nI 32 := by rw [‹nI (b (p + wLn w)) = 32›]; rfl
          exact this ((nI_eqb (by have := (h.2.2.2.1 (p + wLn w) (by omega)).1; omega) (by omega)).mp e32)
        · exact q
      exact ⟨j, h4, hj, h3, Or.inl (by omega), fun K => by rw [fX12_wordAt_L19, nI_add, if_pos (nI_le c (by omega))]⟩
    · have hb := (h.2.2.2.1 (p + j) (by omega)).1
      have h206 := (h.2.2.2.1 (p + j) (by omega)).2.1
      have hj : j ≤ wLn w := by
        rcases Nat.lt_or_ge (wLn w) j with q | q
        · exfalso
          have := h3 (wLn w) q
          rw [t2] at this
          have := let_is (b (p + wLn w)) (h.2.2.2.1 _ (by omega)).1 (hl _ (by omega) (by omega))
          have e32 : nI (b (p + wLn w)) = nI 32 := by rw [‹nI (b (p + wLn w)) = 32›]; rfl
          exact this ((nI_eqb (by have := (h.2.2.2.1 (p + wLn w) (by omega)).1; omega) (by omega)).mp e32)
        · exact q
      have ei : nI (wOf w - 1) + 1 + nI j = nI (wOf w + j) := by rw [nI_1, nI_add, show wOf w - 1 + 1 = wOf w by omega]
      have st : ∀ K, fX12_wordAt_L19 K (nI p) (nI e) (nI (wOf w - 1)) Mm (F + 1) (nI j) = if wLt w j = nI (b (p + j)) then fX12_wordAt_L19 K (nI p) (nI e) (nI (wOf w - 1)) Mm F (nI (j + 1)) else K (nI j) := fun K => by
        rw [fX12_wordAt_L19, nI_add, if_neg (nI_ge (by omega) (by omega)), ei, rd_nI (by omega), h.2.2.2.2 _ (by omega), Option.bind_some, rd_nI (by omega), h206, Option.bind_some, bnd_eq, nI_1]
        rfl
      by_cases d : wLt w j = nI (b (p + j))
      · have hj2 : j < wLn w := by
          rcases Nat.lt_or_ge j (wLn w) with q | q
          · exact q
          · exfalso
            have e1 : j = wLn w := by omega
            rw [e1, t2] at d
            have := let_is (b (p + wLn w)) (h.2.2.2.1 _ (by omega)).1 (hl _ (by omega) (by omega))
            exact this ((nI_eqb (by have := (h.2.2.2.1 (p + wLn w) (by omega)).1; omega) (by omega)).mp (show nI (b (p + wLn w)) = nI 32 from d.symm))
        cases k with
        | zero => omega
        | succ k =>
          obtain ⟨m, m1, m2, m3, m4, m5⟩ := wa_in h hw hp he hl k F (j + 1) (by omega) (by omega) (fun i hi => by
            by_cases q : i = j
            · subst q; exact d.symm
            · exact h3 i (by omega)) (by omega)
          exact ⟨m, m1, m2, m3, m4, fun K => by rw [st, if_pos d, m5]⟩
      · exact ⟨j, h4, hj, h3, Or.inr d, fun K => by rw [st, if_neg d]⟩
theorem wa_sp (h : TpR L b Mc Mm) {w : Nat} (hw : w < 22) : ∀ (k F j : Nat), j + k = wLn w → k < F → ∀ K, fX12_wordAt_L93 K Mm F (nI (wOf w + j)) = K (nI (wOf w + wLn w))
  | k, 0, j, _, q => by omega
  | 0, F + 1, j, h1, h2 => fun K => by
    obtain ⟨t1, t2, t3, t4, t5, t6, t7⟩ := w_tab w hw
    have e : j = wLn w := by omega
    rw [fX12_wordAt_L93, rd_nI (by omega), h.2.2.2.2 _ (by omega), Option.bind_some, e, if_pos (show wordsL.getD (wOf w + wLn w) 0 = 32 from t2)]
  | k + 1, F + 1, j, h1, h2 => fun K => by
    obtain ⟨t1, t2, t3, t4, t5, t6, t7⟩ := w_tab w hw
    rw [fX12_wordAt_L93, rd_nI (by omega), h.2.2.2.2 _ (by omega), Option.bind_some, if_neg (show ¬ wordsL.getD (wOf w + j) 0 = 32 from t1 j (by omega)), bnd_eq, nI_1]
    exact wa_sp h hw k F (j + 1) (by omega) (by omega) K
theorem wa_loop (h : TpR L b Mc Mm) {p e : Nat} (hp : p ≤ e) (he : e ≤ L) (hl : ∀ i, p ≤ i → i < e → ck (b i) = 1) : ∀ (k F w : Nat) (y : Int32), w + k = 22 → k < F → y + 1 = nI w → (∃ v, w ≤ v ∧ v < 22 ∧ wMt b v p e ∧ fX12_wordAt_L5 (nI p) (nI e) Mm F y (nI (wOf w - 1)) = some (nI v)) ∨ ((∀ v, w ≤ v → v < 22 → ¬ wMt b v p e) ∧ fX12_wordAt_L5 (nI p) (nI e) Mm F y (nI (wOf w - 1)) = some (-1))
  | k, 0, w, y, _, q, _ => by omega
  | 0, F + 1, w, y, h1, h2, h3 => by
    have ew : w = 22 := by omega
    subst ew
    refine Or.inr ⟨fun v a b => by omega, ?_⟩
    have c : (117 : Int32) ≤ nI (wOf 22 - 1) := by decide
    rw [fX12_wordAt_L5, if_pos c]
  | k + 1, F + 1, w, y, h1, h2, h3 => by
    have hw : w < 22 := by omega
    obtain ⟨t1, t2, t3, t4, t5, t6, t7⟩ := w_tab w hw
    have hL := h.1
    obtain ⟨m, m1, m2, m3, m4, m5⟩ := wa_in h hw hp he hl (wLn w + 1) FU 0 (by omega) (FU_gt (by omega)) (fun i hi => by omega) (by omega)
    have c : ¬ (117 : Int32) ≤ nI (wOf w - 1) := nI_ge (show wOf w - 1 < 117 by omega) (by decide)
    have ei : nI (wOf w - 1) + 1 + nI m = nI (wOf w + m) := by rw [nI_1, nI_add, show wOf w - 1 + 1 = wOf w by omega]
    have sp := wa_sp h hw (wLn w) FU 0 (by omega) (FU_gt (by omega))
    have nx : nI (wOf w + wLn w) = nI (wOf (w + 1) - 1) := by rw [← t3, Nat.add_sub_cancel]
    have st : fX12_wordAt_L5 (nI p) (nI e) Mm (F + 1) y (nI (wOf w - 1)) = if nI (p + m) = nI e then (if wLt w m = 32 then some (nI w) else fX12_wordAt_L5 (nI p) (nI e) Mm F (nI w) (nI (wOf (w + 1) - 1))) else fX12_wordAt_L5 (nI p) (nI e) Mm F (nI w) (nI (wOf (w + 1) - 1)) := by
      rw [nI_0] at m5
      rw [fX12_wordAt_L5, if_neg c, bnd_eq, h3, m5, jn_eq, bnd_eq, nI_1, show wOf w - 1 + 1 = wOf w + 0 by omega, sp, nx, nI_add]
      rw [show nI (wOf w + 0) + nI m = nI (wOf w + m) from by rw [nI_add]; rfl, rd_nI (by omega), h.2.2.2.2 _ (by omega), Option.bind_some]
      rfl
    have rec_ : ¬ wMt b w p e → fX12_wordAt_L5 (nI p) (nI e) Mm (F + 1) y (nI (wOf w - 1)) = fX12_wordAt_L5 (nI p) (nI e) Mm F (nI w) (nI (wOf (w + 1) - 1)) → (∃ v, w ≤ v ∧ v < 22 ∧ wMt b v p e ∧ fX12_wordAt_L5 (nI p) (nI e) Mm (F + 1) y (nI (wOf w - 1)) = some (nI v)) ∨ ((∀ v, w ≤ v → v < 22 → ¬ wMt b v p e) ∧ fX12_wordAt_L5 (nI p) (nI e) Mm (F + 1) y (nI (wOf w - 1)) = some (-1)) := fun q1 q2 => by
      rcases wa_loop h hp he hl k F (w + 1) (nI w) (by omega) (by omega) (nI_1 w) with ⟨v, v1, v2, v3, v4⟩ | ⟨v1, v2⟩
      · exact Or.inl ⟨v, by omega, v2, v3, by rw [q2]; exact v4⟩
      · refine Or.inr ⟨fun v a b => ?_, by rw [q2]; exact v2⟩
        by_cases e : v = w
        · subst e; exact q1
        · exact v1 v (by omega) b
    by_cases c1 : p + m = e
    · by_cases c2 : wLt w m = 32
      · have em : m = wLn w := by
          rcases Nat.lt_or_ge m (wLn w) with q | q
          · exact absurd c2 (t1 m q)
          · omega
        refine Or.inl ⟨w, Nat.le_refl _, hw, ⟨by omega, fun j hj => m3 j (by omega)⟩, ?_⟩
        rw [st, if_pos (by rw [c1]), if_pos c2]
      · refine rec_ (fun q => ?_) ?_
        · have : m = wLn w := by have := q.1; omega
          rw [this] at c2; exact c2 t2
        · rw [st, if_pos (by rw [c1]), if_neg c2]
    · refine rec_ (fun q => ?_) ?_
      · rcases m4 with q' | q'
        · exact c1 q'
        · have := q.1
          exact q' (q.2 m (by omega)).symm
      · rw [st, if_neg (fun q => c1 ((nI_eqb (by omega) (by omega)).mp q))]
theorem wordAt_is (h : TpR L b Mc Mm) {p e : Nat} (hp : p ≤ e) (he : e ≤ L) (hl : ∀ i, p ≤ i → i < e → ck (b i) = 1) : (∃ v, v < 22 ∧ wMt b v p e ∧ fX12_wordAt (nI p) (nI e) Mm = some (nI v)) ∨ ((∀ v, v < 22 → ¬ wMt b v p e) ∧ fX12_wordAt (nI p) (nI e) Mm = some (-1)) := by
  have e0 : nI (wOf 0 - 1) = 0 := by decide
  have := wa_loop h hp he hl 22 FU 0 (-1) (by omega) (FU_gt (by omega)) (by decide)
  rw [e0] at this
  rcases this with ⟨v, v1, v2, v3, v4⟩ | ⟨v1, v2⟩
  · exact Or.inl ⟨v, v2, v3, v4⟩
  · exact Or.inr ⟨fun v hv => v1 v (by omega) hv, v2⟩
end TOK
