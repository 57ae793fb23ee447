/-! ===== walks ===== -/
theorem oI_nat {n : Nat} (h : n < 2000000) : oI (n : Int) = nI n := by
  apply Int32.toInt_inj.mp
  unfold oI
  rw [Int32.toInt_ofInt_of_le (by omega) (by omega), nI_toInt (by omega)]
def wn (p : Int × Int) (w : Nat) : Int × Int := if w = 0 then (p.1 + 1, p.2) else if w = 1 then (p.1 - 1, p.2) else if w = 2 then (p.1, p.2 + 1) else (p.1, p.2 - 1)
def wcp (p : Int × Int) : Int := 144 + 17 * p.2 + p.1
def wrp (p : Int × Int) : Int := 5050 + 100 * p.2 + p.1
def wB (p : Int × Int) (k : Nat) : Prop := -8 ≤ p.1 - (k : Int) ∧ p.1 + (k : Int) ≤ 8 ∧ -8 ≤ p.2 - (k : Int) ∧ p.2 + (k : Int) ≤ 8
theorem wB_0 {p : Int × Int} {k : Nat} (h : wB p k) : wB p 0 := by
  unfold wB at *; omega
theorem wB_n {p : Int × Int} {k w : Nat} (h : wB p (k + 1)) : wB (wn p w) k := by
  unfold wn
  split
  · unfold wB at *; dsimp only; omega
  · split
    · unfold wB at *; dsimp only; omega
    · split
      · unfold wB at *; dsimp only; omega
      · unfold wB at *; dsimp only; omega
theorem wcp_inj {p q : Int × Int} (hp : wB p 0) (hq : wB q 0) : wcp p = wcp q ↔ p = q := by
  refine ⟨fun h => ?_, fun h => by rw [h]⟩
  unfold wcp wB at *
  exact Prod.ext (by omega) (by omega)
theorem wrp_inj {p q : Int × Int} (hp : wB p 0) (hq : wB q 0) : oI (wrp p) = oI (wrp q) ↔ p = q := by
  refine ⟨fun h => ?_, fun h => by rw [h]⟩
  unfold wB at *
  rw [oI_inj (by unfold wrp; omega) (by unfold wrp; omega)] at h
  unfold wrp at h
  exact Prod.ext (by omega) (by omega)
def wC (g : Int × Int → Bool) : Nat → Int × Int → List (Int × Int) → Nat
  | 0, p, P => if p ∈ P then 0 else if g p then 1 else 0
  | k + 1, p, P => if p ∈ P then 0 else wC g k (wn p 0) (p :: P) + wC g k (wn p 1) (p :: P) + wC g k (wn p 2) (p :: P) + wC g k (wn p 3) (p :: P)
theorem w_c0 (p : Int × Int) : oI (wcp p) + 1 = oI (wcp (wn p 0)) := by
  have : (1 : Int32) = oI 1 := by decide
  rw [this, oI_add]; congr 1; show 144 + 17 * p.2 + p.1 + 1 = 144 + 17 * p.2 + (p.1 + 1); omega
theorem w_c1 (p : Int × Int) : oI (wcp p) - 1 = oI (wcp (wn p 1)) := by
  have : (1 : Int32) = oI 1 := by decide
  rw [this]
  show Int32.ofInt (wcp p) - Int32.ofInt 1 = _
  rw [← Int32.ofInt_sub]
  show oI _ = _
  congr 1; show 144 + 17 * p.2 + p.1 - 1 = 144 + 17 * p.2 + (p.1 - 1); omega
theorem w_c2 (p : Int × Int) : oI (wcp p) + 17 = oI (wcp (wn p 2)) := by
  have : (17 : Int32) = oI 17 := by decide
  rw [this, oI_add]; congr 1; show 144 + 17 * p.2 + p.1 + 17 = 144 + 17 * (p.2 + 1) + p.1; omega
theorem w_c3 (p : Int × Int) : oI (wcp p) - 17 = oI (wcp (wn p 3)) := by
  have : (17 : Int32) = oI 17 := by decide
  rw [this]
  show Int32.ofInt (wcp p) - Int32.ofInt 17 = _
  rw [← Int32.ofInt_sub]
  show oI _ = _
  congr 1; show 144 + 17 * p.2 + p.1 - 17 = 144 + 17 * (p.2 - 1) + p.1; omega
theorem w_cls {g : Int × Int → Bool} {goal : Int32} (hg : ∀ p, wB p 0 → (g p = true ↔ (goal = -1 ∨ goal = oI (wcp p)))) : ∀ (k F : Nat) (p : Int × Int) (P : List (Int × Int)) (M : Mem), k < F → wB p k → (∀ q ∈ P, wB q 0) → (∀ i : Nat, i < 289 → M 196 i = if P.any (fun q => decide (wcp q = (i : Int))) then 1 else 0) → fX5_walksFrom F (oI (wcp p)) (nI k) goal M = some (nI (wC g k p P), M)
  | k, 0, p, P, M, h, _, _, _ => by omega
  | k, F + 1, p, P, M, h1, h2, h3, h4 => by
    obtain ⟨i, hi, hi2⟩ : ∃ i : Nat, i < 289 ∧ wcp p = i := ⟨(wcp p).toNat, by unfold wcp wB at *; omega, by unfold wcp wB at *; omega⟩
    have eI : oI (wcp p) = nI i := by rw [hi2]; exact oI_nat (by omega)
    have c9 : ¬ (289 : Int32) ≤ nI i := nI_ge (show i < 289 from hi) (by decide)
    have hmem : P.any (fun q => decide (wcp q = (i : Int))) = true ↔ p ∈ P := by
      rw [List.any_eq_true]
      constructor
      · rintro ⟨q, q1, q2⟩
        have := of_decide_eq_true q2
        rw [← hi2, wcp_inj (h3 q q1) (wB_0 h2)] at this
        rw [← this]; exact q1
      · intro h; exact ⟨p, h, decide_eq_true hi2⟩
    have st : fX5_walksFrom (F + 1) (oI (wcp p)) (nI k) goal M = if M 196 i = 0 then (if 0 < nI k then ((wr M 196 289 (nI i) (nzb 1)).bind fun M2 => (fX5_walksFrom F (oI (wcp p) + 17) (nI k - 1) goal M2).bind fun r3 => (fX5_walksFrom F (oI (wcp p) + 1) (nI k - 1) goal r3.2).bind fun r4 => (fX5_walksFrom F (oI (wcp p) - 17) (nI k - 1) goal r4.2).bind fun r5 => (fX5_walksFrom F (oI (wcp p) - 1) (nI k - 1) goal r5.2).bind fun r6 => (wr r6.2 196 289 (nI i) (nzb 0)).bind fun M8 => some (((r3.1 + r4.1) + r5.1) + r6.1, M8)) else (if goal = -1 then some (1, M) else if goal = oI (wcp p) then some (1, M) else some (0, M))) else some (0, M) := by
      rw [fX5_walksFrom]
      unfold hX5_walksFrom
      rw [eI, if_neg (nI_pos (by omega)), if_neg c9, rd_nI hi, Option.bind_some]
      rfl
    rw [st, h4 i hi]
    by_cases hp : p ∈ P
    · rw [if_pos (hmem.mpr hp), if_neg one_ne]
      cases k <;> rw [wC, if_pos hp] <;> rfl
    · rw [if_neg (fun q => hp (hmem.mp q)), if_pos rfl]
      cases k with
      | zero =>
        have c : ¬ (0 : Int32) < nI 0 := by decide
        rw [if_neg c, wC, if_neg hp]
        by_cases q1 : goal = -1
        · rw [if_pos q1, if_pos ((hg p (wB_0 h2)).mpr (Or.inl q1))]; rfl
        · by_cases q2 : goal = oI (wcp p)
          · rw [if_neg q1, if_pos q2, if_pos ((hg p (wB_0 h2)).mpr (Or.inr q2))]; rfl
          · rw [if_neg q1, if_neg q2, if_neg (fun q => ((hg p (wB_0 h2)).mp q).elim q1 q2)]; rfl
      | succ k =>
        have c : (0 : Int32) < nI (k + 1) := nI_lt (a := 0) (by omega) (by unfold wB at h2; omega)
        have n1 : nzb 1 = 1 := by decide
        have n0 : nzb 0 = 0 := by decide
        have h3' : ∀ q ∈ p :: P, wB q 0 := fun q hq => (List.mem_cons.mp hq).elim (fun e => e ▸ wB_0 h2) (h3 q)
        have h4' : ∀ j : Nat, j < 289 → mu M 196 i 1 196 j = if (p :: P).any (fun q => decide (wcp q = (j : Int))) then 1 else 0 := fun j hj => by
          rw [List.any_cons]
          by_cases q : j = i
          · subst q; rw [mu_s, decide_eq_true hi2, Bool.true_or, if_pos rfl]
          · rw [mu_i q, decide_eq_false (by omega), Bool.false_or]; exact h4 j hj
        have r := fun w => w_cls hg k F (wn p w) (p :: P) (mu M 196 i 1) (by omega) (wB_n h2) h3' h4'
        have m0 : M 196 i = 0 := by rw [h4 i hi, if_neg (fun q => hp (hmem.mp q))]
        rw [if_pos c, wr_nI hi, n1, Option.bind_some, nI_pred, w_c0, w_c1, w_c2, w_c3, r 2, Option.bind_some, r 0, Option.bind_some, r 3, Option.bind_some, r 1, Option.bind_some, wr_nI hi, Option.bind_some, n0, mu_mu]
        have e : mu M 196 i 0 = M := by
          have := mu_same M 196 i
          rw [m0] at this; exact this
        rw [e, nI_add, nI_add, nI_add, wC, if_neg hp]
        congr 3
        omega
def wE : Nat → Nat → Int × Int → List (Int × Int) → Option (Int × Int)
  | 0, _, p, _ => some p
  | k + 1, c, p, P => if wn p (c % 4) ∈ p :: P then none else wE k (c / 4) (wn p (c % 4)) (p :: P)
def wV (o : Option (Int × Int)) : Int32 := match o with
  | none => -1
  | some q => oI (wrp q)
def wH (g : Int × Int → Bool) (o : Option (Int × Int)) : Bool := match o with
  | none => false
  | some q => g q
theorem wE_b : ∀ (k c : Nat) (p : Int × Int) (P : List (Int × Int)) (q : Int × Int), wB p k → wE k c p P = some q → wB q 0
  | 0, c, p, P, q, h, e => by
    cases e; exact h
  | k + 1, c, p, P, q, h, e => by
    rw [wE] at e
    by_cases m : wn p (c % 4) ∈ p :: P
    · rw [if_pos m] at e; cases e
    · rw [if_neg m] at e
      exact wE_b k (c / 4) _ _ q (wB_n h) e
theorem cnt_4 (P : Nat → Bool) : ∀ (m y : Nat), cnt P (4 * m) (4 * y) = cnt (fun c => P (4 * c)) m y + cnt (fun c => P (4 * c + 1)) m y + cnt (fun c => P (4 * c + 2)) m y + cnt (fun c => P (4 * c + 3)) m y
  | 0, y => rfl
  | m + 1, y => by
    have := cnt_4 P m (y + 1)
    rw [show 4 * (m + 1) = 4 * m + 1 + 1 + 1 + 1 by omega, cnt, cnt, cnt, cnt, show 4 * y + 1 + 1 + 1 + 1 = 4 * (y + 1) by omega, this, cnt, cnt, cnt, cnt, show 4 * y + 1 + 1 = 4 * y + 2 by omega, show 4 * y + 2 + 1 = 4 * y + 3 by omega]
    omega
theorem cnt_f : ∀ (m y : Nat), cnt (fun _ => false) m y = 0
  | 0, y => rfl
  | m + 1, y => by rw [cnt, cnt_f m (y + 1)]; rfl
theorem w_sum (g : Int × Int → Bool) : ∀ (k : Nat) (p : Int × Int) (P : List (Int × Int)), p ∉ P → cnt (fun c => wH g (wE k c p P)) (4 ^ k) 0 = wC g k p P
  | 0, p, P, h => by
    show (if wH g (wE 0 0 p P) then 1 else 0) + 0 = _
    rw [wC, if_neg h, Nat.add_zero]; rfl
  | k + 1, p, P, h => by
    have e : ∀ w, w < 4 → cnt (fun c => wH g (wE (k + 1) (4 * c + w) p P)) (4 ^ k) 0 = wC g k (wn p w) (p :: P) := fun w hw => by
      have f : (fun c => wH g (wE (k + 1) (4 * c + w) p P)) = fun c => if wn p w ∈ p :: P then false else wH g (wE k c (wn p w) (p :: P)) := funext fun c => by
        rw [wE, show (4 * c + w) % 4 = w by omega, show (4 * c + w) / 4 = c by omega]
        split <;> rfl
      rw [f]
      by_cases m : wn p w ∈ p :: P
      · rw [show (fun c => if wn p w ∈ p :: P then false else wH g (wE k c (wn p w) (p :: P))) = fun _ => false from funext fun c => if_pos m, cnt_f]
        cases k <;> rw [wC, if_pos m]
      · rw [show (fun c => if wn p w ∈ p :: P then false else wH g (wE k c (wn p w) (p :: P))) = fun c => wH g (wE k c (wn p w) (p :: P)) from funext fun c => if_neg m, w_sum g k _ _ m]
    rw [Nat.pow_succ, Nat.mul_comm, show (0 : Nat) = 4 * 0 from rfl, cnt_4, e 1 (by omega), e 2 (by omega), e 3 (by omega), wC, if_neg h, ← e 0 (by omega)]
    rfl
theorem w_mv : ∀ w, w < 4 → ∀ (α : Type) (f : Int32 → α), (jn f fun J => if nI w = 0 then J 1 else if nI w = 1 then J (-1) else if nI w = 2 then J 100 else J (-100)) = f (oI (if w = 0 then 1 else if w = 1 then -1 else if w = 2 then 100 else -100)) := fun w hw => by
  rcases (show w = 0 ∨ w = 1 ∨ w = 2 ∨ w = 3 by omega) with rfl | rfl | rfl | rfl <;> exact fun α J => rfl
theorem w_rp (p : Int × Int) {w : Nat} (hw : w < 4) : oI (wrp p) + oI (if w = 0 then 1 else if w = 1 then -1 else if w = 2 then 100 else -100) = oI (wrp (wn p w)) := by
  rw [oI_add]
  congr 1
  rcases (show w = 0 ∨ w = 1 ∨ w = 2 ∨ w = 3 by omega) with rfl | rfl | rfl | rfl
  · show 5050 + 100 * p.2 + p.1 + 1 = 5050 + 100 * p.2 + (p.1 + 1); omega
  · show 5050 + 100 * p.2 + p.1 + -1 = 5050 + 100 * p.2 + (p.1 - 1); omega
  · show 5050 + 100 * p.2 + p.1 + 100 = 5050 + 100 * (p.2 + 1) + p.1; omega
  · show 5050 + 100 * p.2 + p.1 + -100 = 5050 + 100 * (p.2 - 1) + p.1; omega
theorem w_seen {K : Option (Int32 × Mem)} {M : Mem} {k : Nat} {z : Int32} (hk : k ≤ 9) : ∀ (m F i : Nat), i + m = k → m < F → ((∃ j, i ≤ j ∧ j < k ∧ M 223 j = z) → fX12_walkEnds_L69 K z (nI k) M F (nI i) = some (-1, M)) ∧ ((¬ ∃ j, i ≤ j ∧ j < k ∧ M 223 j = z) → fX12_walkEnds_L69 K z (nI k) M F (nI i) = K)
  | m, 0, i, _, h => by omega
  | 0, F + 1, i, h1, h2 => by
    rw [fX12_walkEnds_L69, if_pos (nI_le (by omega) (by omega))]
    refine ⟨?_, fun _ => rfl⟩
    rintro ⟨j, a, b, -⟩; omega
  | m + 1, F + 1, i, h1, h2 => by
    rw [fX12_walkEnds_L69, if_neg (nI_ge (by omega) (by omega)), rd_nI (by omega), Option.bind_some]
    by_cases c : M 223 i = z
    · rw [if_pos c]
      exact ⟨fun _ => rfl, fun q => absurd ⟨i, by omega, by omega, c⟩ q⟩
    · rw [if_neg c, nI_1]
      obtain ⟨i1, i2⟩ := w_seen (K := K) hk m F (i + 1) (by omega) (by omega)
      refine ⟨?_, fun q => i2 ?_⟩
      · rintro ⟨j, a, b, e⟩
        have : j ≠ i := fun q => c (q ▸ e)
        exact i1 ⟨j, by omega, b, e⟩
      · rintro ⟨j, a, b, e⟩
        exact q ⟨j, by omega, b, e⟩
theorem w_ref {n : Nat} (hn : n ≤ 8) : ∀ (m F k c : Nat) (p : Int × Int) (P : List (Int × Int)) (M : Mem), k + m = n + 1 → m < F → 1 ≤ k → c < 2 ^ 31 → wB p m → (∀ q ∈ P, wB q 0) → (∀ i, i < k → ∃ q ∈ p :: P, M 223 i = oI (wrp q)) → (∀ q ∈ p :: P, ∃ i, i < k ∧ M 223 i = oI (wrp q)) → ∃ M', fX12_walkEnds_L18 (nI n) F (nI c) (oI (wrp p)) (nI k) M = some (wV (wE m c p P), M')
  | m, 0, k, c, p, P, M, _, h, _, _, _, _, _, _ => by omega
  | 0, F + 1, k, c, p, P, M, h1, h2, h3, h4, h5, h6, h7, h8 => by
    refine ⟨M, ?_⟩
    rw [fX12_walkEnds_L18, if_pos (nI_lt (by omega) (by omega))]; rfl
  | m + 1, F + 1, k, c, p, P, M, h1, h2, h3, h4, h5, h6, h7, h8 => by
    have e4 : jrem (nI c) 4 = nI (c % 4) := jrem_nI (d := 4) h4 (by omega) (by omega)
    have d4 : nI c / 4 = nI (c / 4) := pk_div (d := 4) h4 (by omega) (by omega)
    have h6' : ∀ q ∈ p :: P, wB q 0 := fun q hq => (List.mem_cons.mp hq).elim (fun e => e ▸ wB_0 h5) (h6 q)
    have hb' := wB_n (w := c % 4) h5
    have st : fX12_walkEnds_L18 (nI n) (F + 1) (nI c) (oI (wrp p)) (nI k) M = fX12_walkEnds_L69 ((wr M 223 9 (nI k) (oI (wrp (wn p (c % 4))))).bind fun M7 => fX12_walkEnds_L18 (nI n) F (nI (c / 4)) (oI (wrp (wn p (c % 4)))) (nI (k + 1)) M7) (oI (wrp (wn p (c % 4)))) (nI k) M FU (nI 0) := by
      rw [fX12_walkEnds_L18, if_neg (nI_nlt (by omega) (by omega)), e4, bnd_eq, w_mv (c % 4) (by omega), w_rp p (by omega), bnd_eq, d4, nI_1, nI_0]
      rfl
    obtain ⟨s1, s2⟩ := w_seen (K := (wr M 223 9 (nI k) (oI (wrp (wn p (c % 4))))).bind fun M7 => fX12_walkEnds_L18 (nI n) F (nI (c / 4)) (oI (wrp (wn p (c % 4)))) (nI (k + 1)) M7) (M := M) (z := oI (wrp (wn p (c % 4)))) (show k ≤ 9 by omega) k FU 0 (by omega) (FU_gt (by omega))
    rw [st, wE]
    by_cases hm : wn p (c % 4) ∈ p :: P
    · rw [if_pos hm, s1]
      · exact ⟨M, rfl⟩
      · obtain ⟨i, i1, i2⟩ := h8 _ hm
        exact ⟨i, by omega, i1, i2⟩
    · rw [if_neg hm, s2]
      · rw [wr_nI (by omega), Option.bind_some]
        refine w_ref hn m F (k + 1) (c / 4) _ _ _ (by omega) (by omega) (by omega) (by omega) hb' h6' (fun i hi => ?_) (fun q hq => ?_)
        · by_cases e : i = k
          · subst e; exact ⟨_, List.mem_cons_self, mu_s⟩
          · obtain ⟨q, q1, q2⟩ := h7 i (by omega)
            exact ⟨q, List.mem_cons_of_mem _ q1, by rw [mu_i e]; exact q2⟩
        · rcases List.mem_cons.mp hq with e | e
          · subst e; exact ⟨k, by omega, mu_s⟩
          · obtain ⟨i, i1, i2⟩ := h8 q e
            exact ⟨i, by omega, by rw [mu_i (by omega)]; exact i2⟩
      · rintro ⟨i, -, i1, i2⟩
        obtain ⟨q, q1, q2⟩ := h7 i i1
        rw [q2, wrp_inj (h6' q q1) (wB_0 hb')] at i2
        exact hm (i2 ▸ q1)
theorem w_ends {n c : Nat} (hn : n ≤ 8) (hc : c < 2 ^ 31) (M : Mem) : ∃ M', fX12_walkEnds (nI n) (nI c) M = some (wV (wE n c (0, 0) []), M') := by
  unfold fX12_walkEnds
  have w0 : wr M 223 9 0 5050 = some (mu M 223 0 (oI (wrp (0, 0)))) := (wr_nI (j := 0) (by omega)).trans rfl
  have e0 : (5050 : Int32) = oI (wrp (0, 0)) := by decide
  rw [w0, Option.bind_some, e0, show (1 : Int32) = nI 1 from rfl]
  refine w_ref hn n FU 1 c (0, 0) [] _ (by omega) (FU_gt (by omega)) (by omega) hc ?_ (fun q hq => absurd hq List.not_mem_nil) (fun i hi => ?_) (fun q hq => ?_)
  · unfold wB; dsimp only; omega
  · have : i = 0 := by omega
    subst this
    exact ⟨(0, 0), List.mem_cons_self, mu_s⟩
  · rcases List.mem_cons.mp hq with e | e
    · subst e; exact ⟨0, by omega, mu_s⟩
    · exact absurd e List.not_mem_nil
theorem w_4 : ∀ n, n ≤ 8 → jshl 1 (2 * nI n) = nI (4 ^ n) ∧ 4 ^ n ≤ 65536 := by decide +kernel
theorem w_cnt {n : Nat} {zx zy z4 : Int32} {g : Int × Int → Bool} (hn : n ≤ 8) (hg : ∀ q, wB q 0 → (g q = true ↔ (¬ z4 = 0 ∨ oI (wrp q) = 5050 + 100 * zy + zx))) : ∀ (k F a c : Nat) (M : Mem), c + k = 4 ^ n → k < F → ∃ M', fX12_walks_L66 (nI n) zx zy z4 F (nI a) (nI c) M = some (nI (a + cnt (fun c => wH g (wE n c (0, 0) [])) k c), M')
  | k, 0, a, c, M, _, h => by omega
  | 0, F + 1, a, c, M, h1, h2 => by
    have := w_4 n hn
    refine ⟨M, ?_⟩
    rw [fX12_walks_L66, this.1, if_pos (nI_le (by omega) (by omega))]; rfl
  | k + 1, F + 1, a, c, M, h1, h2 => by
    have h4 := w_4 n hn
    obtain ⟨M1, e1⟩ := w_ends hn (show c < 2 ^ 31 by omega) M
    have st : fX12_walks_L66 (nI n) zx zy z4 (F + 1) (nI a) (nI c) M = if wV (wE n c (0, 0) []) = -1 then fX12_walks_L66 (nI n) zx zy z4 F (nI a) (nI (c + 1)) M1 else (if z4 = 0 then (if wV (wE n c (0, 0) []) = 5050 + 100 * zy + zx then fX12_walks_L66 (nI n) zx zy z4 F (nI (a + 1)) (nI (c + 1)) M1 else fX12_walks_L66 (nI n) zx zy z4 F (nI a) (nI (c + 1)) M1) else fX12_walks_L66 (nI n) zx zy z4 F (nI (a + 1)) (nI (c + 1)) M1) := by
      rw [fX12_walks_L66, h4.1, if_neg (nI_ge (by omega) (by omega)), e1, Option.bind_some, nI_1, nI_1]
      rfl
    have key : fX12_walks_L66 (nI n) zx zy z4 (F + 1) (nI a) (nI c) M = fX12_walks_L66 (nI n) zx zy z4 F (nI (a + if wH g (wE n c (0, 0) []) then 1 else 0)) (nI (c + 1)) M1 := by
      rw [st]
      cases hw : wE n c (0, 0) [] with
      | none => rw [if_pos (show wV none = -1 from rfl)]; rfl
      | some q =>
        have hb : wB q 0 := wE_b n c _ _ q (by unfold wB; dsimp only; omega) hw
        have ne : ¬ wV (some q) = -1 := fun e => by
          have e : oI (wrp q) = oI (-1) := e
          rw [oI_inj (by unfold wrp; unfold wB at hb; omega) (by omega)] at e
          unfold wrp at e; unfold wB at hb; omega
        have hgq := hg q hb
        rw [if_neg ne]
        show _ = fX12_walks_L66 (nI n) zx zy z4 F (nI (a + if g q then 1 else 0)) (nI (c + 1)) M1
        by_cases c1 : z4 = 0
        · rw [if_pos c1]
          by_cases c2 : oI (wrp q) = 5050 + 100 * zy + zx
          · rw [if_pos (show wV (some q) = 5050 + 100 * zy + zx from c2), if_pos (hgq.mpr (Or.inr c2))]
          · rw [if_neg (show ¬ wV (some q) = 5050 + 100 * zy + zx from c2), if_neg (fun e => (hgq.mp e).elim (fun e => e c1) c2)]; rfl
        · rw [if_neg c1, if_pos (hgq.mpr (Or.inl c1))]
    obtain ⟨M2, e2⟩ := w_cnt hn hg k F (a + if wH g (wE n c (0, 0) []) then 1 else 0) (c + 1) M1 (by omega) (by omega)
    exact ⟨M2, by rw [key, e2, cnt, Nat.add_assoc]⟩
theorem w_both {n : Nat} {goal zx zy z4 : Int32} {g : Int × Int → Bool} (hn : n ≤ 8) (h1 : ∀ p, wB p 0 → (g p = true ↔ (goal = -1 ∨ goal = oI (wcp p)))) (h2 : ∀ q, wB q 0 → (g q = true ↔ (¬ z4 = 0 ∨ oI (wrp q) = 5050 + 100 * zy + zx))) {Mc Mm : Mem} (hz : ∀ i, i < 289 → Mc 196 i = 0) : ∃ r Mm', fX5_walksTo (nI n) goal Mc = some (r, Mc) ∧ fX12_walks_L66 (nI n) zx zy z4 FU 0 0 Mm = some (r, Mm') := by
  have b0 : wB (0, 0) n := by unfold wB; dsimp only; omega
  have e1 := w_cls h1 n RU (0, 0) [] Mc (Nat.lt_of_le_of_lt hn (by decide)) b0 (fun q hq => absurd hq List.not_mem_nil) (fun i hi => by rw [hz i hi]; rfl)
  obtain ⟨Mm', e2⟩ := w_cnt (zx := zx) (zy := zy) (z4 := z4) hn h2 (4 ^ n) FU 0 0 Mm (by omega) (FU_gt (by have := (w_4 n hn).2; omega))
  rw [Nat.zero_add, w_sum g n (0, 0) [] List.not_mem_nil, nI_0] at e2
  refine ⟨_, Mm', ?_, e2⟩
  unfold fX5_walksTo
  have e0 : (144 : Int32) = oI (wcp (0, 0)) := by decide
  rw [e0, e1]; rfl
theorem in_oI {v : Int32} (h : -8 ≤ v ∧ v ≤ 8) : ∃ x : Int, -8 ≤ x ∧ x ≤ 8 ∧ v = oI x := by
  refine ⟨v.toInt, ?_, ?_, (Int32.ofInt_toInt v).symm⟩
  · have := (fa_le _ _).mp h.1
    exact this
  · have := (fa_le _ _).mp h.2
    exact this
theorem s_walks (p q z : Int32) : Sm (fX11_walks p q z) (fX12_walks p q z) := fun Mc Mm hA => by
  have hz : ∀ i, i < 289 → Mc 196 i = 0 := hA.2.2.2.2.2.2.2.2.2.2.2.1
  have fin : ∀ r Mm', fX11_walks p q z Mc = some (r, Mc) → fX12_walks p q z Mm = some (r, Mm') → ∃ r Mc' Mm', fX11_walks p q z Mc = some (r, Mc') ∧ fX12_walks p q z Mm = some (r, Mm') ∧ AR Mc' Mm' := fun r Mm' e1 e2 => ⟨r, Mc, Mm', e1, e2, AR_m (Agr.of (wX12_walks p q z Mm) e2) (by decide +kernel) hA⟩
  have m0 : fX12_walks p q z Mm = if q = -100 then (if fX12_isIn p 0 8 = 0 then some (-1, mu Mm 198 0 0) else fX12_walks_L66 p q z 1 FU 0 0 (mu Mm 198 0 0)) else (if fX12_isIn p 0 8 = 0 then some (-1, mu Mm 198 0 0) else if fX12_isIn q (-8) 8 = 0 then some (-1, mu Mm 198 0 0) else if fX12_isIn z (-8) 8 = 0 then some (-1, mu Mm 198 0 0) else fX12_walks_L66 p q z 0 FU 0 0 (mu Mm 198 0 0)) := by
    unfold fX12_walks
    rw [bnd_eq, jn_eq]
    by_cases c : q = -100
    · rw [if_pos c, if_pos c]
      dsimp only
      rw [jn_eq, if_neg one_ne]
    · rw [if_neg c, if_neg c]
      dsimp only
      rw [jn_eq, if_pos rfl]
  have c0 : fX11_walks p q z Mc = if fX12_isIn p 0 8 = 0 then some (-1, Mc) else if q = -100 then (fX5_walksTo p (-1) Mc).bind fun r2 => some (r2.1, r2.2) else if fX12_isIn q (-8) 8 = 0 then some (-1, Mc) else if fX12_isIn z (-8) 8 = 0 then some (-1, Mc) else (fX5_walksTo p ((((z + 8) * 17) + q) + 8) Mc).bind fun r1 => some (r1.1, r1.2) := rfl
  by_cases c1 : ¬ (0 ≤ p ∧ p ≤ 8)
  · refine fin (-1) _ (by rw [c0, isIn_no c1, if_pos rfl]) (by rw [m0, isIn_no c1, if_pos rfl, if_pos rfl]; split <;> rfl)
  have c1 := Decidable.not_not.mp c1
  rw [isIn_yes c1, if_neg one_ne] at c0
  rw [isIn_yes c1, if_neg one_ne, if_neg one_ne] at m0
  obtain ⟨n, hn, rfl⟩ := in_of (n := 8) (by decide) c1
  by_cases c2 : q = -100
  · rw [if_pos c2] at c0 m0
    obtain ⟨r, Mm', e1, e2⟩ := w_both (n := n) (goal := -1) (zx := q) (zy := z) (z4 := 1) (g := fun _ => true) hn (fun p _ => ⟨fun _ => Or.inl rfl, fun _ => rfl⟩) (fun p _ => ⟨fun _ => Or.inl one_ne, fun _ => rfl⟩) (Mm := mu Mm 198 0 0) hz
    exact fin r Mm' (by rw [c0, e1]; rfl) (by rw [m0, e2])
  rw [if_neg c2] at c0 m0
  by_cases c3 : ¬ (-8 ≤ q ∧ q ≤ 8)
  · exact fin (-1) _ (by rw [c0, isIn_no c3, if_pos rfl]) (by rw [m0, isIn_no c3, if_pos rfl])
  have c3 := Decidable.not_not.mp c3
  rw [isIn_yes c3, if_neg one_ne] at c0 m0
  by_cases c4 : ¬ (-8 ≤ z ∧ z ≤ 8)
  · exact fin (-1) _ (by rw [c0, isIn_no c4, if_pos rfl]) (by rw [m0, isIn_no c4, if_pos rfl])
  have c4 := Decidable.not_not.mp c4
  rw [isIn_yes c4, if_neg one_ne] at c0 m0
  obtain ⟨x, x1, x2, rfl⟩ := in_oI c3
  obtain ⟨y, y1, y2, rfl⟩ := in_oI c4
  have eg : ((oI y + 8) * 17 + oI x) + 8 = oI (wcp (x, y)) := by
    have e8 : (8 : Int32) = oI 8 := by decide
    have e17 : (17 : Int32) = oI 17 := by decide
    have em : ∀ a b, oI a * oI b = oI (a * b) := fun a b => (Int32.ofInt_mul a b).symm
    rw [e8, e17, oI_add, em, oI_add, oI_add]
    congr 1
    show (y + 8) * 17 + x + 8 = 144 + 17 * y + x
    omega
  have er : (5050 : Int32) + 100 * oI y + oI x = oI (wrp (x, y)) := by
    have e8 : (5050 : Int32) = oI 5050 := by decide
    have e17 : (100 : Int32) = oI 100 := by decide
    have em : ∀ a b, oI a * oI b = oI (a * b) := fun a b => (Int32.ofInt_mul a b).symm
    rw [e8, e17, em, oI_add, oI_add]; rfl
  have hb : wB (x, y) 0 := by unfold wB; dsimp only; omega
  rw [eg] at c0
  obtain ⟨r, Mm', e1, e2⟩ := w_both (n := n) (goal := oI (wcp (x, y))) (zx := oI x) (zy := oI y) (z4 := 0) (g := fun p => decide (p = (x, y))) hn (fun p hp => by
    rw [decide_eq_true_eq]
    constructor
    · intro e; exact Or.inr (by rw [e])
    · rintro (e | e)
      · exfalso
        have e : oI (wcp (x, y)) = oI (-1) := e
        rw [oI_inj (by unfold wcp; dsimp only; omega) (by omega)] at e
        unfold wcp at e; dsimp only at e; omega
      · unfold wB at hp
        rw [oI_inj (by unfold wcp; dsimp only; omega) (by unfold wcp; omega)] at e
        exact ((wcp_inj hb hp).mp e).symm) (fun p hp => by
    rw [decide_eq_true_eq, er, wrp_inj hp hb]
    constructor
    · intro e; exact Or.inr e
    · rintro (e | e)
      · exact absurd rfl e
      · exact e) (Mm := mu Mm 198 0 0) hz
  exact fin r Mm' (by rw [c0, e1]; rfl) (by rw [m0, e2])
