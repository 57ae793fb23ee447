/-! ===== text: tokens ===== -/
def HandC (τ p e : Nat) (Mc : Mem) : Prop := Mc 178 5 = nI p ∧ Mc 178 6 = nI e ∧ (∀ i, i < 22 → fX8_isWord i Mc = some (if τ = 10 + wmap i then 1 else 0)) ∧ (∀ c, mk c = true → fX8_isSign (nI c) Mc = if τ = 100 + c then 1 else 0) ∧ ((τ = 0 ∧ Mc 178 4 = 0) ∨ (1000 ≤ τ ∧ τ ≤ 10999 ∧ Mc 178 4 = 2 ∧ Mc 178 7 = nI (τ - 1000)) ∨ (1 ≤ τ ∧ τ < 1000 ∧ ¬ Mc 178 4 = 0 ∧ ¬ Mc 178 4 = 2 ∧ (100 ≤ τ → Mc 178 7 = nI (τ - 100))))
def HandM (τ p e : Nat) (Mm : Mem) : Prop := Mm 198 15 = nI p ∧ Mm 198 14 = nI e ∧ ((τ = 0 ∧ Mm 198 16 = 0) ∨ (τ = 1 ∧ Mm 198 16 = 1) ∨ (∃ w, w < 22 ∧ τ = 10 + w ∧ Mm 198 16 = 2 ∧ Mm 198 17 = nI w) ∨ (∃ c, mk c = true ∧ τ = 100 + c ∧ Mm 198 16 = 4 ∧ Mm 198 17 = nI c) ∨ (∃ v, v ≤ 9999 ∧ τ = 1000 + v ∧ Mm 198 16 = 3 ∧ Mm 198 17 = nI v))
section TOK2
variable {L : Nat} {b : Nat → Nat} {Mc Mm : Mem}
theorem t_skip (h : TpR L b Mc Mm) : ∀ (k F s : Nat), s + k = L → k < F → ∃ p, s ≤ p ∧ p ≤ L ∧ (p < L → ¬ ck (b p) = 4) ∧ (∀ K, fX8_advance_L0 K F (mu Mc 178 6 (nI s)) = K (mu Mc 178 6 (nI p))) ∧ ∀ K, fX12_reads_L0 K F (mu Mm 198 14 (nI s)) = K (mu Mm 198 14 (nI p))
  | k, 0, s, _, q => by omega
  | k, F + 1, s, h1, h2 => by
    have hL := h.1
    have hc : TpR L b (mu Mc 178 6 (nI s)) (mu Mm 198 14 (nI s)) := TpR_m (TpR_c h (mu_i (by omega)) (mu_c (by omega))) (mu_i (by omega)) (mu_c (by omega)) (mu_c (by omega))
    have l1 : mu Mc 178 6 (nI s) 178 1 = nI L := hc.2.1
    cases k with
    | zero =>
      have hr := raw_end hc (show L ≤ s by omega) (by omega)
      refine ⟨s, Nat.le_refl _, by omega, fun q => by omega, fun K => ?_, fun K => ?_⟩
      · rw [fX8_advance_L0, l1, mu_s, if_pos (nI_le (by omega) (by omega))]
      · rw [fX12_reads_L0, mu_s, hr, Option.bind_some, jn_eq, if_neg (by decide), Option.bind_some, if_neg (by decide)]
    | succ k =>
      have hk := kind_at hc (show s < L by omega)
      have hr := raw_at hc (show s < L by omega)
      have hb := (h.2.2.2.1 s (by omega)).1
      obtain ⟨-, -, r3, -, -⟩ := ref_is (b s) hb
      have hck : ck (b s) < 5 := by unfold ck; repeat' split
                                    all_goals omega
      have sm : ∀ K, fX12_reads_L0 K (F + 1) (mu Mm 198 14 (nI s)) = if ck (b s) = 4 then fX12_reads_L0 K F (mu Mm 198 14 (nI (s + 1))) else K (mu Mm 198 14 (nI s)) := fun K => by
        rw [fX12_reads_L0, mu_s, hr, Option.bind_some, jn_eq, bnd_eq, mu_mu, nI_1, Option.bind_some]
        by_cases c : ck (b s) = 4
        · rw [if_pos c]
          rcases r3.mpr c with q | q
          · rw [if_pos q]
          · by_cases q2 : nI (b s) = 32
            · rw [if_pos q2]
            · rw [if_neg q2, if_pos q]
        · rw [if_neg c, if_neg (fun q => c (r3.mp (Or.inl q))), if_neg (fun q => c (r3.mp (Or.inr q)))]
      have sc : ∀ K, fX8_advance_L0 K (F + 1) (mu Mc 178 6 (nI s)) = if ck (b s) = 4 then fX8_advance_L0 K F (mu Mc 178 6 (nI (s + 1))) else K (mu Mc 178 6 (nI s)) := fun K => by
        rw [fX8_advance_L0, l1, mu_s, if_neg (nI_ge (by omega) (by omega)), hk, Option.bind_some, bnd_eq, mu_mu, nI_1]
        by_cases c : ck (b s) = 4
        · rw [if_pos c, if_pos (show nI (ck (b s)) = (4 : Int32) from by rw [c]; rfl)]
        · rw [if_neg c, if_neg (show ¬ nI (ck (b s)) = (4 : Int32) from fun q => c ((nI_eqb (by omega) (by omega)).mp q))]
      by_cases c : ck (b s) = 4
      · obtain ⟨p, p1, p2, p3, p4, p5⟩ := t_skip h k F (s + 1) (by omega) (by omega)
        exact ⟨p, by omega, p2, p3, fun K => by rw [sc, if_pos c, p4], fun K => by rw [sm, if_pos c, p5]⟩
      · exact ⟨s, Nat.le_refl _, by omega, fun _ => c, fun K => by rw [sc, if_neg c], fun K => by rw [sm, if_neg c]⟩
theorem mu_norm {M : Mem} {a i j : Nat} {u v w x : Int32} (h : i ≠ j) : mu (mu (mu (mu M a i u) a j v) a i w) a j x = mu (mu M a i w) a j x := by
  rw [mu_comm (M := mu M a i u) (i := j) (j := i) (by omega), mu_mu, mu_mu]
theorem t_word (h : TpR L b Mc Mm) (h4 : Mc 178 4 = nI 1) : ∀ (k F n : Nat) (v : Int32), n + k = L → k < F → ∃ e v', n ≤ e ∧ e ≤ L ∧ (∀ i, n ≤ i → i < e → ck (b i) = 1) ∧ (∀ K, fX8_advance_L110 K F (mu (mu Mc 178 7 v) 178 6 (nI n)) = K (mu (mu Mc 178 7 v') 178 6 (nI e))) ∧ ∀ K, fX12_reads_L95 K F (mu Mm 198 14 (nI n)) = K (mu Mm 198 14 (nI e))
  | k, 0, n, v, _, q => by omega
  | k, F + 1, n, v, h1, h2 => by
    have hL := h.1
    have hc : TpR L b (mu (mu Mc 178 7 v) 178 6 (nI n)) (mu Mm 198 14 (nI n)) := TpR_m (TpR_c h (by rw [mu_i (by omega), mu_i (by omega)]) (by rw [mu_c (by omega), mu_c (by omega)])) (mu_i (by omega)) (mu_c (by omega)) (mu_c (by omega))
    have l1 : mu (mu Mc 178 7 v) 178 6 (nI n) 178 1 = nI L := hc.2.1
    have l4 : mu (mu Mc 178 7 v) 178 6 (nI n) 178 4 = nI 1 := by rw [mu_i (by omega), mu_i (by omega), h4]
    have l7 : mu (mu Mc 178 7 v) 178 6 (nI n) 178 7 = v := by rw [mu_i (by omega), mu_s]
    have n13 : ¬ nI 1 = (3 : Int32) := by decide
    have lm1 : fX12_isLetter (-1) = 0 := by decide
    cases k with
    | zero =>
      have hr := raw_end hc (show L ≤ n by omega) (by omega)
      refine ⟨n, v, Nat.le_refl _, by omega, fun i a b => by omega, fun K => ?_, fun K => ?_⟩
      · rw [fX8_advance_L110, l4, if_neg n13, l1, mu_s, if_pos (nI_le (by omega) (by omega))]
      · rw [fX12_reads_L95, mu_s, hr, Option.bind_some, lm1, if_pos rfl]
    | succ k =>
      have hk := kind_at hc (show n < L by omega)
      have hr := raw_at hc (show n < L by omega)
      have hb := (h.2.2.2.1 n (by omega)).1
      obtain ⟨r1, -⟩ := ref_is (b n) hb
      have hck : ck (b n) < 5 := by unfold ck; repeat' split
                                    all_goals omega
      have h179 : rd (mu (mu Mc 178 7 v) 178 6 (nI n)) 179 400 (nI n) = some (Mc 179 n) := by rw [rd_nI (by omega), mu_o (by omega), mu_o (by omega)]
      have sm : ∀ K, fX12_reads_L95 K (F + 1) (mu Mm 198 14 (nI n)) = if ck (b n) = 1 then fX12_reads_L95 K F (mu Mm 198 14 (nI (n + 1))) else K (mu Mm 198 14 (nI n)) := fun K => by
        rw [fX12_reads_L95, mu_s, hr, Option.bind_some, r1, bnd_eq, mu_mu, nI_1]
        by_cases c : ck (b n) = 1
        · rw [if_pos c, if_pos c, if_neg one_ne]
        · rw [if_neg c, if_neg c, if_pos rfl]
      have sc : ∀ K, fX8_advance_L110 K (F + 1) (mu (mu Mc 178 7 v) 178 6 (nI n)) = if ck (b n) = 1 then fX8_advance_L110 K F (mu (mu Mc 178 7 (v * 10 + Mc 179 n - 48)) 178 6 (nI (n + 1))) else K (mu (mu Mc 178 7 v) 178 6 (nI n)) := fun K => by
        rw [fX8_advance_L110, l4, if_neg n13, l1, mu_s, if_neg (nI_ge (by omega) (by omega)), hk, Option.bind_some, h179, Option.bind_some, bnd_eq, bnd_eq, l7, mu_i (by omega), mu_s, nI_1, mu_norm (by omega)]
        by_cases c : ck (b n) = 1
        · rw [if_pos c, if_pos (by rw [c])]
        · rw [if_neg c, if_neg (fun q => c ((nI_eqb (by omega) (by omega)).mp q))]
      by_cases c : ck (b n) = 1
      · obtain ⟨e, v', p1, p2, p3, p4, p5⟩ := t_word h h4 k F (n + 1) (v * 10 + Mc 179 n - 48) (by omega) (by omega)
        refine ⟨e, v', by omega, p2, fun i a d => ?_, fun K => by rw [sc, if_pos c, p4], fun K => by rw [sm, if_pos c, p5]⟩
        by_cases q : i = n
        · subst q; exact c
        · exact p3 i (by omega) d
      · exact ⟨n, v, Nat.le_refl _, by omega, fun i a b => by omega, fun K => by rw [sc, if_neg c], fun K => by rw [sm, if_neg c]⟩
theorem t_num (h : TpR L b Mc Mm) (h4 : Mc 178 4 = nI 2) {p : Nat} : ∀ (k F n : Nat) (xc xm : Int32), n + k = L → k < F → p < n → (n - p ≤ 4 → ∃ v, v < 10 ^ (n - p) ∧ xc = nI v ∧ xm = nI v) → ∃ e xc' xm', n ≤ e ∧ e ≤ L ∧ (e - p ≤ 4 → ∃ v, v < 10 ^ (e - p) ∧ xc' = nI v ∧ xm' = nI v) ∧ (∀ K, fX8_advance_L110 K F (mu (mu Mc 178 7 xc) 178 6 (nI n)) = K (mu (mu Mc 178 7 xc') 178 6 (nI e))) ∧ ∀ K, fX12_reads_L171 K F (mu (mu Mm 198 17 xm) 198 14 (nI n)) = K (mu (mu Mm 198 17 xm') 198 14 (nI e))
  | k, 0, n, xc, xm, _, q, _, _ => by omega
  | k, F + 1, n, xc, xm, h1, h2, hpn, hv => by
    have hL := h.1
    have hc : TpR L b (mu (mu Mc 178 7 xc) 178 6 (nI n)) (mu (mu Mm 198 17 xm) 198 14 (nI n)) := TpR_m (TpR_c h (by rw [mu_i (by omega), mu_i (by omega)]) (by rw [mu_c (by omega), mu_c (by omega)])) (by rw [mu_i (by omega), mu_i (by omega)]) (by rw [mu_c (by omega), mu_c (by omega)]) (by rw [mu_c (by omega), mu_c (by omega)])
    have l1 : mu (mu Mc 178 7 xc) 178 6 (nI n) 178 1 = nI L := hc.2.1
    have l4 : mu (mu Mc 178 7 xc) 178 6 (nI n) 178 4 = nI 2 := by rw [mu_i (by omega), mu_i (by omega), h4]
    have l7 : mu (mu Mc 178 7 xc) 178 6 (nI n) 178 7 = xc := by rw [mu_i (by omega), mu_s]
    have m17 : mu (mu Mm 198 17 xm) 198 14 (nI n) 198 17 = xm := by rw [mu_i (by omega), mu_s]
    have n13 : ¬ nI 2 = (3 : Int32) := by decide
    have lm1 : fX12_isDigit (-1) = 0 := by decide
    cases k with
    | zero =>
      have hr := raw_end hc (show L ≤ n by omega) (by omega)
      refine ⟨n, xc, xm, Nat.le_refl _, by omega, hv, fun K => ?_, fun K => ?_⟩
      · rw [fX8_advance_L110, l4, if_neg n13, l1, mu_s, if_pos (nI_le (by omega) (by omega))]
      · rw [fX12_reads_L171, mu_s, hr, Option.bind_some, lm1, if_pos rfl]
    | succ k =>
      have hk := kind_at hc (show n < L by omega)
      have hr := raw_at hc (show n < L by omega)
      obtain ⟨hb, -, hb3⟩ := h.2.2.2.1 n (by omega)
      obtain ⟨-, r2, -⟩ := ref_is (b n) hb
      have hck : ck (b n) < 5 := by unfold ck; repeat' split
                                    all_goals omega
      have h179 : rd (mu (mu Mc 178 7 xc) 178 6 (nI n)) 179 400 (nI n) = some (Mc 179 n) := by rw [rd_nI (by omega), mu_o (by omega), mu_o (by omega)]
      have sm : ∀ K, fX12_reads_L171 K (F + 1) (mu (mu Mm 198 17 xm) 198 14 (nI n)) = if ck (b n) = 2 then fX12_reads_L171 K F (mu (mu Mm 198 17 (if 10000 ≤ xm then xm else 10 * xm + nI (b n) - 48)) 198 14 (nI (n + 1))) else K (mu (mu Mm 198 17 xm) 198 14 (nI n)) := fun K => by
        rw [fX12_reads_L171, mu_s, hr, Option.bind_some, r2, jn_eq, m17, Option.bind_some]
        dsimp only
        by_cases c : ck (b n) = 2
        · rw [if_pos c, if_pos c, if_neg one_ne]
          by_cases q : 10000 ≤ xm
          · rw [if_pos q, if_pos q, bnd_eq, bnd_eq, mu_i (by omega), mu_s, nI_1, mu_norm (by omega)]
          · rw [if_neg q, if_neg q, bnd_eq, bnd_eq, mu_i (by omega), mu_s, nI_1, mu_norm (by omega)]
        · rw [if_neg c, if_neg c, if_pos rfl]
      have sc : ∀ K, fX8_advance_L110 K (F + 1) (mu (mu Mc 178 7 xc) 178 6 (nI n)) = if ck (b n) = 2 then fX8_advance_L110 K F (mu (mu Mc 178 7 (xc * 10 + Mc 179 n - 48)) 178 6 (nI (n + 1))) else K (mu (mu Mc 178 7 xc) 178 6 (nI n)) := fun K => by
        rw [fX8_advance_L110, l4, if_neg n13, l1, mu_s, if_neg (nI_ge (by omega) (by omega)), hk, Option.bind_some, h179, Option.bind_some, bnd_eq, bnd_eq, l7, mu_i (by omega), mu_s, nI_1, mu_norm (by omega)]
        by_cases c : ck (b n) = 2
        · rw [if_pos c, if_pos (by rw [c])]
        · rw [if_neg c, if_neg (fun q => c ((nI_eqb (by omega) (by omega)).mp q))]
      by_cases c : ck (b n) = 2
      · obtain ⟨d1, d2, d3⟩ := dig_is (b n) hb c
        obtain ⟨e, xc', xm', p1, p2, p3, p4, p5⟩ := t_num (p := p) h h4 k F (n + 1) (xc * 10 + Mc 179 n - 48) (if 10000 ≤ xm then xm else 10 * xm + nI (b n) - 48) (by omega) (by omega) (by omega) (fun q => by
          obtain ⟨v, v1, rfl, rfl⟩ := hv (by omega)
          have v2 : v < 1000 := Nat.lt_of_lt_of_le v1 (Nat.pow_le_pow_right (by omega) (show n - p ≤ 3 by omega))
          have c0 : ¬ (10000 : Int32) ≤ nI v := nI_ge (show v < 10000 by omega) (by decide)
          refine ⟨10 * v + (b n - 48), ?_, ?_, ?_⟩
          · have key : ∀ T v d : Nat, v < T → d ≤ 9 → 10 * v + d < T * 10 := fun T v d h1 h2 => by omega
            rw [show n + 1 - p = (n - p) + 1 from Nat.succ_sub (Nat.le_of_lt hpn), Nat.pow_succ]
            exact key _ _ _ v1 (Nat.sub_le_of_le_add d2)
          · have l10 : nI v * 10 = nI (v * 10) := pk_mul v 10
            have l48 : (48 : Int32) = nI 48 := rfl
            rw [hb3, d3, l10, nI_add, l48, pk_sub (by omega), show v * 10 + b n - 48 = 10 * v + (b n - 48) by omega]
          · have l48 : (48 : Int32) = nI 48 := rfl
            rw [if_neg c0, lmul 10 v, nI_add, l48, pk_sub (by omega), show 10 * v + b n - 48 = 10 * v + (b n - 48) by omega])
        exact ⟨e, xc', xm', by omega, p2, p3, fun K => by rw [sc, if_pos c, p4], fun K => by rw [sm, if_pos c, p5]⟩
      · exact ⟨n, xc, xm, Nat.le_refl _, by omega, hv, fun K => by rw [sc, if_neg c], fun K => by rw [sm, if_neg c]⟩
/-- the class's words: letters p .. e -/
theorem isW_loop {i p : Nat} (hi : i < 22) (hpl : p + slen i ≤ 400) (h5 : Mc 178 5 = nI p) (hb : ∀ j, j < slen i → b (p + j) < 256 ∧ Mc 179 (p + j) = ji2b (nI (b (p + j)))) : ∀ (k F j : Nat), j + k = slen i → k < F → (∀ l, l < j → nI (b (p + l)) = wLt (wmap i) l) → ∃ c : Int32, (c = 0 ∨ c = 1) ∧ fX8_isWord_L28 (some 1) i Mc F (nI j) = some c ∧ (c = 1 ↔ ∀ l, l < slen i → nI (b (p + l)) = wLt (wmap i) l)
  | k, 0, j, _, q, _ => by omega
  | 0, F + 1, j, h1, h2, h3 => by
    have ej : j = slen i := by omega
    subst ej
    refine ⟨1, Or.inr rfl, ?_, fun _ => h3, fun _ => rfl⟩
    rw [fX8_isWord_L28, if_pos (nI_le (Nat.le_refl _) (by omega))]
  | k + 1, F + 1, j, h1, h2, h3 => by
    obtain ⟨m1, m2, m3⟩ := w_map i hi
    obtain ⟨m4, m5⟩ := m3 j (by omega)
    obtain ⟨b1, b2⟩ := hb j (by omega)
    obtain ⟨y, y1, y2⟩ := w_let (wmap i) m1 j (by omega)
    have c4 : ¬ (400 : Int32) ≤ nI (p + j) := nI_ge (show p + j < 400 by omega) (by decide)
    have sch : schr i (nI j) = some (wLt (wmap i) j) := by
      unfold schr
      rw [rdf_nI (by omega) (by omega), Option.bind_some, m5]
    have st : fX8_isWord_L28 (some 1) i Mc (F + 1) (nI j) = if nI (b (p + j)) = wLt (wmap i) j then fX8_isWord_L28 (some 1) i Mc F (nI (j + 1)) else some 0 := by
      rw [fX8_isWord_L28, if_neg (nI_ge (by omega) (by omega)), h5, nI_add, if_neg c4, rd_nI (by omega), b2, Option.bind_some, sch, Option.bind_some, nI_1, y2]
      by_cases q : b (p + j) = y
      · rw [if_pos ((sig128 b1 y1).mpr q), if_pos (by rw [q])]
      · rw [if_neg (fun z => q ((sig128 b1 y1).mp z)), if_neg (fun z => q ((nI_eqb (by omega) (by omega)).mp z))]
    by_cases q : nI (b (p + j)) = wLt (wmap i) j
    · obtain ⟨c, c1, c2, c3⟩ := isW_loop hi hpl h5 hb k F (j + 1) (by omega) (by omega) (fun l hl => by
        by_cases z : l = j
        · subst z; exact q
        · exact h3 l (by omega))
      exact ⟨c, c1, by rw [st, if_pos q]; exact c2, c3⟩
    · exact ⟨0, Or.inl rfl, by rw [st, if_neg q], fun z => absurd z (by decide), fun z => absurd (z j (by omega)) q⟩
theorem isW_is (h : TpR L b Mc Mm) {i p e : Nat} (hi : i < 22) (hp : p ≤ e) (he : e ≤ L) (h4 : Mc 178 4 = 1) (h5 : Mc 178 5 = nI p) (h6 : Mc 178 6 = nI e) : ∃ c : Int32, (c = 0 ∨ c = 1) ∧ fX8_isWord i Mc = some c ∧ (c = 1 ↔ wMt b (wmap i) p e) := by
  have hL := h.1
  obtain ⟨m1, m2, m3⟩ := w_map i hi
  have s7 : slen i ≤ 7 := by have := (w_tab (wmap i) m1).2.2.2.2.2.2; omega
  unfold fX8_isWord
  rw [if_pos h4, h6, h5, pk_sub hp]
  by_cases c : e - p = slen i
  · rw [if_pos (by rw [c])]
    obtain ⟨cc, c1, c2, c3⟩ := isW_loop (Mc := Mc) (b := b) hi (show p + slen i ≤ 400 by omega) h5 (fun j hj => ⟨(h.2.2.2.1 (p + j) (by omega)).1, (h.2.2.2.1 (p + j) (by omega)).2.2⟩) (slen i) FU 0 (by omega) (FU_gt (by omega)) (fun l hl => by omega)
    rw [nI_0] at c2
    refine ⟨cc, c1, c2, ?_⟩
    rw [c3]
    unfold wMt
    rw [← m2]
    exact ⟨fun q => ⟨by omega, q⟩, fun q => q.2⟩
  · rw [if_neg (fun q => c ((nI_eqb (by omega) (by omega)).mp q))]
    exact ⟨0, Or.inl rfl, rfl, fun z => absurd z (by decide), fun z => absurd (show e - p = slen i by have := z.1; omega) c⟩
theorem isW_no {i : Nat} (h4 : ¬ Mc 178 4 = 1) : fX8_isWord i Mc = some 0 := by
  unfold fX8_isWord
  rw [if_neg h4]
end TOK2
