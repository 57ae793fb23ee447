/-! ===== jumps ===== -/
theorem jmin_nI {a b : Nat} (ha : a < 2 ^ 31) (hb : b < 2 ^ 31) : jmin (nI a) (nI b) = nI (min a b) := by
  unfold jmin
  by_cases h : b < a
  · rw [if_pos (nI_lt h ha), Nat.min_eq_right (by omega)]
  · rw [if_neg (nI_nlt (by omega) hb), Nat.min_eq_left (by omega)]
theorem lesser_nI {a b : Nat} (ha : a < 2 ^ 31) (hb : b < 2 ^ 31) : fX12_lesser (nI a) (nI b) = nI (min a b) := by
  unfold fX12_lesser
  by_cases h : b ≤ a
  · rw [if_pos (nI_le h ha), Nat.min_eq_right (by omega)]
  · rw [if_neg (nI_ge (by omega) hb), Nat.min_eq_left (by omega)]
def Jq (b : Nat) (v w : Int32) : Prop := ∃ a a', v = nI a ∧ w = nI a' ∧ ((a = a' ∧ a ≤ b) ∨ (a = 99 ∧ a' = 100000000))
theorem Jq_min {t j : Nat} {v w v' w' : Int32} (ht : t ≤ 14) (hj : j < t) (h : Jq t v w) (h' : Jq j v' w') : Jq t (jmin v (v' + 1)) (fX12_lesser w (w' + 1)) ∧ (fX12_lesser w (w' + 1) = nI 100000000 ↔ w = nI 100000000 ∧ w' = nI 100000000) := by
  obtain ⟨a, a', rfl, rfl, q⟩ := h
  obtain ⟨c, c', rfl, rfl, q'⟩ := h'
  rw [nI_1, nI_1, jmin_nI (by omega) (by omega), lesser_nI (by omega) (by omega)]
  refine ⟨⟨min a (c + 1), min a' (c' + 1), rfl, rfl, by omega⟩, ?_⟩
  rw [nI_eq (by omega) (by omega), nI_eq (by omega) (by omega), nI_eq (by omega) (by omega)]
  omega
theorem j_in {n t : Nat} {r : Nat → Nat} {Mc Mm : Mem} (hn : n ≤ 14) (ht : t < n) (hc2 : ∀ i, i < n → Mc 42 i = nI (r i)) (hm2 : ∀ i, i < n → Mm 221 i = nI (r i)) (hr : ∀ i, i < n → r i ≤ 9) (hD : ∀ j, j < t → Jq j (Mc 50 j) (Mm 222 j)) : ∀ (k F j : Nat) (v w : Int32), j + k = t → k < F → Jq t v w → ∃ v' w', Jq t v' w' ∧ (w' = nI 100000000 ↔ w = nI 100000000 ∧ ∀ i, j ≤ i → i < t → t ≤ i + r i → Mm 222 i = nI 100000000) ∧ (∀ K, fX10_fewestJumps_L42 K (nI t) F (nI j) (mu Mc 50 t v) = K (mu Mc 50 t v')) ∧ ∀ K, fX12_jumps_L56 K (nI t) F (nI j) (mu Mm 222 t w) = K (mu Mm 222 t w')
  | k, 0, j, v, w, _, h, _ => by omega
  | 0, F + 1, j, v, w, h1, h2, hq => by
    have c : nI t ≤ nI j := nI_le (by omega) (by omega)
    exact ⟨v, w, hq, ⟨fun e => ⟨e, fun i a b => by omega⟩, fun e => e.1⟩, fun K => by rw [fX10_fewestJumps_L42, if_pos c], fun K => by rw [fX12_jumps_L56, if_pos c]⟩
  | k + 1, F + 1, j, v, w, h1, h2, hq => by
    have c : ¬ nI t ≤ nI j := nI_ge (by omega) (by omega)
    have hrj := hr j (by omega)
    by_cases d : j + r j < t
    · obtain ⟨v', w', q1, q2, q3, q4⟩ := j_in hn ht hc2 hm2 hr hD k F (j + 1) v w (by omega) (by omega) hq
      have c2 : nI j + nI (r j) < nI t := by rw [nI_add]; exact nI_lt d (by omega)
      refine ⟨v', w', q1, ?_, fun K => ?_, fun K => ?_⟩
      · rw [q2]
        constructor
        · rintro ⟨e, g⟩
          refine ⟨e, fun i a b z => ?_⟩
          by_cases q : i = j
          · subst q; omega
          · exact g i (by omega) b z
        · rintro ⟨e, g⟩
          exact ⟨e, fun i a b z => g i (by omega) b z⟩
      · rw [fX10_fewestJumps_L42, if_neg c, rd_nI (by omega), mu_o (by omega), hc2 j (by omega), Option.bind_some]
        dsimp only [jn]
        rw [if_pos c2, nI_1, q3]
      · rw [fX12_jumps_L56, if_neg c, rd_nI (by omega), mu_o (by omega), hm2 j (by omega), Option.bind_some]
        dsimp only [jn]
        rw [if_pos c2, nI_1, q4]
    · obtain ⟨p1, p2⟩ := Jq_min (by omega) (show j < t by omega) hq (hD j (by omega))
      obtain ⟨v', w', q1, q2, q3, q4⟩ := j_in hn ht hc2 hm2 hr hD k F (j + 1) _ _ (by omega) (by omega) p1
      have c2 : ¬ nI j + nI (r j) < nI t := by rw [nI_add]; exact nI_nlt (by omega) (by omega)
      refine ⟨v', w', q1, ?_, fun K => ?_, fun K => ?_⟩
      · rw [q2, p2]
        constructor
        · rintro ⟨⟨e, e2⟩, g⟩
          refine ⟨e, fun i a b z => ?_⟩
          by_cases q : i = j
          · subst q; exact e2
          · exact g i (by omega) b z
        · rintro ⟨e, g⟩
          exact ⟨⟨e, g j (by omega) (by omega) (by omega)⟩, fun i a b z => g i (by omega) b z⟩
      · rw [fX10_fewestJumps_L42, if_neg c, rd_nI (by omega), mu_o (by omega), hc2 j (by omega), Option.bind_some]
        dsimp only [jn]
        rw [if_neg c2, rd_nI (by omega), mu_s, Option.bind_some, rd_nI (by omega), mu_i (by omega), Option.bind_some, wr_nI (by omega), mu_mu, Option.bind_some, nI_1, q3]
      · rw [fX12_jumps_L56, if_neg c, rd_nI (by omega), mu_o (by omega), hm2 j (by omega), Option.bind_some]
        dsimp only [jn]
        rw [if_neg c2, rd_nI (by omega), mu_s, Option.bind_some, rd_nI (by omega), mu_i (by omega), Option.bind_some, wr_nI (by omega), mu_mu, Option.bind_some, nI_1, q4]
/-- what is known behind t places -/
def Jst (n : Nat) (r : Nat → Nat) (t f : Nat) (Mc Mm : Mem) : Prop :=
  (Mc 41 0 = nI n ∧ ∀ i, i < n → Mc 42 i = nI (r i)) ∧ (Mm 198 43 = nI n ∧ ∀ i, i < n → Mm 221 i = nI (r i)) ∧ f < t ∧ (∀ j, j < t → Jq j (Mc 50 j) (Mm 222 j)) ∧ (∀ j, j < t → (Mm 222 j = nI 100000000 ↔ f < j)) ∧ ∀ j, 1 ≤ j → j < t → (Mm 222 j = nI 100000000 ↔ ∀ i, i < j → j ≤ i + r i → Mm 222 i = nI 100000000)
theorem j_out {n : Nat} {r : Nat → Nat} (hn : n ≤ 14) (hr : ∀ i, i < n → r i ≤ 9) : ∀ (k F G t f : Nat) (Mc Mm : Mem), t + k = n → k < F → k < G → 1 ≤ t → Jst n r t f Mc Mm → ∃ Mc' Mm' f', Jst n r n f' Mc' Mm' ∧ (∀ K, fX10_fewestJumps_L21 K F (nI t) Mc = K Mc') ∧ ∀ K, fX12_jumps_L28 K G (nI f) (nI t) Mm = K (nI f') Mm'
  | k, 0, G, t, f, Mc, Mm, _, h, _, _, _ => by omega
  | k, F + 1, 0, t, f, Mc, Mm, _, _, h, _, _ => by omega
  | 0, F + 1, G + 1, t, f, Mc, Mm, h1, h2, h3, h4, hJ => by
    have e : t = n := by omega
    subst e
    have c : nI t ≤ nI t := nI_le (by omega) (by omega)
    exact ⟨Mc, Mm, f, hJ, fun K => by rw [fX10_fewestJumps_L21, hJ.1.1, if_pos c], fun K => by rw [fX12_jumps_L28, hJ.2.1.1, if_pos c]⟩
  | k + 1, F + 1, G + 1, t, f, Mc, Mm, h1, h2, h3, h4, hJ => by
    obtain ⟨⟨a1, a2⟩, ⟨b1, b2⟩, hf, hD, hR, hC⟩ := id hJ
    have c : ¬ nI n ≤ nI t := nI_ge (by omega) (by omega)
    obtain ⟨v, w, q1, q2, q3, q4⟩ := j_in hn (show t < n by omega) a2 b2 hr hD t FU 0 (nI 99) (nI 100000000) (by omega) (FU_gt (by omega)) ⟨99, 100000000, rfl, rfl, Or.inr ⟨rfl, rfl⟩⟩
    rw [nI_0] at q3 q4
    have q2' : w = nI 100000000 ↔ ∀ i, i < t → t ≤ i + r i → Mm 222 i = nI 100000000 := by
      rw [q2]
      exact ⟨fun e i a b => e.2 i (by omega) a b, fun e => ⟨rfl, fun i _ a b => e i a b⟩⟩
    have mo : ∀ j, j < t → mu Mm 222 t w 222 j = Mm 222 j := fun j hj => mu_i (by omega)
    have hD' : ∀ j, j < t + 1 → Jq j (mu Mc 50 t v 50 j) (mu Mm 222 t w 222 j) := fun j hj => by
      by_cases e : j = t
      · subst e; rw [mu_s, mu_s]; exact q1
      · rw [mu_i e, mu_i e]; exact hD j (by omega)
    have hC' : ∀ j, 1 ≤ j → j < t + 1 → (mu Mm 222 t w 222 j = nI 100000000 ↔ ∀ i, i < j → j ≤ i + r i → mu Mm 222 t w 222 i = nI 100000000) := fun j hj1 hj2 => by
      by_cases e : j = t
      · subst e
        rw [mu_s, q2']
        exact ⟨fun g i a b => by rw [mo i a]; exact g i a b, fun g i a b => by rw [← mo i a]; exact g i a b⟩
      · rw [mo j (by omega), hC j hj1 (by omega)]
        exact ⟨fun g i a b => by rw [mo i (by omega)]; exact g i a b, fun g i a b => by rw [← mo i (by omega)]; exact g i a b⟩
    have hA : (mu Mc 50 t v 41 0 = nI n ∧ ∀ i, i < n → mu Mc 50 t v 42 i = nI (r i)) ∧ (mu Mm 222 t w 198 43 = nI n ∧ ∀ i, i < n → mu Mm 222 t w 221 i = nI (r i)) := by
      refine ⟨⟨by rw [mu_o (by omega)]; exact a1, fun i hi => by rw [mu_o (by omega)]; exact a2 i hi⟩, by rw [mu_o (by omega)]; exact b1, fun i hi => by rw [mu_o (by omega)]; exact b2 i hi⟩
    have cl : ∀ K, fX10_fewestJumps_L21 K (F + 1) (nI t) Mc = fX10_fewestJumps_L21 K F (nI (t + 1)) (mu Mc 50 t v) := fun K => by
      rw [fX10_fewestJumps_L21, a1, if_neg c, wr_nI (by omega), Option.bind_some, show (99 : Int32) = nI 99 from rfl, q3, nI_1]
    have rf : ∀ K, fX12_jumps_L28 K (G + 1) (nI f) (nI t) Mm = if nI 100000000 ≤ w then fX12_jumps_L28 K G (nI f) (nI (t + 1)) (mu Mm 222 t w) else fX12_jumps_L28 K G (nI t) (nI (t + 1)) (mu Mm 222 t w) := fun K => by
      rw [fX12_jumps_L28, b1, if_neg c]
      dsimp only [jn]
      rw [if_neg (nI_ne0 (show 0 < t by omega) (by omega)), wr_nI (by omega), Option.bind_some, show (100000000 : Int32) = nI 100000000 from rfl, q4, rd_nI (by omega), mu_s, Option.bind_some, nI_1]
    by_cases hw : w = nI 100000000
    · have hJ' : Jst n r (t + 1) f (mu Mc 50 t v) (mu Mm 222 t w) := by
        refine ⟨hA.1, hA.2, by omega, hD', fun j hj => ?_, hC'⟩
        by_cases e : j = t
        · subst e; rw [mu_s]; exact ⟨fun _ => hf, fun _ => hw⟩
        · rw [mo j (by omega)]; exact hR j (by omega)
      obtain ⟨Mc', Mm', f', g1, g2, g3⟩ := j_out hn hr k F G (t + 1) f _ _ (by omega) (by omega) (by omega) (by omega) hJ'
      refine ⟨Mc', Mm', f', g1, fun K => by rw [cl, g2], fun K => ?_⟩
      rw [rf, if_pos (by rw [hw]; exact nI_le (Nat.le_refl _) (by omega)), g3]
    · have hft : f + 1 = t := by
        rcases Nat.lt_or_ge f (t - 1) with q | q
        · exfalso
          have u := (hR (t - 1) (by omega)).mpr q
          rw [hC (t - 1) (by omega) (by omega)] at u
          refine hw (q2'.mpr fun i a b => ?_)
          by_cases e : i = t - 1
          · subst e; exact (hR (t - 1) (by omega)).mpr q
          · exact u i (by omega) (by omega)
        · omega
      have hJ' : Jst n r (t + 1) t (mu Mc 50 t v) (mu Mm 222 t w) := by
        refine ⟨hA.1, hA.2, by omega, hD', fun j hj => ?_, hC'⟩
        by_cases e : j = t
        · subst e; rw [mu_s]; exact ⟨fun e => absurd e hw, fun e => by omega⟩
        · rw [mo j (by omega), hR j (by omega)]; omega
      obtain ⟨Mc', Mm', f', g1, g2, g3⟩ := j_out hn hr k F G (t + 1) t _ _ (by omega) (by omega) (by omega) (by omega) hJ'
      refine ⟨Mc', Mm', f', g1, fun K => by rw [cl, g2], fun K => ?_⟩
      have : ¬ nI 100000000 ≤ w := by
        obtain ⟨a, a', -, rfl, q⟩ := q1
        rcases q with ⟨q, q'⟩ | ⟨-, q⟩
        · exact nI_ge (by omega) (by omega)
        · exact absurd (by rw [q]) hw
      rw [rf, if_neg this, g3]
theorem j_far {n f : Nat} {r : Nat → Nat} {M : Mem} {S : Nat → Prop} (hn : n ≤ 14) (hr : ∀ i, i < n → r i ≤ 9) (h1 : M 41 0 = nI n) (h2 : ∀ i, i < n → M 42 i = nI (r i)) (hf : f < n) (hS : ∀ j, j < n → (S j ↔ j ≤ f)) (hC : ∀ j, 1 ≤ j → j < n → (S j ↔ ∃ i, i < j ∧ j ≤ i + r i ∧ S i)) : ∀ (k F t g : Nat), t + k = n → k < F → t ≤ f + 1 → g ≤ 22 → (∀ j, j < t → j + r j ≤ g) → ((t = 0 ∧ g = 0) ∨ ∃ j, j < t ∧ g = j + r j) → ∃ g', g' ≤ 22 ∧ min g' (n - 1) = f ∧ ∀ K, fX10_furthestPlace_L4 K M F (nI g) (nI t) = K (nI g')
  | k, 0, t, g, _, h, _, _, _, _ => by omega
  | k, F + 1, t, g, e1, e2, e3, e4, e5, e6 => by
    have up : ∀ s, s < t → s ≤ g := fun s hs => by
      rcases Nat.eq_zero_or_pos s with q | q
      · omega
      · obtain ⟨i, i1, i2, -⟩ := (hC s q (by omega)).mp ((hS s (by omega)).mpr (by omega))
        have := e5 i (by omega); omega
    by_cases c1 : n ≤ t
    · refine ⟨g, e4, ?_, fun K => by rw [fX10_furthestPlace_L4, h1, if_pos (nI_le c1 (by omega))]⟩
      have := up (n - 1) (by omega); omega
    · by_cases c2 : g < t
      · refine ⟨g, e4, ?_, fun K => by rw [fX10_furthestPlace_L4, h1, if_neg (nI_ge (by omega) (by omega)), if_pos (nI_lt c2 (by omega))]⟩
        have u := up (t - 1) (by omega)
        have : ¬ t ≤ f := fun q => by
          obtain ⟨i, i1, i2, -⟩ := (hC t (by omega) (by omega)).mp ((hS t (by omega)).mpr q)
          have := e5 i i1; omega
        omega
      · have hrt := hr t (by omega)
        have ht : t ≤ f := by
          rcases e6 with ⟨q, -⟩ | ⟨j, j1, j2⟩
          · omega
          · exact (hS t (by omega)).mp ((hC t (by omega) (by omega)).mpr ⟨j, j1, by omega, (hS j (by omega)).mpr (by omega)⟩)
        have key : t + 1 ≤ f + 1 ∧ max g (t + r t) ≤ 22 ∧ (∀ j, j < t + 1 → j + r j ≤ max g (t + r t)) ∧ ((t + 1 = 0 ∧ max g (t + r t) = 0) ∨ ∃ j, j < t + 1 ∧ max g (t + r t) = j + r j) := by
          refine ⟨by omega, by omega, fun j hj => ?_, Or.inr ?_⟩
          · by_cases e : j = t
            · subst e; omega
            · have := e5 j (by omega); omega
          · rcases Nat.lt_or_ge g (t + r t) with q | q
            · exact ⟨t, by omega, by omega⟩
            · rcases e6 with ⟨q1, q2⟩ | ⟨j, j1, j2⟩
              · exact ⟨t, by omega, by omega⟩
              · exact ⟨j, by omega, by omega⟩
        cases k with
        | zero => omega
        | succ k =>
          obtain ⟨g', g1, g2, g3⟩ := j_far hn hr h1 h2 hf hS hC k F (t + 1) (max g (t + r t)) (by omega) (by omega) key.1 key.2.1 key.2.2.1 key.2.2.2
          refine ⟨g', g1, g2, fun K => ?_⟩
          rw [fX10_furthestPlace_L4, h1, if_neg (nI_ge (by omega) (by omega)), if_neg (nI_nlt (by omega) (by omega)), rd_nI (by omega), h2 t (by omega), Option.bind_some]
          dsimp only [bnd]
          rw [nI_add, jmax_nI (by omega) (by omega), nI_1, g3]
theorem s_jumps (p : Int32) : Sm (fX11_jumps p) (fX12_jumps p) := Sm.fr (wX11_jumps p) (wX12_jumps p) (by decide +kernel) (by decide +kernel) fun Mc Mm hA => by
  obtain ⟨⟨P, B, n0, hBd, hTv, hFx, hBk, hLaw, hTw, hEv, hHe, hTo⟩, -⟩ := hA
  obtain ⟨-, -, -, n, hn, h1, h2, h3⟩ := hTo.1
  have h1 : Mc 41 0 = nI n := h1
  have h2' : mu Mm 198 0 0 198 43 = nI n := by rw [mu_i (by omega)]; exact h2
  unfold fX11_jumps fX12_jumps
  dsimp only [bnd]
  by_cases cp : ¬ (0 ≤ p ∧ p ≤ 1)
  · rw [isIn_no cp, if_pos rfl, if_neg (fun e => cp (by rw [e]; decide)), if_neg (fun e => cp (by rw [e]; decide))]; exact ⟨_, _, _, rfl, rfl⟩
  have cp := Decidable.not_not.mp cp
  rw [isIn_yes cp, if_neg one_ne, h2']
  obtain ⟨j, hj, rfl⟩ := in_of (n := 1) (by decide) cp
  cases n with
  | zero =>
    rw [if_pos (show nI 0 = 0 from rfl)]
    rcases (show j = 0 ∨ j = 1 by omega) with rfl | rfl
    · rw [if_pos (show nI 0 = 0 from rfl)]
      unfold fX10_fewestJumps
      have c : ¬ (0 : Int32) < nI 0 := by decide
      rw [h1, if_neg c]; exact ⟨_, _, _, rfl, rfl⟩
    · rw [if_neg (show ¬ nI 1 = 0 from by decide), if_pos (show nI 1 = 1 from rfl)]
      unfold fX10_furthestPlace
      obtain ⟨F, hF⟩ : ∃ F, FU = F + 1 := ⟨99999, rfl⟩
      have c : nI 0 ≤ (0 : Int32) := by decide
      rw [hF, fX10_furthestPlace_L4, h1, if_pos c]
      exact ⟨_, _, _, rfl, rfl⟩
  | succ n =>
    have hr : ∃ r : Nat → Nat, ∀ i, i < n + 1 → r i ≤ 9 ∧ Mc 42 i = nI (r i) ∧ Mm 221 i = nI (r i) := ⟨fun i => (Mc 42 i).toNatClampNeg, fun i hi => by
      obtain ⟨x, -, x1, x2, x3⟩ := h3 i hi
      have x2 : Mc 42 i = nI x := x2
      show (Mc 42 i).toNatClampNeg ≤ 9 ∧ Mc 42 i = nI (Mc 42 i).toNatClampNeg ∧ Mm 221 i = nI (Mc 42 i).toNatClampNeg
      rw [x2, nI_clamp (by omega)]
      exact ⟨x1, rfl, x3⟩⟩
    obtain ⟨r, hr⟩ := hr
    have hr9 := fun i hi => (hr i hi).1
    have hr1 := fun i hi => (hr i hi).2.1
    have hr2 := fun i hi => (hr i hi).2.2
    rw [if_neg (nI_ne0 (show 0 < n + 1 by omega) (by omega))]
    have hJ : Jst (n + 1) r 1 0 (mu Mc 50 0 0) (mu (mu Mm 198 0 0) 222 0 0) := by
      refine ⟨⟨by rw [mu_o (by omega)]; exact h1, fun i hi => by rw [mu_o (by omega)]; exact hr1 i hi⟩, ⟨by rw [mu_o (by omega)]; exact h2', fun i hi => by rw [mu_o (by omega), mu_o (by omega)]; exact hr2 i hi⟩, by omega, fun j hj => ?_, fun j hj => ?_, fun j a b => by omega⟩
      · have : j = 0 := by omega
        subst this
        rw [mu_s, mu_s]
        exact ⟨0, 0, rfl, rfl, Or.inl ⟨rfl, by omega⟩⟩
      · have : j = 0 := by omega
        subst this
        rw [mu_s]
        exact ⟨fun e => absurd e (by decide), fun e => by omega⟩
    obtain ⟨F, hF⟩ : ∃ F, FU = F + 1 := ⟨99999, rfl⟩
    have hF2 : n < F := by have := FU_gt (n := n + 1) (by omega); omega
    obtain ⟨Mc', Mm', f', g1, g2, g3⟩ := j_out hn hr9 n FU F 1 0 _ _ (by omega) (FU_gt (by omega)) hF2 (by omega) hJ
    have st : ∀ K, fX12_jumps_L28 K FU 0 0 (mu Mm 198 0 0) = K (nI f') Mm' := fun K => by
      have c : ¬ nI (n + 1) ≤ (0 : Int32) := nI_nle (by omega) (by omega)
      rw [hF, fX12_jumps_L28, h2', if_neg c]
      dsimp only [jn]
      have w0 : wr (mu Mm 198 0 0) 222 14 0 0 = some (mu (mu Mm 198 0 0) 222 0 0) := wr_nI (j := 0) (by omega)
      have c0 : (0 : Int32) ≤ 0 := by decide
      rw [if_pos rfl, w0, Option.bind_some, hF, fX12_jumps_L56, if_pos c0]
      have r0 : rd (mu (mu Mm 198 0 0) 222 0 0) 222 14 0 = some 0 := (rd_nI (j := 0) (by omega)).trans (by rw [mu_s])
      have c1 : ¬ (100000000 : Int32) ≤ 0 := by decide
      rw [r0, Option.bind_some, if_neg c1, ← g3 K]; rfl
    rw [st]
    obtain ⟨⟨a1, a2⟩, ⟨b1, b2⟩, hf, hD, hR, hC⟩ := g1
    rcases (show j = 0 ∨ j = 1 by omega) with rfl | rfl
    · rw [if_pos (show nI 0 = 0 from rfl), if_neg (show ¬ nI 0 = 1 from by decide)]
      unfold fX10_fewestJumps
      have c : (0 : Int32) < nI (n + 1) := nI_lt (a := 0) (by omega) (by omega)
      have w0 : wr Mc 50 14 0 0 = some (mu Mc 50 0 0) := wr_nI (j := 0) (by omega)
      rw [h1, if_pos c, w0, Option.bind_some, show (1 : Int32) = nI 1 from rfl, g2, a1, b1, show nI (n + 1) - nI 1 = nI n from nI_pred n, rd_nI (by omega), rd_nI (by omega), Option.bind_some, Option.bind_some]
      obtain ⟨a, a', e1, e2, q⟩ := hD n (by omega)
      rw [e1, e2]
      rcases q with ⟨rfl, q⟩ | ⟨rfl, rfl⟩
      · have k1 : ¬ (99 : Int32) ≤ nI a := nI_ge (show a < 99 by omega) (by decide)
        have k2 : ¬ (100000000 : Int32) ≤ nI a := nI_ge (show a < 100000000 by omega) (by decide)
        rw [if_neg k1, if_neg k2]; exact ⟨_, _, _, rfl, rfl⟩
      · have k1 : (99 : Int32) ≤ nI 99 := by decide
        have k2 : (100000000 : Int32) ≤ nI 100000000 := by decide
        rw [if_pos k1, if_pos k2]; exact ⟨_, _, _, rfl, rfl⟩
    · rw [if_neg (show ¬ nI 1 = 0 from by decide), if_pos (show nI 1 = 1 from rfl), if_pos (show nI 1 = 1 from rfl)]
      unfold fX10_furthestPlace
      obtain ⟨g', k1, k2, k3⟩ := j_far (S := fun j => ¬ Mm' 222 j = nI 100000000) hn hr9 h1 hr1 (show f' < n + 1 from hf) (fun j hj => by rw [hR j hj]; omega) (fun j q1 q2 => by
        rw [hC j q1 q2]
        constructor
        · intro e
          apply Classical.byContradiction
          intro e2
          exact e fun i i1 i2 => Classical.byContradiction fun i3 => e2 ⟨i, i1, i2, i3⟩
        · rintro ⟨i, i1, i2, i3⟩ e
          exact i3 (e i i1 i2)) (n + 1) FU 0 0 (by omega) (FU_gt (by omega)) (by omega) (by omega) (fun j hj => by omega) (Or.inl ⟨rfl, rfl⟩)
      rw [nI_0] at k3
      rw [k3, h1, nI_pred, jmin_nI (by omega) (by omega), show n = n + 1 - 1 by omega, k2]
      exact ⟨_, _, _, rfl, rfl⟩
