/-! ===== text: sums, both sides ===== -/
theorem tck_one {op arg : Nat → Int32} {i : Nat} {s s1 : List Bool} (h1 : op i = 5 → 0 < i ∧ op (i - 1) = 0 ∧ arg (i - 1) ≠ 0) (h2 : tst (op i) s = some s1) : tck op arg i 1 s = some s1 := by
  rw [tck, if_neg (fun q => q.2 (h1 q.1)), h2]; rfl
theorem tst_01 {o : Int32} {s : List Bool} (h : o = 0 ∨ o = 1) (hl : s.length < 30) : tst o s = some (false :: s) := by
  unfold tst; rw [if_pos h, if_pos hl]
theorem tst_op {x : Nat} {s : List Bool} (h1 : 2 ≤ x) (h2 : x ≤ 8) : tst (nI x) (false :: false :: s) = some (decide (6 ≤ x) :: s) := by
  rcases (show x = 2 ∨ x = 3 ∨ x = 4 ∨ x = 5 ∨ x = 6 ∨ x = 7 ∨ x = 8 by omega) with rfl | rfl | rfl | rfl | rfl | rfl | rfl <;> rfl
section SUM2
variable {L : Nat} {b : Nat → Nat}
theorem fac_eq {τ p e z π : Nat} {Mc Mm : Mem} (h : PS L b τ p e z Mc Mm) (hπ : π = 0 ∨ π = 42 ∨ π = 47) (hz : z + (if π = 0 then 0 else 1) ≤ p) :
    (∃ Mc' Mm', fX2_readUnit (if decide (π = 47) then 1 else 0) Mc = some (0, Mc') ∧ (∀ np, refP π np Mm = some (-1, Mm')) ∧ FR Mc' Mm' ∧ Df z Mm Mm') ∨
    (∃ τ1 p1 e1 z1 Mc1 Mc2 Mm2, fX2_readUnit (if decide (π = 47) then 1 else 0) Mc = some (1, Mc1) ∧ (π = 0 → Mc2 = Mc1) ∧ (π ≠ 0 → fX1_put (nI (20000 + π)) Mc1 = some Mc2) ∧ (∀ np, refP π np Mm = fX12_readProduct_L10 np Mm2) ∧ p < p1 ∧ z1 = z + 1 + (if π = 0 then 0 else 1) ∧ PS L b τ1 p1 e1 z1 Mc2 Mm2 ∧ Df z Mm Mm2 ∧ ∀ t : List Bool, t.length ≤ 28 → tck (dop Mm2) (dar Mm2) z (z1 - z) ((if π = 0 then [] else [false]) ++ t) = some (false :: t)) := by
  have hL := h.1.1
  rcases unit_eq h (by omega) (decide (π = 47)) with ⟨Mc', Mm', a1, a2, a3, a4⟩ | ⟨τ1, p1, e1, Mc1, Mm1, a1, a2, a3, a4, a5, a6⟩
  · left
    refine ⟨Mc', Mm', a1, fun np => ?_, a3, a4⟩
    unfold refP
    rw [a2, Option.bind_some, if_pos rfl]
  · right
    have n0 : ¬ (0 : Int32) = -1 := by decide
    have o01 : dop Mm1 z = 0 ∨ dop Mm1 z = 1 := by
      rcases a6 with q | q
      · exact Or.inl q.1
      · exact Or.inr q.1
    have n5 : ¬ dop Mm1 z = 5 := by
      rcases o01 with q | q <;> (rw [q]; decide)
    by_cases c : π = 0
    · subst c
      refine ⟨τ1, p1, e1, z + 1, Mc1, Mc1, Mm1, a1, fun _ => rfl, fun q => absurd rfl q, fun np => ?_, a3, by rw [if_pos rfl], a4, a5, fun t ht => ?_⟩
      · unfold refP
        rw [a2, Option.bind_some, if_neg n0, if_pos rfl]
      · rw [show z + 1 - z = 1 by omega, if_pos rfl]
        exact tck_one (fun q => absurd q n5) (tst_01 o01 (by rw [List.nil_append]; omega))
    · rw [if_neg c] at hz
      obtain ⟨x, x1, x2, x3, x4⟩ : ∃ x, (x = 4 ∨ x = 5) ∧ opc x = π ∧ (if π = 42 then (4 : Int32) else 5) = nI x ∧ (x = 5 → π = 47) := by
        rcases hπ with q | q | q
        · exact absurd q c
        · exact ⟨4, Or.inl rfl, by rw [q]; rfl, by rw [if_pos q]; rfl, fun q => by omega⟩
        · exact ⟨5, Or.inr rfl, by rw [q]; rfl, by rw [if_neg (by omega)]; rfl, fun _ => q⟩
      have hp1 : p1 ≤ L := Nat.le_trans a4.2.1 a4.2.2.1
      obtain ⟨Mc2, Mm2, g1, g2, g3, g4, g5, g6⟩ := ps_put a4 (by omega) (c := nI (20000 + π)) (o := nI x) (a := 0) (Or.inr (Or.inr ⟨x, by omega, by omega, rfl, by rw [x2]⟩))
      refine ⟨τ1, p1, e1, z + 2, Mc1, Mc2, Mm2, a1, fun q => absurd q c, fun _ => g1, fun np => ?_, a3, by rw [if_neg c], g3, a5.trans g4 (by omega), fun t ht => ?_⟩
      · unfold refP
        rw [a2, Option.bind_some, if_neg n0, if_neg c, x3, g2]; rfl
      · have d0 := g4 (800 + z) (by omega)
        have e0 : dop Mm2 z = dop Mm1 z := d0.1
        have e1' : dar Mm2 z = dar Mm1 z := d0.2
        have ez : dop Mm2 (z + 1) = nI x := g5
        rw [show z + 2 - z = 1 + 1 by omega, if_neg c]
        rw [tck_app 1 1 z ([false] ++ t) (false :: false :: t) (tck_one (fun q => by rw [e0] at q; exact absurd q n5) (by rw [e0]; exact tst_01 o01 (by simp; omega)))]
        refine tck_one (fun q => ?_) ?_
        · rw [ez] at q
          have : x = 5 := (nI_eqb (by omega) (by omega)).mp q
          have hd : decide (π = 47) = true := decide_eq_true (x4 this)
          refine ⟨by omega, ?_, ?_⟩
          · rw [show z + 1 - 1 = z by omega, e0]
            rcases a6 with w | w
            · exact w.1
            · rw [hd] at w; cases w.2
          · rw [show z + 1 - 1 = z by omega, e1']
            rcases a6 with w | w
            · exact w.2 hd
            · rw [hd] at w; cases w.2
        · rw [ez, tst_op (by omega) (by omega), decide_eq_false (by omega)]
theorem sum_sim {d : Nat} : ∀ (F np ns i τ p e z π σ : Nat) (Mc Mm : Mem), PS L b τ p e z Mc Mm → (π = 0 ∨ π = 42 ∨ π = 47) → (σ = 0 ∨ σ = 43 ∨ σ = 45) → L - p < F → L - p < np → L - p < ns → i + (L - p) < 400 → z + (if π = 0 then 0 else 1) + (if σ = 0 then 0 else 1) + d ≤ p →
    (∃ Mc' Mm', fX2_readSum_L7 F (nI π) (nI σ) (nI i) Mc = some (0, Mc') ∧ (refP π np Mm).bind (refS σ ns) = some (-1, Mm') ∧ FR Mc' Mm' ∧ Df z Mm Mm') ∨
    (∃ τ' p' e' z' Mc' Mm', fX2_readSum_L7 F (nI π) (nI σ) (nI i) Mc = some (1, Mc') ∧ (refP π np Mm).bind (refS σ ns) = some (0, Mm') ∧ p < p' ∧ z < z' ∧ z' + d ≤ p' ∧ PS L b τ' p' e' z' Mc' Mm' ∧ Df z Mm Mm' ∧ ∀ s : List Bool, s.length ≤ 27 → tck (dop Mm') (dar Mm') z (z' - z) (stk π σ s) = some (false :: s))
  | 0, np, ns, i, τ, p, e, z, π, σ, Mc, Mm, _, _, _, h, _, _, _, _ => by omega
  | F + 1, np, ns, i, τ, p, e, z, π, σ, Mc, Mm, h, hπ, hσ, hF, hnp, hns, hi, hz => by
    have hL := h.1.1
    have hp : p ≤ L := Nat.le_trans h.2.1 h.2.2.1
    have c400 : ¬ (400 : Int32) ≤ nI i := nI_ge (show i < 400 by omega) (by decide)
    have t47 : (if nI π = (47 : Int32) then (1 : Int32) else 0) = if decide (π = 47) then 1 else 0 := by
      by_cases q : π = 47
      · rw [if_pos (by rw [q]; rfl), if_pos (decide_eq_true q)]
      · rw [if_neg (show ¬ nI π = (47 : Int32) from fun w => q ((nI_eqb (by omega) (by omega)).mp (show nI π = nI 47 from w))), if_neg (by rw [decide_eq_true_eq]; exact q)]
    have st : fX2_readSum_L7 (F + 1) (nI π) (nI σ) (nI i) Mc = (fX2_readUnit (if decide (π = 47) then 1 else 0) Mc).bind fun r3 => if r3.1 = 0 then (some (0, r3.2)) else (jn (fun (M5 : Mem) => (fX8_passSign 42 47 M5).bind fun r6 => jn (fun (a8 : Int32) (M9 : Mem) => fX2_readSum_L7 F r6.1 a8 (nI (i + 1)) M9) fun (J7 : (Int32) → (Mem) → Option (Int32 × Mem)) => if r6.1 = 0 then (jn (fun (M11 : Mem) => (fX8_passSign 43 45 M11).bind fun r12 => if r12.1 = 0 then (some (1, r12.2)) else (J7 r12.1 r12.2)) fun (J10 : (Mem) → Option (Int32 × Mem)) => if nI σ = 0 then (J10 r6.2) else ((fX1_put (20000 + nI σ) r6.2).bind fun M13 => J10 M13)) else (J7 (nI σ) r6.2)) fun (J4 : (Mem) → Option (Int32 × Mem)) => if nI π = 0 then (J4 r3.2) else ((fX1_put (20000 + nI π) r3.2).bind fun M14 => J4 M14)) := by
      rw [fX2_readSum_L7, if_neg c400, jn_eq, ← t47, nI_1]
      by_cases q : nI π = (47 : Int32)
      · rw [if_pos q, if_pos q]
      · rw [if_neg q, if_neg q]
    rcases fac_eq h hπ (by omega) with ⟨Mc', Mm', a1, a2, a3, a4⟩ | ⟨τ1, p1, e1, z1, Mc1, Mc2, Mm2, a1, a2, a3, a4, a5, a6, a7, a8, a9⟩
    · left
      refine ⟨Mc', Mm', ?_, ?_, a3, a4⟩
      · rw [st, a1, Option.bind_some, if_pos rfl]
      · rw [a2, Option.bind_some]
        unfold refS
        rw [if_pos rfl]
    · -- the class behind the unit and its joining
      have hp1 : p1 ≤ L := Nat.le_trans a7.2.1 a7.2.2.1
      have st2 : fX2_readSum_L7 (F + 1) (nI π) (nI σ) (nI i) Mc = (fX8_passSign 42 47 Mc2).bind fun r6 => jn (fun (a8 : Int32) (M9 : Mem) => fX2_readSum_L7 F r6.1 a8 (nI (i + 1)) M9) fun (J7 : (Int32) → (Mem) → Option (Int32 × Mem)) => if r6.1 = 0 then (jn (fun (M11 : Mem) => (fX8_passSign 43 45 M11).bind fun r12 => if r12.1 = 0 then (some (1, r12.2)) else (J7 r12.1 r12.2)) fun (J10 : (Mem) → Option (Int32 × Mem)) => if nI σ = 0 then (J10 r6.2) else ((fX1_put (20000 + nI σ) r6.2).bind fun M13 => J10 M13)) else (J7 (nI σ) r6.2) := by
        rw [st, a1, Option.bind_some, if_neg one_ne]
        by_cases q : π = 0
        · have q' : nI π = (0 : Int32) := by rw [q]; rfl
          rw [jn_eq, if_pos q', a2 q]
        · have q' : ¬ nI π = (0 : Int32) := nI_ne0 (by omega) (by omega)
          rw [jn_eq, if_neg q', ladd 20000 π, a3 q, Option.bind_some]
      obtain ⟨np', rfl⟩ : ∃ np', np = np' + 1 := ⟨np - 1, by omega⟩
      obtain ⟨ns', rfl⟩ : ∃ ns', ns = ns' + 1 := ⟨ns - 1, by omega⟩
      have hM2 : HandM τ1 p1 e1 Mm2 := a7.2.2.2.2.2.2.1
      have ts : ∀ s : List Bool, s.length ≤ 27 → tck (dop Mm2) (dar Mm2) z (z1 - z) (stk π σ s) = some (false :: ((if σ = 0 then [] else [false]) ++ s)) := fun s hs => a9 _ (by
        by_cases q : σ = 0
        · rw [if_pos q, List.nil_append]; omega
        · rw [if_neg q]; simp; omega)
      rcases pass_eq a7 (c := 42) (d := 47) (by decide) (by decide) with ⟨b1, b2⟩ | ⟨b1, τ2, p2, e2, Mc3, Mm3, b2, b3, b4, b5, b6⟩
      · -- the product ends
        have b2 : fX8_passSign 42 47 Mc2 = some (0, Mc2) := b2
        have rp : refP π (np' + 1) Mm = some (0, Mm2) := by rw [a4, rprod_step hM2, if_neg (by omega), if_neg (by omega)]
        have n01 : ¬ (0 : Int32) = -1 := by decide
        -- the sum's joining
        have key : ∃ z2 Mc3 Mm3, PS L b τ1 p1 e1 z2 Mc3 Mm3 ∧ z1 ≤ z2 ∧ z2 + d ≤ p1 ∧ Df z1 Mm2 Mm3 ∧ (∀ s : List Bool, s.length ≤ 27 → tck (dop Mm3) (dar Mm3) z (z2 - z) (stk π σ s) = some (false :: s)) ∧ refS σ (ns' + 1) (0, Mm2) = fX12_readSum_L10 (ns' + 1) Mm3 ∧ fX2_readSum_L7 (F + 1) (nI π) (nI σ) (nI i) Mc = (fX8_passSign 43 45 Mc3).bind fun r12 => if r12.1 = 0 then (some (1, r12.2)) else fX2_readSum_L7 F 0 r12.1 (nI (i + 1)) r12.2 := by
          by_cases q : σ = 0
          · subst q
            refine ⟨z1, Mc2, Mm2, a7, Nat.le_refl _, by rw [if_pos rfl] at hz; omega, Df.rfl', fun s hs => ?_, ?_, ?_⟩
            · have := ts s hs
              rw [if_pos rfl] at this; exact this
            · unfold refS; rw [if_neg n01, if_pos rfl]
            · rw [st2, b2, Option.bind_some, jn_eq, if_pos rfl, jn_eq, if_pos (show nI 0 = (0 : Int32) from rfl)]
          · rw [if_neg q] at hz
            obtain ⟨x, x1, x2, x3⟩ : ∃ x, (x = 2 ∨ x = 3) ∧ opc x = σ ∧ (if σ = 43 then (2 : Int32) else 3) = nI x := by
              rcases hσ with w | w | w
              · exact absurd w q
              · exact ⟨2, Or.inl rfl, by rw [w]; rfl, by rw [if_pos w]; rfl⟩
              · exact ⟨3, Or.inr rfl, by rw [w]; rfl, by rw [if_neg (by omega)]; rfl⟩
            obtain ⟨Mc3, Mm3, g1, g2, g3, g4, g5, g6⟩ := ps_put a7 (by omega) (c := nI (20000 + σ)) (o := nI x) (a := 0) (Or.inr (Or.inr ⟨x, by omega, by omega, rfl, by rw [x2]⟩))
            have hz1 : z < z1 := by omega
            refine ⟨z1 + 1, Mc3, Mm3, g3, by omega, by omega, g4, fun s hs => ?_, ?_, ?_⟩
            · have := ts s hs
              rw [if_neg q] at this
              rw [← tck_df g4 (show z + (z1 - z) ≤ z1 by omega)] at this
              rw [show z1 + 1 - z = (z1 - z) + 1 by omega, tck_app (z1 - z) 1 z _ _ this, show z + (z1 - z) = z1 by omega]
              have ez : dop Mm3 z1 = nI x := g5
              refine tck_one (fun w => ?_) ?_
              · rw [ez] at w
                have : x = 5 := (nI_eqb (by omega) (by omega)).mp w
                omega
              · rw [ez]
                show tst (nI x) (false :: false :: s) = some (false :: s)
                rw [tst_op (by omega) (by omega), decide_eq_false (by omega)]
            · unfold refS; rw [if_neg n01, if_neg q, x3, g2]; rfl
            · rw [st2, b2, Option.bind_some, jn_eq, if_pos rfl, jn_eq, if_neg (nI_ne0 (show 0 < σ by omega) (by omega)), ladd 20000 σ, g1, Option.bind_some]
        obtain ⟨z2, Mc3, Mm3, k1, k2, k3, k4, k5, k6, k7⟩ := key
        have hM3 : HandM τ1 p1 e1 Mm3 := k1.2.2.2.2.2.2.1
        rw [rp, Option.bind_some, k6, rsum_step hM3, k7]
        rcases pass_eq k1 (c := 43) (d := 45) (by decide) (by decide) with ⟨d1, d2⟩ | ⟨d1, τ4, p4, e4, Mc4, Mm4, d2, d3, d4, d5, d6⟩
        · right
          have d2 : fX8_passSign 43 45 Mc3 = some (0, Mc3) := d2
          rw [d2, Option.bind_some, if_pos rfl, if_neg (by omega), if_neg (by omega)]
          exact ⟨τ1, p1, e1, z2, Mc3, Mm3, rfl, rfl, a5, by omega, k3, k1, a8.trans k4 (by omega), k5⟩
        · have d2 : fX8_passSign 43 45 Mc3 = some (nI (τ1 - 100), Mc4) := d2
          have hp4 : p4 ≤ L := Nat.le_trans d5.2.1 d5.2.2.1
          have rr : (if τ1 = 143 then (fX12_reads Mm3).bind fun M4 => (refP 0 FU M4).bind (refS 43 ns') else if τ1 = 145 then (fX12_reads Mm3).bind fun M4 => (refP 0 FU M4).bind (refS 45 ns') else some (0, Mm3)) = (refP 0 FU Mm4).bind (refS (τ1 - 100) ns') := by
            rcases d1 with w | w
            · rw [if_pos w, d3, Option.bind_some, w]
            · rw [if_neg (by omega), if_pos w, d3, Option.bind_some, w]
          have hs0 : τ1 - 100 = 0 ∨ τ1 - 100 = 43 ∨ τ1 - 100 = 45 := by omega
          rw [d2, Option.bind_some, if_neg (nI_ne0 (show 0 < τ1 - 100 by omega) (by omega)), rr]
          rcases sum_sim (d := d) F FU ns' (i + 1) τ4 p4 e4 z2 0 (τ1 - 100) Mc4 Mm4 d5 (Or.inl rfl) hs0 (by omega) (FU_gt (by omega)) (by omega) (by omega) (by rw [if_pos rfl, if_neg (by omega)]; omega) with ⟨Mc5, Mm5, f1, f2, f3, f4⟩ | ⟨τ5, p5, e5, z5, Mc5, Mm5, f1, f2, f3, f4, f5, f6, f7, f8⟩
          · left
            exact ⟨Mc5, Mm5, f1, f2, f3, (a8.trans k4 (by omega)).trans (d6.trans f4 (Nat.le_refl _)) (by omega)⟩
          · right
            refine ⟨τ5, p5, e5, z5, Mc5, Mm5, f1, f2, by omega, by omega, f5, f6, (a8.trans k4 (by omega)).trans (d6.trans f7 (Nat.le_refl _)) (by omega), fun s hs => ?_⟩
            have s1 := k5 s hs
            rw [← tck_df (d6.trans f7 (Nat.le_refl _)) (show z + (z2 - z) ≤ z2 by omega)] at s1
            have s2 := f8 s hs
            rw [show z5 - z = (z2 - z) + (z5 - z2) by omega, tck_app _ _ z _ _ s1, show z + (z2 - z) = z2 by omega]
            unfold stk at s2
            rw [if_pos rfl, if_neg (by omega)] at s2
            exact s2
      · -- another unit joins
        have b2 : fX8_passSign 42 47 Mc2 = some (nI (τ1 - 100), Mc3) := b2
        have hp2 : p2 ≤ L := Nat.le_trans b5.2.1 b5.2.2.1
        have rp : refP π (np' + 1) Mm = refP (τ1 - 100) np' Mm3 := by
          rw [a4, rprod_step hM2]
          rcases b1 with w | w
          · rw [if_pos w, b3, Option.bind_some, w]
          · rw [if_neg (by omega), if_pos w, b3, Option.bind_some, w]
        have hs0 : τ1 - 100 = 0 ∨ τ1 - 100 = 42 ∨ τ1 - 100 = 47 := by omega
        rw [st2, b2, Option.bind_some, jn_eq, if_neg (nI_ne0 (show 0 < τ1 - 100 by omega) (by omega)), rp]
        rcases sum_sim (d := d) F np' (ns' + 1) (i + 1) τ2 p2 e2 z1 (τ1 - 100) σ Mc3 Mm3 b5 hs0 hσ (by omega) (by omega) (by omega) (by omega) (by rw [if_neg (show ¬ τ1 - 100 = 0 by omega)]; omega) with ⟨Mc5, Mm5, f1, f2, f3, f4⟩ | ⟨τ5, p5, e5, z5, Mc5, Mm5, f1, f2, f3, f4, f5, f6, f7, f8⟩
        · left
          exact ⟨Mc5, Mm5, f1, f2, f3, a8.trans (b6.trans f4 (Nat.le_refl _)) (by omega)⟩
        · right
          refine ⟨τ5, p5, e5, z5, Mc5, Mm5, f1, f2, by omega, by omega, f5, f6, a8.trans (b6.trans f7 (Nat.le_refl _)) (by omega), fun s hs => ?_⟩
          have s1 := ts s hs
          rw [← tck_df (b6.trans f7 (Nat.le_refl _)) (show z + (z1 - z) ≤ z1 by omega)] at s1
          have s2 := f8 s hs
          rw [show z5 - z = (z1 - z) + (z5 - z1) by omega, tck_app _ _ z _ _ s1, show z + (z1 - z) = z1 by omega]
          unfold stk at s2
          rw [if_neg (show ¬ τ1 - 100 = 0 by omega)] at s2
          exact s2
theorem sum_eq {d τ p e z : Nat} {Mc Mm : Mem} (h : PS L b τ p e z Mc Mm) (hp1 : 1 ≤ p) (hz : z + d ≤ p) :
    (∃ Mc' Mm', fX2_readSum Mc = some (0, Mc') ∧ fX12_readSum Mm = some (-1, Mm') ∧ FR Mc' Mm' ∧ Df z Mm Mm') ∨
    (∃ τ' p' e' z' Mc' Mm', fX2_readSum Mc = some (1, Mc') ∧ fX12_readSum Mm = some (0, Mm') ∧ p < p' ∧ z < z' ∧ z' + d ≤ p' ∧ PS L b τ' p' e' z' Mc' Mm' ∧ Df z Mm Mm' ∧ ∀ s : List Bool, s.length ≤ 27 → tck (dop Mm') (dar Mm') z (z' - z) s = some (false :: s)) := by
  have hL := h.1.1
  have hp : p ≤ L := Nat.le_trans h.2.1 h.2.2.1
  have := sum_sim (d := d) FU FU FU 0 τ p e z 0 0 Mc Mm h (Or.inl rfl) (Or.inl rfl) (FU_gt (by omega)) (FU_gt (by omega)) (FU_gt (by omega)) (by omega) (by rw [if_pos rfl]; omega)
  rw [nI_0, ← sum_is] at this
  exact this
end SUM2
