/-! ===== a twister said ===== -/
def thI (th : Bool) : Int32 := if th then 1 else 0
theorem mu_comm {M : Mem} {a i j : Nat} {v w : Int32} (h : i ≠ j) : mu (mu M a i v) a j w = mu (mu M a j w) a i v := by
  funext x y
  by_cases e : x = a
  · subst e
    by_cases e1 : y = j
    · subst e1; rw [mu_s, mu_i (by omega), mu_s]
    · by_cases e2 : y = i
      · subst e2; rw [mu_i e1, mu_s, mu_s]
      · rw [mu_i e1, mu_i e2, mu_i e2, mu_i e1]
  · rw [mu_o e, mu_o e, mu_o e, mu_o e]
section TWIST
variable {k n0 P B : Nat} {th : Bool} {Mc0 Mm0 Mc Mm : Mem}
theorem D0_m (h : DR k th n0 Mc0 Mm0 Mc Mm) : Mm 202 = Mm0 202 ∧ Mm 203 = Mm0 203 ∧ Mm 204 = Mm0 204 ∧ Mm 198 = Mm0 198 := by
  obtain ⟨-, b, -, -⟩ := h
  refine ⟨funext fun i => b 202 i ?_ ?_, funext fun i => b 203 i ?_ ?_, funext fun i => b 204 i ?_ ?_, funext fun i => b 198 i ?_ ?_⟩ <;> (unfold FM; cases th <;> simp)
theorem who_at (h0 : D0 k th P B Mc0 Mm0) (h : DR k th n0 Mc0 Mm0 Mc Mm) {b s p : Nat} (hb : b < B) (hs : s ≤ 1) (hw : (s = 0 ∧ Mm0 202 b = nI p) ∨ (s = 1 ∧ Mm0 203 b = nI p)) (hp : p < P) : fX9_whoIs k (nI b) (nI s) Mc = some (nI p) ∧ fX12_hopperOf (nI b) (nI s) Mm = some (nI p) := by
  obtain ⟨-, hF, hB, -⟩ := D0_ask h0 h
  obtain ⟨m1, m2, -, -⟩ := D0_m h
  obtain ⟨p', p1, p2, p3, p4⟩ := who_side h0.1 hF hB hb hs
  have hP := hB.1
  have : p' = p := by
    rcases hw with ⟨e, q⟩ | ⟨e, q⟩
    · rcases p4 with ⟨e', q'⟩ | ⟨e', q'⟩
      · rw [m1, q] at q'; exact ((nI_eqb (by omega) (by omega)).mp q').symm
      · omega
    · rcases p4 with ⟨e', q'⟩ | ⟨e', q'⟩
      · omega
      · rw [m2, q] at q'; exact ((nI_eqb (by omega) (by omega)).mp q').symm
  subst this
  exact ⟨p2, p3⟩
theorem hap_th {M : Mem} {x : Nat} (u : M 198 5 = 1) : fX12_happens (nI x) M = if nI (2 * x) < (1000 : Int32) then some (0, M) else some (1, M) := by
  unfold fX12_happens
  rw [if_neg (by rw [u]; exact one_ne), lmul 2 x]
theorem hap_no {M : Mem} {x : Nat} (u : M 198 5 = 0) (c : nI x ≤ (0 : Int32)) : fX12_happens (nI x) M = some (0, M) := by
  unfold fX12_happens
  rw [if_pos u, if_pos c]
theorem hap_dr {M M' : Mem} {x : Nat} {v : Int32} (u : M 198 5 = 0) (c : ¬ nI x ≤ (0 : Int32)) (d : fX12_draw 1000 M = some (v, M')) : fX12_happens (nI x) M = if nI x ≤ v then some (0, M') else some (1, M') := by
  unfold fX12_happens
  rw [if_pos u, if_neg c, d, Option.bind_some]
theorem tw_step (h0 : D0 k th P B Mc0 Mm0) {b s p q : Nat} (hb : b < B) (hs : s ≤ 1) (hw : (s = 0 ∧ Mm0 202 b = nI p) ∨ (s = 1 ∧ Mm0 203 b = nI p)) (hp : p < P) (hq : Mm0 204 b = nI q) (hq9 : q ≤ 9) {F ph : Nat} (hph : ph ≤ q) (h : DR k th n0 Mc0 Mm0 Mc Mm) : ∃ (c : Bool) (Mc' Mm' : Mem), DR k th n0 Mc0 Mm0 Mc' Mm' ∧ (∀ K1 K2, fX0_twist_L39 K1 K2 k (nI b) (nI s) (thI th) (F + 1) (nI ph) Mc = if c then K2 (nI ph) Mc' else fX0_twist_L39 K1 K2 k (nI b) (nI s) (thI th) F (nI (ph + 1)) Mc') ∧ ∀ K3 K4, fX12_hopsOver_L10 K3 K4 (nI b) (nI p) (F + 1) (nI ph) Mm = if c then K4 (nI ph) Mm' else fX12_hopsOver_L10 K3 K4 (nI b) (nI p) F (nI (ph + 1)) Mm' := by
  have hA := D0_ask h0 h
  have hB14 := hA.2.2.1.2.1
  have mq : Mm 204 b = nI q := by rw [(D0_m h).2.2.1]; exact hq
  have cq : Mc (k + 6) b = nI q := by rw [(hA.2.1.2.2 b (by omega)).2.2]; exact mq
  have cl : ¬ nI q < nI ph := nI_nlt hph (by omega)
  obtain ⟨x, Mc1, Mm1, x1, x2, x3, x4, x5⟩ := ask_rolls (ph := nI ph) h0.1 hA hb hp (who_at h0 h hb hs hw hp).1
  have h1 := DR_scr h0 h x2 x3
  obtain ⟨t1, t2⟩ := D0_th h0 h1
  cases th with
  | true =>
    have u := t1 rfl
    have e2 : (2 : Int32) * nI x = nI (2 * x) := lmul 2 x
    by_cases c : x < 500
    · have c1 : nI x < (500 : Int32) := nI_lt (show x < 500 from c) (by decide)
      have c2 : nI (2 * x) < (1000 : Int32) := nI_lt (show 2 * x < 1000 by omega) (by decide)
      refine ⟨true, Mc1, Mm1, h1, fun K1 K2 => ?_, fun K3 K4 => ?_⟩
      · rw [fX0_twist_L39, rd_nI (by omega), cq, Option.bind_some, if_neg cl, x4, Option.bind_some]
        dsimp only [jn]
        rw [if_neg (show ¬ thI true = 0 by decide), if_pos c1, if_pos rfl, if_pos rfl]
      · rw [fX12_hopsOver_L10, rd_nI (by omega), mq, Option.bind_some, if_neg cl, x5, Option.bind_some]
        rw [hap_th u, if_pos c2, Option.bind_some, if_pos rfl, if_pos rfl]
    · have c1 : ¬ nI x < (500 : Int32) := nI_nlt (show 500 ≤ x by omega) (by omega)
      have c2 : ¬ nI (2 * x) < (1000 : Int32) := nI_nlt (show 1000 ≤ 2 * x by omega) (by omega)
      refine ⟨false, Mc1, Mm1, h1, fun K1 K2 => ?_, fun K3 K4 => ?_⟩
      · rw [fX0_twist_L39, rd_nI (by omega), cq, Option.bind_some, if_neg cl, x4, Option.bind_some]
        dsimp only [jn]
        rw [if_neg (show ¬ thI true = 0 by decide), if_neg c1, if_neg one_ne, nI_1, if_neg (show ¬ false = true by decide)]
      · rw [fX12_hopsOver_L10, rd_nI (by omega), mq, Option.bind_some, if_neg cl, x5, Option.bind_some]
        rw [hap_th u, if_neg c2, Option.bind_some, if_neg one_ne, nI_1, if_neg (show ¬ false = true by decide)]
  | false =>
    obtain ⟨u, -⟩ := t2 rfl
    by_cases c : x = 0
    · subst c
      have c1 : nI 0 ≤ (0 : Int32) := by decide
      refine ⟨true, Mc1, Mm1, h1, fun K1 K2 => ?_, fun K3 K4 => ?_⟩
      · rw [fX0_twist_L39, rd_nI (by omega), cq, Option.bind_some, if_neg cl, x4, Option.bind_some]
        dsimp only [jn]
        rw [if_pos (show thI false = 0 from rfl), if_pos c1, if_pos rfl, if_pos rfl]
      · rw [fX12_hopsOver_L10, rd_nI (by omega), mq, Option.bind_some, if_neg cl, x5, Option.bind_some]
        rw [hap_no u c1, Option.bind_some, if_pos rfl, if_pos rfl]
    · have c1 : ¬ nI x ≤ (0 : Int32) := nI_nle (by omega) (by omega)
      obtain ⟨v, Mc2, Mm2, v1, v2, v3⟩ := DR_draw h0 h1
      by_cases d : nI x ≤ v
      · refine ⟨true, Mc2, Mm2, v3, fun K1 K2 => ?_, fun K3 K4 => ?_⟩
        · rw [fX0_twist_L39, rd_nI (by omega), cq, Option.bind_some, if_neg cl, x4, Option.bind_some]
          dsimp only [jn]
          rw [if_pos (show thI false = 0 from rfl), if_neg c1, v1, Option.bind_some, if_pos d, if_pos rfl, if_pos rfl]
        · rw [fX12_hopsOver_L10, rd_nI (by omega), mq, Option.bind_some, if_neg cl, x5, Option.bind_some]
          rw [hap_dr u c1 v2, if_pos d, Option.bind_some, if_pos rfl, if_pos rfl]
      · refine ⟨false, Mc2, Mm2, v3, fun K1 K2 => ?_, fun K3 K4 => ?_⟩
        · rw [fX0_twist_L39, rd_nI (by omega), cq, Option.bind_some, if_neg cl, x4, Option.bind_some]
          dsimp only [jn]
          rw [if_pos (show thI false = 0 from rfl), if_neg c1, v1, Option.bind_some, if_neg d, if_neg one_ne, nI_1, if_neg (show ¬ false = true by decide)]
        · rw [fX12_hopsOver_L10, rd_nI (by omega), mq, Option.bind_some, if_neg cl, x5, Option.bind_some]
          rw [hap_dr u c1 v2, if_neg d, Option.bind_some, if_neg one_ne, nI_1, if_neg (show ¬ false = true by decide)]
theorem tw_loop (h0 : D0 k th P B Mc0 Mm0) {b s p q : Nat} (hb : b < B) (hs : s ≤ 1) (hw : (s = 0 ∧ Mm0 202 b = nI p) ∨ (s = 1 ∧ Mm0 203 b = nI p)) (hp : p < P) (hq : Mm0 204 b = nI q) (hq9 : q ≤ 9) : ∀ (m F ph : Nat) (Mc Mm : Mem), ph + m = q + 1 → m < F → DR k th n0 Mc0 Mm0 Mc Mm → ∃ Mc' Mm', DR k th n0 Mc0 Mm0 Mc' Mm' ∧ (((∀ K1 K2, fX0_twist_L39 K1 K2 k (nI b) (nI s) (thI th) F (nI ph) Mc = K1 Mc') ∧ ∀ K3 K4, fX12_hopsOver_L10 K3 K4 (nI b) (nI p) F (nI ph) Mm = K3 Mm') ∨ ∃ e, (∀ K1 K2, fX0_twist_L39 K1 K2 k (nI b) (nI s) (thI th) F (nI ph) Mc = K2 (nI e) Mc') ∧ ∀ K3 K4, fX12_hopsOver_L10 K3 K4 (nI b) (nI p) F (nI ph) Mm = K4 (nI e) Mm')
  | m, 0, ph, Mc, Mm, _, h, _ => by omega
  | 0, F + 1, ph, Mc, Mm, h1, h2, h => by
    have hA := D0_ask h0 h
    have hB14 := hA.2.2.1.2.1
    have mq : Mm 204 b = nI q := by rw [(D0_m h).2.2.1]; exact hq
    have cq : Mc (k + 6) b = nI q := by rw [(hA.2.1.2.2 b (by omega)).2.2]; exact mq
    have cl : nI q < nI ph := nI_lt (by omega) (by omega)
    refine ⟨Mc, Mm, h, Or.inl ⟨fun K1 K2 => ?_, fun K3 K4 => ?_⟩⟩
    · rw [fX0_twist_L39, rd_nI (by omega), cq, Option.bind_some, if_pos cl]
    · rw [fX12_hopsOver_L10, rd_nI (by omega), mq, Option.bind_some, if_pos cl]
  | m + 1, F + 1, ph, Mc, Mm, h1, h2, h => by
    obtain ⟨c, Mc1, Mm1, d1, d2, d3⟩ := tw_step (F := F) h0 hb hs hw hp hq hq9 (show ph ≤ q by omega) h
    cases c with
    | true => exact ⟨Mc1, Mm1, d1, Or.inr ⟨ph, fun K1 K2 => d2 K1 K2, fun K3 K4 => d3 K3 K4⟩⟩
    | false =>
      obtain ⟨Mc2, Mm2, e1, e2⟩ := tw_loop h0 hb hs hw hp hq hq9 m F (ph + 1) Mc1 Mm1 (by omega) (by omega) d1
      refine ⟨Mc2, Mm2, e1, ?_⟩
      rcases e2 with ⟨e2, e3⟩ | ⟨e, e2, e3⟩
      · exact Or.inl ⟨fun K1 K2 => (d2 K1 K2).trans (e2 K1 K2), fun K3 K4 => (d3 K3 K4).trans (e3 K3 K4)⟩
      · exact Or.inr ⟨e, fun K1 K2 => (d2 K1 K2).trans (e2 K1 K2), fun K3 K4 => (d3 K3 K4).trans (e3 K3 K4)⟩
theorem said_or : ∀ z, z ≤ 3 → ∀ s, s ≤ 1 → ∃ y, y ≤ 3 ∧ nI z ||| jshl 1 (nI s) = nI y := by
  intro z hz s hs
  rcases (show z = 0 ∨ z = 1 ∨ z = 2 ∨ z = 3 by omega) with rfl | rfl | rfl | rfl <;> rcases (show s = 0 ∨ s = 1 by omega) with rfl | rfl
  · exact ⟨1, by omega, by decide⟩
  · exact ⟨2, by omega, by decide⟩
  · exact ⟨1, by omega, by decide⟩
  · exact ⟨3, by omega, by decide⟩
  · exact ⟨3, by omega, by decide⟩
  · exact ⟨2, by omega, by decide⟩
  · exact ⟨3, by omega, by decide⟩
  · exact ⟨3, by omega, by decide⟩
/-- both have said it: it holds -/
theorem tw_holds (h0 : D0 k th P B Mc0 Mm0) {b s p o f g q : Nat} (hb : b < B) (hs : s ≤ 1) (hf : Mm0 202 b = nI f) (hg : Mm0 203 b = nI g) (hfg : f ≠ g) (hf12 : f < 12) (hg12 : g < 12) (hq : Mm0 204 b = nI q) (hpo : (s = 0 ∧ p = f ∧ o = g) ∨ (s = 1 ∧ p = g ∧ o = f)) (h : DR k th n0 Mc0 Mm0 Mc Mm) : ∃ Mc' Mm', DR k th n0 Mc0 Mm0 Mc' Mm' ∧
    ((wr Mc (k + 9) 14 (nI b) 1).bind fun M18 => (rd M18 (k + 2) 12 (nI p)).bind fun v19 => (wr M18 (k + 2) 12 (nI p) (v19 + 1)).bind fun M20 => (rd M20 (k + 2) 12 (nI o)).bind fun v21 => (wr M20 (k + 2) 12 (nI o) (v21 + 1)).bind fun M22 => (rd M22 (k + 6) 14 (nI b)).bind fun v23 => (fX0_note k 2 (nI b) v23 (thI th) M22).bind fun M24 => some ((1 : Int32), M24)) = some (1, Mc') ∧
    ((wr Mm 199 83 (69 + nI b) 1).bind fun M10 => (rd M10 202 14 (nI b)).bind fun v11 => (rd M10 202 14 (nI b)).bind fun v12 => (rd M10 199 83 (17 + v12)).bind fun v13 => (wr M10 199 83 (17 + v11) (v13 + 1)).bind fun M14 => (rd M14 203 14 (nI b)).bind fun v15 => (rd M14 203 14 (nI b)).bind fun v16 => (rd M14 199 83 (17 + v16)).bind fun v17 => (wr M14 199 83 (17 + v15) (v17 + 1)).bind fun M18 => (rd M18 204 14 (nI b)).bind fun v19 => (fX12_notes 2 (nI b) v19 M18).bind fun M20 => some ((1 : Int32), M20)) = some (1, Mm') := by
  have hA := D0_ask h0 h
  have hB14 := hA.2.2.1.2.1
  have hk := h0.1
  obtain ⟨m202, m203, m204, -⟩ := D0_m h
  have d1 := DR_is h0 h (j := b) (by omega) 1
  obtain ⟨f1, f2, f3⟩ := d1.2.2.1.2.1 f hf12
  obtain ⟨g1, g2, g3⟩ := d1.2.2.1.2.1 g hg12
  have d2 := DR_held h0 d1 (j := f) hf12 (Mm 199 (17 + f) + 1)
  have d3 := DR_held h0 d2 (j := g) hg12 (Mm 199 (17 + g) + 1)
  have cf : mu Mc (k + 9) b 1 (k + 2) f = Mm 199 (17 + f) := by rw [f2, mu_i (by omega)]
  have cg : mu Mc (k + 9) b 1 (k + 2) g = Mm 199 (17 + g) := by rw [g2, mu_i (by omega)]
  have cg' : ∀ v, mu (mu Mc (k + 9) b 1) (k + 2) f v (k + 2) g = Mm 199 (17 + g) := fun v => by rw [mu_i (by omega), cg]
  have cf' : ∀ v, mu (mu Mc (k + 9) b 1) (k + 2) g v (k + 2) f = Mm 199 (17 + f) := fun v => by rw [mu_i (by omega), cf]
  have rf : mu Mm 199 (69 + b) 1 199 (17 + f) = Mm 199 (17 + f) := mu_i (by omega)
  have rg' : ∀ v, mu (mu Mm 199 (69 + b) 1) 199 (17 + f) v 199 (17 + g) = Mm 199 (17 + g) := fun v => by rw [mu_i (by omega), mu_i (by omega)]
  have r6 : ∀ M : Mem, M (k + 6) = Mc (k + 6) → rd M (k + 6) 14 (nI b) = some (nI q) := fun M e => by rw [rd_nI (by omega), e, (hA.2.1.2.2 b (by omega)).2.2, m204, hq]
  obtain ⟨Mc', Mm', n1, n2, n3, -, -⟩ := DR_note h0 d3 2 (nI b) (nI q)
  refine ⟨Mc', Mm', n3, ?_, ?_⟩
  · have n1 : fX0_note k 2 (nI b) (nI q) (thI th) _ = some Mc' := n1
    rw [wr_nI (by omega), Option.bind_some]
    rcases hpo with ⟨-, rfl, rfl⟩ | ⟨-, rfl, rfl⟩
    · rw [rd_nI hf12, Option.bind_some, cf, wr_nI hf12, Option.bind_some, rd_nI hg12, Option.bind_some, cg', wr_nI hg12, Option.bind_some, r6 _ (by rw [mu_c (by omega), mu_c (by omega), mu_c (by omega)]), Option.bind_some, n1]; rfl
    · rw [rd_nI hg12, Option.bind_some, cg, wr_nI hg12, Option.bind_some, rd_nI hf12, Option.bind_some, cf', wr_nI hf12, Option.bind_some, r6 _ (by rw [mu_c (by omega), mu_c (by omega), mu_c (by omega)]), Option.bind_some, mu_comm (fun e => hfg e.symm), n1]; rfl
  · have r202 : ∀ M : Mem, M 202 = Mm 202 → rd M 202 14 (nI b) = some (nI f) := fun M e => by rw [rd_nI (by omega), e, m202, hf]
    have r203 : ∀ M : Mem, M 203 = Mm 203 → rd M 203 14 (nI b) = some (nI g) := fun M e => by rw [rd_nI (by omega), e, m203, hg]
    have r204 : ∀ M : Mem, M 204 = Mm 204 → rd M 204 14 (nI b) = some (nI q) := fun M e => by rw [rd_nI (by omega), e, m204, hq]
    rw [ladd 69 b, wr_nI (by omega), Option.bind_some, r202 _ (mu_c (by omega)), Option.bind_some, Option.bind_some, ladd 17 f, rd_nI (by omega), Option.bind_some, rf, wr_nI (by omega), Option.bind_some, r203 _ (by rw [mu_c (by omega), mu_c (by omega)]), Option.bind_some, Option.bind_some, ladd 17 g, rd_nI (by omega), Option.bind_some, rg', wr_nI (by omega), Option.bind_some, r204 _ (by rw [mu_c (by omega), mu_c (by omega), mu_c (by omega)]), Option.bind_some, n2]; rfl
theorem tw_all (h0 : D0 k th P B Mc0 Mm0) (h : DR k th n0 Mc0 Mm0 Mc Mm) {b s : Nat} (hb : b < B) (hs : s ≤ 1) : ∃ c : Int32, (c = 0 ∨ c = 1) ∧ fX12_canHop (nI b) (nI s) Mm = some c ∧ (c = 0 → fX0_twist k (nI b) (nI s) (thI th) Mc = some (0, Mc)) ∧ (c = 1 → ∃ r Mc' Mm', (r = 0 ∨ r = 1) ∧ fX0_twist k (nI b) (nI s) (thI th) Mc = some (r, Mc') ∧ fX12_hopsOver (nI b) (nI s) Mm = some (r, Mm') ∧ DR k th n0 Mc0 Mm0 Mc' Mm') := by
  have hA := D0_ask h0 h
  obtain ⟨hT, hF, hB, -⟩ := id hA
  have hB14 := hB.2.1
  have hP12 := hB.1
  have hk := h0.1
  obtain ⟨t1, t2, t3⟩ := hT.2.2.1 b (by omega)
  obtain ⟨f, g, q, a1, a2, a3, a4, a5, a6, a7, a8⟩ := h0.2.2.1.2.2.2.2 b hb
  obtain ⟨p, hp, hpo⟩ : ∃ p, p < P ∧ ((s = 0 ∧ p = f) ∨ (s = 1 ∧ p = g)) := by
    rcases (show s = 0 ∨ s = 1 by omega) with e | e
    · exact ⟨f, a4, Or.inl ⟨e, rfl⟩⟩
    · exact ⟨g, a5, Or.inr ⟨e, rfl⟩⟩
  have hw : (s = 0 ∧ Mm0 202 b = nI p) ∨ (s = 1 ∧ Mm0 203 b = nI p) := by
    rcases hpo with ⟨e, rfl⟩ | ⟨e, rfl⟩
    · exact Or.inl ⟨e, a1⟩
    · exact Or.inr ⟨e, a2⟩
  obtain ⟨w1, w2⟩ := who_at h0 h hb hs hw hp
  have hasB := hasB_nI hF hB hb
  have ho : fX9_isOpen k (nI b) Mc = if Mm 199 (69 + b) = 0 then some 1 else some 0 := by
    unfold fX9_isOpen
    rw [hasB, if_neg one_ne, rd_nI (by omega), Option.bind_some, t3]
  have hsd : fX9_hasSaid k (nI b) (nI s) Mc = if (jshr (Mm 199 (55 + b)) (nI s) &&& 1) = 1 then some 1 else some 0 := by
    unfold fX9_hasSaid
    rw [hasB, if_neg one_ne, rd_nI (by omega), Option.bind_some, t2]
  have hch : fX12_canHop (nI b) (nI s) Mm = if Mm 199 (69 + b) = 0 then (if (jshr (Mm 199 (55 + b)) (nI s) &&& 1) = 1 then some 0 else some 1) else some 0 := by
    unfold fX12_canHop fX12_has
    rw [ladd 69 b, rd_nI (by omega), Option.bind_some, ladd 55 b, rd_nI (by omega), Option.bind_some]
    by_cases c1 : Mm 199 (69 + b) = 0
    · rw [if_pos c1, if_pos c1]
      by_cases c2 : (jshr (Mm 199 (55 + b)) (nI s) &&& 1) = 1
      · rw [if_pos c2, if_pos c2, if_neg one_ne]
      · rw [if_neg c2, if_neg c2, if_pos rfl]
    · rw [if_neg c1, if_neg c1]
  by_cases c1 : Mm 199 (69 + b) = 0
  · rw [if_pos c1] at ho hch
    by_cases c2 : (jshr (Mm 199 (55 + b)) (nI s) &&& 1) = 1
    · rw [if_pos c2] at hsd hch
      refine ⟨0, Or.inl rfl, hch, fun _ => ?_, fun e => absurd e (by decide)⟩
      unfold fX0_twist
      rw [w1, Option.bind_some, ho, Option.bind_some, if_neg one_ne, hsd, Option.bind_some, if_neg one_ne]
    · rw [if_neg c2] at hsd hch
      refine ⟨1, Or.inr rfl, hch, fun e => absurd e (by decide), fun _ => ?_⟩
      unfold fX0_twist fX12_hopsOver
      rw [w1, Option.bind_some, ho, Option.bind_some, if_neg one_ne, hsd, Option.bind_some, if_pos rfl, hasP_nI hF hB hp, if_neg one_ne, w2, Option.bind_some]
      obtain ⟨Mc1, Mm1, d1, d2⟩ := tw_loop h0 hb hs hw hp a3 a8 q FU 1 Mc Mm (by omega) (FU_gt (by omega)) h
      have n1 : nI 1 = 1 := rfl
      rw [n1] at d2
      rcases d2 with ⟨d2, d3⟩ | ⟨e, d2, d3⟩
      · rw [d2, d3]
        obtain ⟨u1, u2, u3⟩ := d1.2.2.1.2.2.1 b (by omega)
        obtain ⟨z, z1, z2⟩ := d1.2.2.1.2.2.2 b (by omega)
        obtain ⟨y, y1, y2⟩ := said_or z z1 s hs
        have d4 := DR_said h0 d1 (j := b) (by omega) (nI y) ⟨y, y1, rfl⟩
        obtain ⟨Mc2, Mm2, n1, n2, n3, n4, n5⟩ := DR_note h0 d4 0 (nI b) (nI p)
        have n1 : fX0_note k 0 (nI b) (nI p) (thI th) _ = some Mc2 := n1
        have v1 : Mc2 (k + 8) b = nI y := by rw [n4 (k + 8) b (by omega), mu_s]
        have v2 : Mm2 199 (55 + b) = nI y := by rw [n5 199 (55 + b) (by omega) (fun _ => by omega), mu_s]
        have so : (1 : Int32) - nI s = nI (1 - s) := by
          rcases (show s = 0 ∨ s = 1 by omega) with rfl | rfl <;> decide
        obtain ⟨o, ho1, hoo⟩ : ∃ o, o < P ∧ ((s = 0 ∧ p = f ∧ o = g) ∨ (s = 1 ∧ p = g ∧ o = f)) := by
          rcases hpo with ⟨e, e2⟩ | ⟨e, e2⟩
          · exact ⟨g, a5, Or.inl ⟨e, e2, rfl⟩⟩
          · exact ⟨f, a4, Or.inr ⟨e, e2, rfl⟩⟩
        have wo := (who_at h0 n3 (s := 1 - s) (p := o) hb (by omega) (by
          rcases hoo with ⟨e, e2, rfl⟩ | ⟨e, e2, rfl⟩
          · exact Or.inr ⟨by omega, a2⟩
          · exact Or.inl ⟨by omega, a1⟩) ho1).1
        have hasO := hasP_nI (D0_ask h0 n3).2.1 (D0_ask h0 n3).2.2.1 ho1
        have e8 : Mc1 (k + 8) b = nI z := u2.trans z2
        by_cases c3 : nI y = (3 : Int32)
        · obtain ⟨Mc3, Mm3, l1, l2, l3⟩ := tw_holds h0 hb hs a1 a2 a6 (by omega) (by omega) a3 hoo n3
          refine ⟨1, Mc3, Mm3, Or.inr rfl, ?_, ?_, l1⟩
          · rw [rd_nI (by omega), e8, Option.bind_some, y2, wr_nI (by omega), Option.bind_some, n1, Option.bind_some, so, wo, Option.bind_some, rd_nI (by omega), v1, Option.bind_some, if_pos c3, hasO, if_neg one_ne]
            exact l2
          · rw [ladd 55 b, rd_nI (by omega), z2, Option.bind_some, y2, wr_nI (by omega), Option.bind_some, n2, Option.bind_some, rd_nI (by omega), v2, Option.bind_some, if_pos c3]
            exact l3
        · refine ⟨0, Mc2, Mm2, Or.inl rfl, ?_, ?_, n3⟩
          · rw [rd_nI (by omega), e8, Option.bind_some, y2, wr_nI (by omega), Option.bind_some, n1, Option.bind_some, so, wo, Option.bind_some, rd_nI (by omega), v1, Option.bind_some, if_neg c3]
          · rw [ladd 55 b, rd_nI (by omega), z2, Option.bind_some, y2, wr_nI (by omega), Option.bind_some, n2, Option.bind_some, rd_nI (by omega), v2, Option.bind_some, if_neg c3]
      · rw [d2, d3]
        obtain ⟨x, Mc2, Mm2, x1, x2, x3, x4, x5⟩ := ask_costs (ph := nI e) h0.1 (D0_ask h0 d1) hb hp (who_at h0 d1 hb hs hw hp).1
        have d4 := DR_scr h0 d1 x2 x3
        obtain ⟨u1, u2, u3⟩ := d1.2.2.1.2.1 p (by omega)
        have d5 := DR_owes h0 d4 (j := p) (by omega) (Mm1 199 (29 + p) + nI x)
        obtain ⟨Mc3, Mm3, n1, n2, n3, -, -⟩ := DR_note h0 d5 1 (nI b) (nI e)
        have n1 : fX0_note k 1 (nI b) (nI e) (thI th) _ = some Mc3 := n1
        refine ⟨0, Mc3, Mm3, Or.inl rfl, ?_, ?_, n3⟩
        · rw [rd_nI (by omega), u3, Option.bind_some, x4, Option.bind_some, wr_nI (by omega), Option.bind_some, n1]; rfl
        · rw [ladd 29 p, rd_nI (by omega), Option.bind_some, x5, Option.bind_some, wr_nI (by omega), Option.bind_some, n2]; rfl
  · rw [if_neg c1] at ho hch
    refine ⟨0, Or.inl rfl, hch, fun _ => ?_, fun e => absurd e (by decide)⟩
    unfold fX0_twist
    rw [w1, Option.bind_some, ho, Option.bind_some, if_pos rfl]
end TWIST
