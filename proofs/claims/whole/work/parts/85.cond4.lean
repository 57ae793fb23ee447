/-! ===== text: conditions, and / or ===== -/
section COND4
variable {L : Nat} {b : Nat → Nat}
theorem settle_put {op k τ p e z oo : Nat} {Q : List Nat} {Mc Mm : Mem} (hop : op = 10 ∨ op = 11) (hk : k ≤ 1) (h : PS L b τ p e z Mc Mm) (hQ : PN (List.replicate k op ++ Q) Mm) (hd : ∀ q r, Q = q :: r → q ≠ op ∧ q < 100) (hl : Q.length < 30) (hz : z + k ≤ 400) (ho : Mm 198 28 = nI oo) :
    ∃ Mc' Mm', fX12_settles (nI op) Mm = some Mm' ∧ (∀ J : Mem → Option (Int32 × Mem), (if nI k = 0 then J Mc else (fX1_put (nI (20000 + opc op)) Mc).bind J) = J Mc') ∧ PS L b τ p e (z + k) Mc' Mm' ∧ PN Q Mm' ∧ Mm' 198 28 = nI oo ∧ Df z Mm Mm' ∧ ∀ s : List Bool, tck (dop Mm') (dar Mm') z k (true :: (List.replicate k true ++ s)) = some (true :: s) := by
  obtain ⟨Mm', g1, g2, g3, g4, g5⟩ := ps_settle (op := op) (Or.inr hop) h hQ hd (by omega) hz ho (fun w => by omega)
  rw [if_neg (show ¬ op = 9 by omega)] at g4
  rcases (show k = 0 ∨ k = 1 by omega) with w | w
  · subst w
    exact ⟨Mc, Mm', g1, fun J => if_pos rfl, PJ_0 g2, g3, g4, g5, fun s => rfl⟩
  · subst w
    obtain ⟨Mc', a1, a2⟩ := pj_put g2 (by omega) (by omega) (by omega)
    refine ⟨Mc', Mm', g1, fun J => by rw [if_neg (show ¬ nI 1 = 0 by decide), a1, Option.bind_some], PJ_0 a2, g3, g4, g5, fun s => ?_⟩
    have ez : dop Mm' z = nI op := g2.2.2.2.2.2.2.2.2.2.2 0 (by omega)
    refine tck_one (fun w => ?_) ?_
    · rw [ez] at w
      rcases hop with x | x <;> · subst x; exact absurd w (by decide)
    · rw [ez]
      rcases hop with x | x <;> · subst x; rfl
theorem hd10 {r : Nat} {Q : List Nat} (hr : r ≤ 1) (hQ : ∀ q t, Q = q :: t → q = 12) : ∀ q t, List.replicate r 11 ++ Q = q :: t → (q = 11 ∨ q = 12) := by
  intro q t w
  rcases (show r = 0 ∨ r = 1 by omega) with x | x
  · subst x; exact Or.inr (hQ q t w)
  · subst x
    have : q = 11 := by
      have w : 11 :: Q = q :: t := w
      cases w; rfl
    exact Or.inl this
theorem hd9 {a r : Nat} {Q : List Nat} (ha : a ≤ 1) (hr : r ≤ 1) (hQ : ∀ q t, Q = q :: t → q = 12) : ∀ q t, List.replicate a 10 ++ (List.replicate r 11 ++ Q) = q :: t → q ≠ 9 ∧ q < 100 := by
  intro q t w
  rcases (show a = 0 ∨ a = 1 by omega) with x | x
  · subst x; have := hd10 hr hQ q t w; omega
  · subst x
    have : q = 10 := by
      have w : 10 :: (List.replicate r 11 ++ Q) = q :: t := w
      cases w; rfl
    omega
def eJ8 (rE rT : Int32 → Mem → Option (Int32 × Mem)) (z2 : Int32) (n : Nat) (x4 y5 : Int32) (M9 : Mem) : Option (Int32 × Mem) := (fX8_passWord 16 M9).bind fun r10 => if r10.1 = 0 then (some (1, r10.2)) else fX2_readEither_L8 rE rT z2 n x4 r10.1 (y5 + 1) r10.2
def eJ2 (rE rT : Int32 → Mem → Option (Int32 × Mem)) (z2 : Int32) (n : Nat) (y4 y5 : Int32) (M3 : Mem) : Option (Int32 × Mem) := (fX8_passWord 15 M3).bind fun r4 => if r4.1 = 0 then (if y4 = 0 then eJ8 rE rT z2 n r4.1 y5 r4.2 else (fX1_put 20111 r4.2).bind (eJ8 rE rT z2 n r4.1 y5)) else fX2_readEither_L8 rE rT z2 n r4.1 y4 (y5 + 1) r4.2
theorem eit_s (rE rT : Int32 → Mem → Option (Int32 × Mem)) (z2 : Int32) (n : Nat) (y3 y4 y5 : Int32) (M : Mem) : fX2_readEither_L8 rE rT z2 (n + 1) y3 y4 y5 M = if 400 ≤ y5 then (some (0, M)) else ((rT z2 M).bind fun r1 => if r1.1 = 0 then (some (0, r1.2)) else if y3 = 0 then eJ2 rE rT z2 n y4 y5 r1.2 else (fX1_put 20097 r1.2).bind (eJ2 rE rT z2 n y4 y5)) := by
  rw [fX2_readEither_L8]
  rfl
theorem eit_L {n : Nat} (hT : TstP L b n) (rE : Int32 → Mem → Option (Int32 × Mem)) : ∀ (F1 F a r i brk d o τ p e z : Nat) (Q : List Nat) (Mc Mm : Mem), a ≤ 1 → r ≤ 1 → o ≤ 8 → 2 * (8 - o) + 1 ≤ n → PS L b τ p e z Mc Mm → 1 ≤ p → z + a + r + d ≤ p → L - p < F → L - p < F1 → i + (L - p) < 400 → PN (List.replicate a 10 ++ (List.replicate r 11 ++ Q)) Mm → (∀ q r, Q = q :: r → q = 12) → Q.length + 2 + 3 * (8 - o) ≤ 30 → Mm 198 28 = nI o → brk ≤ o →
   (∃ Mc' Mm', fX2_readEither_L8 rE (fX2_readTest n) (nI o) F1 (nI a) (nI r) (nI i) Mc = some (0, Mc') ∧ fX12_readAny_L9 F (nI brk) 1 Mm = some (-1, Mm') ∧ FR Mc' Mm' ∧ Df z Mm Mm') ∨
   (∃ τ' p' e' z' F' Mc' Mm', fX2_readEither_L8 rE (fX2_readTest n) (nI o) F1 (nI a) (nI r) (nI i) Mc = some (1, Mc') ∧ fX12_readAny_L9 F (nI brk) 1 Mm = refT F' (nI brk) Mm' ∧ p < p' ∧ L - p' ≤ F' ∧ z < z' ∧ z' + d ≤ p' ∧ PS L b τ' p' e' z' Mc' Mm' ∧ PN Q Mm' ∧ Mm' 198 28 = nI o ∧ Df z Mm Mm' ∧ ∀ s : List Bool, s.length + 2 + 2 * (8 - o) ≤ 26 → tck (dop Mm') (dar Mm') z (z' - z) (List.replicate a true ++ (List.replicate r true ++ s)) = some (true :: s))
  | 0, _, _, _, _, _, _, _, _, _, _, _, _, _, _ => by intros; omega
  | F1 + 1, F, a, r, i, brk, d, o, τ, p, e, z, Q, Mc, Mm => by
    intro ha hr ho hn h hp1 hz hF hF1 hi hQ hd hl h28 hbr
    have hL := h.1.1
    rw [eit_s, if_neg (show ¬ (400 : Int32) ≤ nI i from nI_ge (show i < 400 by omega) (by decide))]
    have lenQ : (List.replicate a 10 ++ (List.replicate r 11 ++ Q)).length = a + (r + Q.length) := by simp
    have lenQ1 : (List.replicate r 11 ++ Q).length = r + Q.length := by simp
    rcases hT o 0 F brk (a + r + d) τ p e z (List.replicate a 10 ++ (List.replicate r 11 ++ Q)) Mc Mm ho hn h hp1 (by omega) hF hQ (hd9 ha hr hd) (by rw [lenQ]; omega) h28 (by omega) hbr with ⟨Mc', Mm', f1, f2, f3, f4⟩ | ⟨τ1, p1, e1, z1, F', Mc1, Mm1, f1, f2, f3, f4, f5, f6, f7, f8, f9, f10, f11⟩
    · left
      exact ⟨Mc', Mm', by rw [f1, Option.bind_some, if_pos rfl], f2, f3, f4⟩
    · have f7 : PS L b τ1 p1 e1 z1 Mc1 Mm1 := PJ_0 f7
      have hp1L : p1 ≤ L := Nat.le_trans f7.2.1 f7.2.2.1
      obtain ⟨F', rfl⟩ : ∃ F0, F' = F0 + 1 := ⟨F' - 1, by omega⟩
      have f9 : Mm1 198 28 = nI o := f9
      rw [f1, Option.bind_some, if_neg one_ne, f2, any_not f7.2.2.2.2.2.2.1]
      dsimp only
      obtain ⟨Mc2, Mm2, g1, g2, g3, g4, g5, g6, g7⟩ := settle_put (op := 10) (Or.inl rfl) ha f7 f8 (fun q t w => by have := hd10 hr hd q t w; omega) (by rw [lenQ1]; omega) (by omega) f9
      have g1 : fX12_settles 10 Mm1 = some Mm2 := g1
      have g2 : ∀ J : Mem → Option (Int32 × Mem), (if nI a = 0 then J Mc1 else (fX1_put 20097 Mc1).bind J) = J Mc2 := g2
      rw [g2, g1, eJ2]
      have ty2 : ∀ s : List Bool, s.length + 2 + 2 * (8 - o) ≤ 26 → tck (dop Mm2) (dar Mm2) z (z1 + a - z) (List.replicate a true ++ (List.replicate r true ++ s)) = some (true :: (List.replicate r true ++ s)) := fun s hs => by
        have s1 := f11 (List.replicate a true ++ (List.replicate r true ++ s)) (by simp; omega)
        rw [← tck_df g6 (show z + (z1 - z) ≤ z1 by omega)] at s1
        rw [show z1 + a - z = (z1 - z) + a by omega, tck_app _ _ z _ _ s1, show z + (z1 - z) = z1 by omega]
        exact g7 _
      rcases pass_word (i := 15) g3 (by omega) with ⟨k1, k2⟩ | ⟨k1, Mc3, k2, k3⟩
      · -- no 'and'
        have k1 : τ1 ≠ 15 := k1
        have k2 : fX8_passWord 15 Mc2 = some (0, Mc2) := k2
        rw [if_neg k1, k2, Option.bind_some, Option.bind_some, if_pos rfl]
        dsimp only
        obtain ⟨Mc3, Mm3, j1, j2, j3, j4, j5, j6, j7⟩ := settle_put (op := 11) (Or.inr rfl) hr g3 g4 (fun q t w => by have := hd q t w; omega) (by omega) (by omega) g5
        have j1 : fX12_settles 11 Mm2 = some Mm3 := j1
        have j2 : ∀ J : Mem → Option (Int32 × Mem), (if nI r = 0 then J Mc2 else (fX1_put 20111 Mc2).bind J) = J Mc3 := j2
        have ty3 : ∀ s : List Bool, s.length + 2 + 2 * (8 - o) ≤ 26 → tck (dop Mm3) (dar Mm3) z (z1 + a + r - z) (List.replicate a true ++ (List.replicate r true ++ s)) = some (true :: s) := fun s hs => by
          have s1 := ty2 s hs
          rw [← tck_df j6 (show z + (z1 + a - z) ≤ z1 + a by omega)] at s1
          rw [show z1 + a + r - z = (z1 + a - z) + r by omega, tck_app _ _ z _ _ s1, show z + (z1 + a - z) = z1 + a by omega]
          exact j7 _
        have d3 : Df z Mm Mm3 := f10.trans (g6.trans j6 (by omega)) (by omega)
        rw [j2, j1, Option.bind_some, eJ8]
        rcases pass_word (i := 16) j3 (by omega) with ⟨m1, m2⟩ | ⟨m1, Mc4, m2, m3⟩
        · -- no 'or'
          have m1 : τ1 ≠ 14 := m1
          have m2 : fX8_passWord 16 Mc3 = some (0, Mc3) := m2
          right
          rw [if_neg m1, m2, Option.bind_some, if_pos rfl]
          exact ⟨τ1, p1, e1, z1 + a + r, F', Mc3, Mm3, rfl, (by first | (rw [Option.bind_some, j1, Option.bind_some]) | (rw [j1, Option.bind_some])), by omega, by omega, by omega, by omega, j3, j4, j5, d3, ty3⟩
        · have m1 : τ1 = 14 := m1
          have m2 : fX8_passWord 16 Mc3 = some (1, Mc4) := m2
          rw [if_pos m1, m2, Option.bind_some, if_neg one_ne]
          obtain ⟨Mm4, w1, w2, w3⟩ := waits_eq j4 (by omega) 11
          have w1 : fX12_waits 11 Mm3 = some Mm4 := w1
          have pB : PS L b τ1 p1 e1 (z1 + a + r) Mc3 Mm4 := PS_m j3 (fun a i q1 q2 => w3 a i q1 (fun w => q2 ⟨w.1, Or.inr w.2⟩))
          obtain ⟨τ5, p5, e5, Mc5, Mm5, n1, n2, n3, n4, n5, n6⟩ := ps_next pB
          have e5 : Mc5 = Mc4 := Option.some.inj (n2.symm.trans m3)
          subst e5
          have hpe : p1 < e1 := f7.2.2.2.1 (by omega)
          have hp5L : p5 ≤ L := Nat.le_trans n4.2.1 n4.2.2.1
          have d5 : Df (z1 + a + r) Mm3 Mm5 := fun i hi => by
            rw [n6 213 i (by simp) (by simp), n6 214 i (by simp) (by simp), w3 213 i (by omega) (by omega), w3 214 i (by omega) (by omega)]; exact ⟨rfl, rfl⟩
          rw [w1, Option.bind_some, n3, Option.bind_some, nI_1]
          rcases eit_L hT rE F1 F' 0 1 (i + 1) brk d o τ5 p5 _ (z1 + a + r) Q Mc5 Mm5 (by omega) (by omega) ho hn n4 (by omega) (by omega) (by omega) (by omega) (by omega) (Agr_pn n6 w2) hd hl (by rw [n6 198 28 (by decide) (by decide), w3 198 28 (by omega) (by omega)]; exact j5) hbr with ⟨Mc', Mm', x1, x2, x3, x4⟩ | ⟨τ', p', e', z', F'', Mc', Mm', x1, x2, x3, x4, x5, x6, x7, x8, x9, x10, x11⟩
          · left
            exact ⟨Mc', Mm', x1, x2, x3, d3.trans (d5.trans x4 (Nat.le_refl _)) (by omega)⟩
          · right
            refine ⟨τ', p', e', z', F'', Mc', Mm', x1, x2, by omega, x4, by omega, x6, x7, x8, x9, d3.trans (d5.trans x10 (Nat.le_refl _)) (by omega), fun s hs => ?_⟩
            have s1 := ty3 s hs
            rw [← tck_df (d5.trans x10 (Nat.le_refl _)) (show z + (z1 + a + r - z) ≤ z1 + a + r by omega)] at s1
            rw [show z' - z = (z1 + a + r - z) + (z' - (z1 + a + r)) by omega, tck_app _ _ z _ _ s1, show z + (z1 + a + r - z) = z1 + a + r by omega]
            exact x11 s hs
      · have k1 : τ1 = 15 := k1
        have k2 : fX8_passWord 15 Mc2 = some (1, Mc3) := k2
        rw [if_pos k1, k2, Option.bind_some, Option.bind_some, if_neg one_ne]
        obtain ⟨Mm4, w1, w2, w3⟩ := waits_eq g4 (by rw [lenQ1]; omega) 10
        have w1 : fX12_waits 10 Mm2 = some Mm4 := w1
        have pB : PS L b τ1 p1 e1 (z1 + a) Mc2 Mm4 := PS_m g3 (fun a i q1 q2 => w3 a i q1 (fun w => q2 ⟨w.1, Or.inr w.2⟩))
        obtain ⟨τ5, p5, e5, Mc5, Mm5, n1, n2, n3, n4, n5, n6⟩ := ps_next pB
        have e5 : Mc5 = Mc3 := Option.some.inj (n2.symm.trans k3)
        subst e5
        have hpe : p1 < e1 := f7.2.2.2.1 (by omega)
        have hp5L : p5 ≤ L := Nat.le_trans n4.2.1 n4.2.2.1
        have d5 : Df (z1 + a) Mm2 Mm5 := fun i hi => by
          rw [n6 213 i (by simp) (by simp), n6 214 i (by simp) (by simp), w3 213 i (by omega) (by omega), w3 214 i (by omega) (by omega)]; exact ⟨rfl, rfl⟩
        have d2 : Df z Mm Mm2 := f10.trans g6 (by omega)
        rw [w1, Option.bind_some, n3, Option.bind_some, nI_1]
        rcases eit_L hT rE F1 F' 1 r (i + 1) brk d o τ5 p5 _ (z1 + a) Q Mc5 Mm5 (by omega) hr ho hn n4 (by omega) (by omega) (by omega) (by omega) (by omega) (Agr_pn n6 w2) hd hl (by rw [n6 198 28 (by decide) (by decide), w3 198 28 (by omega) (by omega)]; exact g5) hbr with ⟨Mc', Mm', x1, x2, x3, x4⟩ | ⟨τ', p', e', z', F'', Mc', Mm', x1, x2, x3, x4, x5, x6, x7, x8, x9, x10, x11⟩
        · left
          exact ⟨Mc', Mm', x1, x2, x3, d2.trans (d5.trans x4 (Nat.le_refl _)) (by omega)⟩
        · right
          refine ⟨τ', p', e', z', F'', Mc', Mm', x1, x2, by omega, x4, by omega, x6, x7, x8, x9, d2.trans (d5.trans x10 (Nat.le_refl _)) (by omega), fun s hs => ?_⟩
          have s1 := ty2 s hs
          rw [← tck_df (d5.trans x10 (Nat.le_refl _)) (show z + (z1 + a - z) ≤ z1 + a by omega)] at s1
          rw [show z' - z = (z1 + a - z) + (z' - (z1 + a)) by omega, tck_app _ _ z _ _ s1, show z + (z1 + a - z) = z1 + a by omega]
          exact x11 s hs
theorem eit_step {n : Nat} (hT : TstP L b n) : EitP L b (n + 1) := by
  intro F brk d o τ p e z Q Mc Mm ho hn h hp1 hz hF hQ hd hl h28 hbr
  have hL := h.1.1
  exact eit_L hT (fX2_readEither n) FU F 0 0 0 brk d o τ p e z Q Mc Mm (by omega) (by omega) ho (by omega) h hp1 (by omega) hF (FU_gt (by omega)) (by omega) hQ hd hl h28 hbr
theorem cond_all : ∀ n, TstP L b n ∧ EitP L b n
  | 0 => ⟨by intro o; intros; omega, by intro F; intros; omega⟩
  | n + 1 => ⟨tst_step (cond_all n).1 (cond_all n).2, eit_step (cond_all n).1⟩
end COND4
