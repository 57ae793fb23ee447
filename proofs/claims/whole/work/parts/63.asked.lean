/-! ===== what THE LAW tells ===== -/
def clsTail (p1 : Int32) (M21 : Mem) : Option (Int32 × Mem) :=
  (fX1_lineFor p1 M21).bind fun r22 =>
  jn (fun (t24 : Int32) (M25 : Mem) => jn (fun (t27 : Int32) => some (jmax 0 (jmin t27 t24), M25)) fun (J26 : (Int32) → Option (Int32 × Mem)) =>
  if p1 = 0 then
  (J26 1000)
  else
  (J26 9)) fun (J23 : (Int32) → (Mem) → Option (Int32 × Mem)) =>
  if r22.1 = (-1) then
  ((fX0_withoutLaw p1 r22.2).bind fun v29 =>
  J23 v29 r22.2)
  else
  ((fX1_valueOf r22.1 r22.2).bind fun r28 =>
  J23 r28.1 r28.2)
def mxN (w : Nat) : Nat := if w = 0 then 1000 else 9
theorem clamp_eq {n : Nat} (h0 : 1 ≤ n) (hn : n ≤ 1000) (t : Int32) : ∃ x, x ≤ n ∧ jmax 0 (jmin (nI n) t) = nI x ∧ fX12_held t 0 (nI n) = nI x := by
  unfold jmax jmin fX12_held
  have p0 : (0 : Int32) < nI n := nI_lt (a := 0) h0 (by omega)
  have z0 : ¬ (0 : Int32) < 0 := by decide
  by_cases c : 0 ≤ t
  · obtain ⟨x, hx, rfl⟩ : ∃ x : Nat, x < 2 ^ 31 ∧ t = nI x := nI_of (fun q => by
      rw [fa_le] at c; rw [fa_lt] at q; omega)
    rw [if_pos c]
    by_cases d : x < n
    · refine ⟨x, by omega, ?_, ?_⟩
      · rw [if_pos (nI_lt d (by omega))]
        by_cases e : x = 0
        · subst e; rw [if_neg (show ¬ (0 : Int32) < nI 0 from z0)]; rfl
        · rw [if_pos (show (0 : Int32) < nI x from nI_lt (a := 0) (by omega) hx)]
      · rw [if_pos (nI_le (by omega) (by omega))]
    · refine ⟨n, Nat.le_refl _, ?_, ?_⟩
      · rw [if_neg (nI_nlt (by omega) hx), if_pos p0]
      · by_cases e : x = n
        · subst e; rw [if_pos (nI_le (Nat.le_refl _) hx)]
        · rw [if_neg (nI_ge (by omega) hx)]
  · have c2 : t < 0 := fa_of_nle c
    have c3 : t < nI n := by rw [fa_lt] at *; omega
    refine ⟨0, by omega, ?_, ?_⟩
    · rw [if_pos c3, if_neg (fun q => c (by rw [fa_le]; rw [fa_lt] at q; omega))]; rfl
    · rw [if_neg c]; rfl
theorem tells_eq {Mc Mm : Mem} {m N w : Nat} {wo : Int32} (H : LwR Mc Mm m N) (hw : w ≤ 2) (hwo : ∀ f, fX0_withoutLaw (nI w) (mf Mc 24 f) = some wo) : ∃ x f' h', x ≤ mxN w ∧ clsTail (nI w) Mc = some (nI x, mf Mc 24 f') ∧ fX12_lawTells (nI w) wo (nI (mxN w)) Mm = some (nI x, mf Mm 220 h') := by
  obtain ⟨a1, a2, a3, a4, a5, a6, a7, a8⟩ := id H
  obtain ⟨r, f1, h1, r1, r2, r3⟩ := ln_loop H hw N FU 0 (Mc 24) (Mm 220) (by omega) (FU_gt (by omega))
  rw [mf_same, nI_0] at r2 r3
  have r2 : fX1_lineFor (nI w) Mc = some (lI r, mf Mc 24 f1) := r2
  have r3 : fX12_lineOf (nI w) Mm = some (lI r, mf Mm 220 h1) := r3
  have hmx : ∀ (t : Int32) (M : Mem), (jn (fun (t27 : Int32) => some (jmax 0 (jmin t27 t), M)) fun (J26 : (Int32) → Option (Int32 × Mem)) => if nI w = 0 then (J26 1000) else (J26 9)) = some (jmax 0 (jmin (nI (mxN w)) t), M) := fun t M => by
    unfold mxN
    rw [jn_eq]
    by_cases e : w = 0
    · subst e; rfl
    · rw [if_neg (nI_ne0 (by omega) (by omega)), if_neg e]; rfl
  have m1 : 1 ≤ mxN w ∧ mxN w ≤ 1000 := by unfold mxN; split <;> omega
  unfold clsTail fX12_lawTells
  rw [r2, r3, Option.bind_some, Option.bind_some]
  dsimp only [jn]
  cases r with
  | none =>
    obtain ⟨x, x1, x2, x3⟩ := clamp_eq m1.1 m1.2 wo
    rw [if_pos (show lI none = -1 from rfl), if_pos (show lI none = -1 from rfl), hwo, Option.bind_some]
    refine ⟨x, f1, h1, x1, ?_, ?_⟩
    · have := hmx wo (mf Mc 24 f1)
      dsimp only [jn] at this
      rw [this, x2]
    · rw [x3]
  | some l =>
    have hl := r1 l rfl
    have nl : ¬ lI (some l) = -1 := fun q => by
      have q : nI l = -1 := q
      have := congrArg Int32.toInt q
      rw [nI_toInt (by omega)] at this
      have e : (-1 : Int32).toInt = -1 := by decide
      rw [e] at this; omega
    obtain ⟨w', e, b, t, w1, w2, w3, w4, u1, u2, u3, u4, u5, u6, u7, u8, u9, u10⟩ := a8 l hl
    obtain ⟨v, f2, h2, v1, v2⟩ := ev_run H w2 (show b ≤ m by omega) u9 f1 h1
    have cv : fX1_valueOf (nI l) (mf Mc 24 f1) = some (v, mf Mc 24 f2) := by
      unfold fX1_valueOf
      rw [if_neg (nI_pos (by omega)), mf_o (by omega), a4, if_neg (nI_ge hl (by omega)), rd_nI (by omega), mf_o (by omega), u3, Option.bind_some, rd_nI (by omega), mf_o (by omega), u5, Option.bind_some, v1]; rfl
    obtain ⟨x, x1, x2, x3⟩ := clamp_eq m1.1 m1.2 v
    rw [if_neg nl, if_neg nl, show lI (some l) = nI l from rfl, cv, Option.bind_some, rd_nI (by omega), mf_o (by omega), u4, Option.bind_some, rd_nI (by omega), mf_o (by omega), u6, Option.bind_some, v2, Option.bind_some]
    refine ⟨x, f2, h2, x1, ?_, ?_⟩
    · have := hmx v (mf Mc 24 f2)
      dsimp only [jn] at this
      exact this.trans (by rw [x2])
    · rw [x3]
/-- what is asked of: a BARGAIN, who says it and the names -/
def AskR (k P B : Nat) (Mc Mm : Mem) : Prop := Tv Mc k (Mm 199) ∧ Fx Mc k Mm ∧ Bd P B Mm ∧ LawR Mc 17 Mm ∧ HeR Mc 35 Mm P B
theorem hasB_nI {Mc Mm : Mem} {k P B b : Nat} (hF : Fx Mc k Mm) (hB : Bd P B Mm) (hb : b < B) : fX9_hasBargain k (nI b) Mc = 1 := by
  rw [hasB_eq hF.2.1]; exact isB_nI hB.2.2.2.1 (by have := hB.2.1; omega) hb
theorem hasP_nI {Mc Mm : Mem} {k P B p : Nat} (hF : Fx Mc k Mm) (hB : Bd P B Mm) (hp : p < P) : fX9_hasPerson k (nI p) Mc = 1 := by
  rw [hasP_eq hF.1]; exact isP_nI hB.2.2.1 (by have := hB.1; omega) hp
theorem hasP_no {Mc : Mem} {k : Nat} : fX9_hasPerson k (-1) Mc = 0 := by
  unfold fX9_hasPerson
  rw [if_pos (by decide)]
theorem who_side {Mc Mm : Mem} {k P B b s : Nat} (hk : k = 2 ∨ k = 168) (hF : Fx Mc k Mm) (hB : Bd P B Mm) (hb : b < B) (hs : s ≤ 1) : ∃ p, p < P ∧ fX9_whoIs k (nI b) (nI s) Mc = some (nI p) ∧ fX12_hopperOf (nI b) (nI s) Mm = some (nI p) ∧ ((s = 0 ∧ Mm 202 b = nI p) ∨ (s = 1 ∧ Mm 203 b = nI p)) := by
  have hB14 := hB.2.1
  obtain ⟨f, s', q, a1, a2, a3, a4, a5, a6⟩ := hB.2.2.2.2 b hb
  obtain ⟨k1, k2, k3⟩ := hF.2.2 b (by omega)
  unfold fX9_whoIs fX12_hopperOf
  have hin : fX12_isIn (nI s) 0 1 = 1 := isIn_yes ⟨nI_pos' (by omega), nI_le (show s ≤ 1 from hs) (by decide)⟩
  rw [hasB_nI hF hB hb, if_neg one_ne, isW_isIn, hin, if_neg one_ne]
  rcases (show s = 0 ∨ s = 1 by omega) with rfl | rfl
  · rw [if_pos (show nI 0 = 0 from rfl), if_pos (show nI 0 = 0 from rfl), rd_nI (by omega), rd_nI (by omega), k1, a1]
    exact ⟨f, a4, rfl, rfl, Or.inl ⟨rfl, rfl⟩⟩
  · rw [if_neg (show ¬ nI 1 = 0 from by decide), if_neg (show ¬ nI 1 = 0 from by decide), rd_nI (by omega), rd_nI (by omega), k2, a2]
    exact ⟨s', a5, rfl, rfl, Or.inr ⟨rfl, rfl⟩⟩
theorem ask_cls {Mc Mm : Mem} {k P B b w : Nat} {side ph : Int32} (hk : k = 2 ∨ k = 168) (H : AskR k P B Mc Mm) (hb : b < B) (o : Option Nat) (hs : (o = none ∧ side = -1) ∨ ∃ p, o = some p ∧ p < P ∧ fX9_whoIs k (nI b) side Mc = some (nI p)) :
    ∃ M21, (∀ x i, x ≠ 23 → M21 x i = Mc x i) ∧ (∀ j, j < 10 → M21 23 j = [(match o with | none => 0 | some p => Mm 199 (5 + p)), ph, Mm 204 b, Mm 199 (41 + b), Mm 199 3, Mm 199 4, fJ6_bitCount_0f7a4 (Mm 218 b), (match o with | none => 0 | some p => Mm 199 (29 + p)), (match o with | none => 0 | some p => Mm 199 (17 + p)), Mm 199 0].getD j 0) ∧ fX0_asked (nI w) k (nI b) side ph Mc = clsTail (nI w) M21 := by
  obtain ⟨hT, hF, hB, -, n, hn, hn1, hn2, hn3, hn4⟩ := H
  have hB14 := hB.2.1
  have hP12 := hB.1
  obtain ⟨⟨t1, t2, t3, t4⟩, tp, tb, -⟩ := hT
  obtain ⟨b1, b2, b3⟩ := tb b (by omega)
  obtain ⟨x1, x2, x3⟩ := hF.2.2 b (by omega)
  have hn1 : Mc 35 0 = nI n := hn1
  have w0 : ∀ M v, wr M 23 10 0 v = some (mu M 23 0 v) := fun M v => wr_nI (j := 0) (by omega)
  have w1 : ∀ M v, wr M 23 10 1 v = some (mu M 23 1 v) := fun M v => wr_nI (j := 1) (by omega)
  have w2 : ∀ M v, wr M 23 10 2 v = some (mu M 23 2 v) := fun M v => wr_nI (j := 2) (by omega)
  have w3 : ∀ M v, wr M 23 10 3 v = some (mu M 23 3 v) := fun M v => wr_nI (j := 3) (by omega)
  have w4 : ∀ M v, wr M 23 10 4 v = some (mu M 23 4 v) := fun M v => wr_nI (j := 4) (by omega)
  have w5 : ∀ M v, wr M 23 10 5 v = some (mu M 23 5 v) := fun M v => wr_nI (j := 5) (by omega)
  have w6 : ∀ M v, wr M 23 10 6 v = some (mu M 23 6 v) := fun M v => wr_nI (j := 6) (by omega)
  have w7 : ∀ M v, wr M 23 10 7 v = some (mu M 23 7 v) := fun M v => wr_nI (j := 7) (by omega)
  have w8 : ∀ M v, wr M 23 10 8 v = some (mu M 23 8 v) := fun M v => wr_nI (j := 8) (by omega)
  have w9 : ∀ M v, wr M 23 10 9 v = some (mu M 23 9 v) := fun M v => wr_nI (j := 9) (by omega)
  have hh : ∀ M : Mem, (∀ x i, x ≠ 23 → M x i = Mc x i) → fX0_hearersOf (nI b) M = some (Mm 218 b) := fun M hM => by
    have e38 : M 38 = Mc 38 := funext fun i => hM 38 i (by omega)
    have e39 : M 39 = Mc 39 := funext fun i => hM 39 i (by omega)
    rw [hearers_eq b (by rw [hM 35 0 (by omega)]; exact hn1) hn, e38, e39]
    exact congrArg some (hn4 b (by omega)).symm
  have fin : ∀ a c d : Int32, (∀ j, j < 10 → mu (mu (mu (mu (mu (mu (mu (mu (mu (mu Mc 23 0 a) 23 7 c) 23 8 d) 23 1 ph) 23 2 (Mm 204 b)) 23 3 (Mm 199 (41 + b))) 23 4 (Mm 199 3)) 23 5 (Mm 199 4)) 23 6 (fJ6_bitCount_0f7a4 (Mm 218 b))) 23 9 (Mm 199 0) 23 j = [a, ph, Mm 204 b, Mm 199 (41 + b), Mm 199 3, Mm 199 4, fJ6_bitCount_0f7a4 (Mm 218 b), c, d, Mm 199 0].getD j 0) := fun a c d j hj => by
    rcases (show j = 0 ∨ j = 1 ∨ j = 2 ∨ j = 3 ∨ j = 4 ∨ j = 5 ∨ j = 6 ∨ j = 7 ∨ j = 8 ∨ j = 9 by omega) with rfl | rfl | rfl | rfl | rfl | rfl | rfl | rfl | rfl | rfl <;> rfl
  have rest : ∀ (a c d : Int32) (M : Mem), M = mu (mu (mu Mc 23 0 a) 23 7 c) 23 8 d → ((wr M 23 10 1 ph).bind fun M12 => (rd M12 (k + 6) 14 (nI b)).bind fun v13 => (wr M12 23 10 2 v13).bind fun M14 => (rd M14 (k + 7) 14 (nI b)).bind fun v15 => (wr M14 23 10 3 v15).bind fun M16 => (wr M16 23 10 4 (M16 k 1)).bind fun M17 => (wr M17 23 10 5 (M17 k 2)).bind fun M18 => (fX0_hearersOf (nI b) M18).bind fun v19 => (wr M18 23 10 6 (fJ6_bitCount_0f7a4 v19)).bind fun M20 => (wr M20 23 10 9 (M20 k 3)).bind fun M21 => clsTail (nI w) M21) = clsTail (nI w) (mu (mu (mu (mu (mu (mu (mu (mu (mu (mu Mc 23 0 a) 23 7 c) 23 8 d) 23 1 ph) 23 2 (Mm 204 b)) 23 3 (Mm 199 (41 + b))) 23 4 (Mm 199 3)) 23 5 (Mm 199 4)) 23 6 (fJ6_bitCount_0f7a4 (Mm 218 b))) 23 9 (Mm 199 0)) := fun a c d M hM => by
    subst hM
    rw [w1, Option.bind_some, rd_nI (by omega), Option.bind_some, w2, Option.bind_some, rd_nI (by omega), Option.bind_some, w3, Option.bind_some, w4, Option.bind_some, w5, Option.bind_some, hh _ (fun x i hx => by simp only [mu_o hx]), Option.bind_some, w6, Option.bind_some, w9, Option.bind_some]
    simp (disch := omega) only [mu_o, x3, b1, t2, t3, t4]
  unfold fX0_asked
  rw [hasB_nI hF hB hb, if_neg one_ne]
  rcases hs with ⟨rfl, rfl⟩ | ⟨p, rfl, hp, hwho⟩
  · have hwho : fX9_whoIs k (nI b) (-1) Mc = some (-1) := by
      unfold fX9_whoIs
      rw [hasB_nI hF hB hb, if_neg one_ne, isW_isIn, isIn_no (by decide), if_pos rfl]
    rw [hwho, Option.bind_some, bnd_eq, hasP_no]
    refine ⟨_, ?_, fin 0 0 0, ?_⟩
    · intro x i hx; simp only [mu_o hx]
    · rw [jn_eq, if_pos rfl]
      dsimp only
      rw [w0, Option.bind_some, jn_eq, if_pos rfl]
      dsimp only
      rw [w7, Option.bind_some, jn_eq, if_pos rfl]
      dsimp only
      rw [w8, Option.bind_some]
      exact rest 0 0 0 _ rfl
  · obtain ⟨p1, p2, p3⟩ := tp p (by omega)
    rw [hwho, Option.bind_some, bnd_eq, hasP_nI hF hB hp]
    refine ⟨_, ?_, fin (Mm 199 (5 + p)) (Mm 199 (29 + p)) (Mm 199 (17 + p)), ?_⟩
    · intro x i hx; simp only [mu_o hx]
    · rw [jn_eq, if_neg one_ne, rd_nI (by omega), Option.bind_some, p1]
      dsimp only
      rw [w0, Option.bind_some, jn_eq, if_neg one_ne, rd_nI (by omega), Option.bind_some, mu_o (by omega), p3]
      dsimp only
      rw [w7, Option.bind_some, jn_eq, if_neg one_ne, rd_nI (by omega), Option.bind_some, mu_o (by omega), mu_o (by omega), p2]
      dsimp only
      rw [w8, Option.bind_some]
      exact rest _ _ _ _ rfl
theorem ask_ref {Mm : Mem} {b P B n : Nat} {ph p : Int32} (hB : Bd P B Mm) (hb : b < B) (o : Option Nat) (hs : (o = none ∧ p = -1) ∨ ∃ q, o = some q ∧ q < P ∧ p = nI q) (hx : n < 65536) (h218 : Mm 218 b = nI n) :
    ∃ M1, (∀ x i, x ≠ 219 → M1 x i = Mm x i) ∧ (∀ j, j < 10 → M1 219 j = [(match o with | none => 0 | some p => Mm 199 (5 + p)), ph, Mm 204 b, Mm 199 (41 + b), Mm 199 3, Mm 199 4, fJ6_bitCount_0f7a4 (Mm 218 b), (match o with | none => 0 | some p => Mm 199 (29 + p)), (match o with | none => 0 | some p => Mm 199 (17 + p)), Mm 199 0].getD j 0) ∧ fX12_asks (nI b) p ph Mm = some M1 := by
  have hB14 := hB.2.1
  have hP12 := hB.1
  have w0 : ∀ M v, wr M 219 10 0 v = some (mu M 219 0 v) := fun M v => wr_nI (j := 0) (by omega)
  have w1 : ∀ M v, wr M 219 10 1 v = some (mu M 219 1 v) := fun M v => wr_nI (j := 1) (by omega)
  have w2 : ∀ M v, wr M 219 10 2 v = some (mu M 219 2 v) := fun M v => wr_nI (j := 2) (by omega)
  have w3 : ∀ M v, wr M 219 10 3 v = some (mu M 219 3 v) := fun M v => wr_nI (j := 3) (by omega)
  have w4 : ∀ M v, wr M 219 10 4 v = some (mu M 219 4 v) := fun M v => wr_nI (j := 4) (by omega)
  have w5 : ∀ M v, wr M 219 10 5 v = some (mu M 219 5 v) := fun M v => wr_nI (j := 5) (by omega)
  have w6 : ∀ M v, wr M 219 10 6 v = some (mu M 219 6 v) := fun M v => wr_nI (j := 6) (by omega)
  have w7 : ∀ M v, wr M 219 10 7 v = some (mu M 219 7 v) := fun M v => wr_nI (j := 7) (by omega)
  have w8 : ∀ M v, wr M 219 10 8 v = some (mu M 219 8 v) := fun M v => wr_nI (j := 8) (by omega)
  have w9 : ∀ M v, wr M 219 10 9 v = some (mu M 219 9 v) := fun M v => wr_nI (j := 9) (by omega)
  have r3 : ∀ M, rd M 199 83 3 = some (M 199 3) := fun M => rd_nI (j := 3) (by omega)
  have r4 : ∀ M, rd M 199 83 4 = some (M 199 4) := fun M => rd_nI (j := 4) (by omega)
  have r0 : ∀ M, rd M 199 83 0 = some (M 199 0) := fun M => rd_nI (j := 0) (by omega)
  have fin : ∀ a c d : Int32, (∀ j, j < 10 → mu (mu (mu (mu (mu (mu (mu (mu (mu (mu Mm 219 0 a) 219 1 ph) 219 2 (Mm 204 b)) 219 3 (Mm 199 (41 + b))) 219 4 (Mm 199 3)) 219 5 (Mm 199 4)) 219 6 (fJ6_bitCount_0f7a4 (Mm 218 b))) 219 7 c) 219 8 d) 219 9 (Mm 199 0) 219 j = [a, ph, Mm 204 b, Mm 199 (41 + b), Mm 199 3, Mm 199 4, fJ6_bitCount_0f7a4 (Mm 218 b), c, d, Mm 199 0].getD j 0) := fun a c d j hj => by
    rcases (show j = 0 ∨ j = 1 ∨ j = 2 ∨ j = 3 ∨ j = 4 ∨ j = 5 ∨ j = 6 ∨ j = 7 ∨ j = 8 ∨ j = 9 by omega) with rfl | rfl | rfl | rfl | rfl | rfl | rfl | rfl | rfl | rfl <;> rfl
  have ho : fX12_onesOf (Mm 218 b) = some (fJ6_bitCount_0f7a4 (Mm 218 b)) := by rw [h218]; exact ones_bc hx
  have mid : ∀ (a : Int32) (K : Mem → Option Mem), ((wr (mu Mm 219 0 a) 219 10 1 ph).bind fun M4 => (rd M4 204 14 (nI b)).bind fun v5 => (wr M4 219 10 2 v5).bind fun M6 => (rd M6 199 83 (41 + nI b)).bind fun v7 => (wr M6 219 10 3 v7).bind fun M8 => (rd M8 199 83 3).bind fun v9 => (wr M8 219 10 4 v9).bind fun M10 => (rd M10 199 83 4).bind fun v11 => (wr M10 219 10 5 v11).bind fun M12 => (rd M12 218 28 (nI b)).bind fun v13 => (fX12_onesOf v13).bind fun v14 => (wr M12 219 10 6 v14).bind fun M15 => K M15) = K (mu (mu (mu (mu (mu (mu (mu Mm 219 0 a) 219 1 ph) 219 2 (Mm 204 b)) 219 3 (Mm 199 (41 + b))) 219 4 (Mm 199 3)) 219 5 (Mm 199 4)) 219 6 (fJ6_bitCount_0f7a4 (Mm 218 b))) := fun a K => by
    rw [w1, Option.bind_some, rd_nI (by omega), Option.bind_some, w2, Option.bind_some, ladd 41 b, rd_nI (by omega), Option.bind_some, w3, Option.bind_some, r3, Option.bind_some, w4, Option.bind_some, r4, Option.bind_some, w5, Option.bind_some, rd_nI (by omega), Option.bind_some]
    simp (disch := omega) only [mu_o]
    rw [ho, Option.bind_some, w6, Option.bind_some]
  unfold fX12_asks
  rcases hs with ⟨rfl, rfl⟩ | ⟨q, rfl, hq, rfl⟩
  · refine ⟨_, ?_, fin 0 0 0, ?_⟩
    · intro x i hx; simp only [mu_o hx]
    · rw [jn_eq, if_pos rfl]
      dsimp only
      rw [w0, Option.bind_some, mid, jn_eq, if_pos rfl]
      dsimp only
      rw [w7, Option.bind_some, jn_eq, if_pos rfl]
      dsimp only
      rw [w8, Option.bind_some, r0, Option.bind_some, w9, Option.bind_some]
      simp (disch := omega) only [mu_o]
  · have nq : ¬ nI q = (-1 : Int32) := fun e => by
      have := congrArg Int32.toInt e
      rw [nI_toInt (by omega)] at this
      have e : (-1 : Int32).toInt = -1 := by decide
      rw [e] at this; omega
    refine ⟨_, ?_, fin (Mm 199 (5 + q)) (Mm 199 (29 + q)) (Mm 199 (17 + q)), ?_⟩
    · intro x i hx; simp only [mu_o hx]
    · rw [jn_eq, if_neg nq, ladd 5 q, rd_nI (by omega), Option.bind_some]
      dsimp only
      rw [w0, Option.bind_some, mid, jn_eq, if_neg nq, ladd 29 q, rd_nI (by omega), Option.bind_some]
      dsimp only
      rw [w7, Option.bind_some, jn_eq, if_neg nq, ladd 17 q, rd_nI (by omega), Option.bind_some]
      dsimp only
      rw [w8, Option.bind_some, r0, Option.bind_some, w9, Option.bind_some]
      simp (disch := omega) only [mu_o]
