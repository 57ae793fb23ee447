/-! ===== text: the lines of a law ===== -/
/-- what the reading of a law changes on the reference's side -/
def TL (M0 M : Mem) : Prop := ∀ a i, ¬ (a = 198 ∧ (i = 14 ∨ i = 15 ∨ i = 16 ∨ i = 17 ∨ i = 27 ∨ i = 28 ∨ i = 30 ∨ i = 31 ∨ i = 32)) → ¬ ((a = 209 ∨ a = 210 ∨ a = 211 ∨ a = 212) ∧ 32 ≤ i) → ¬ ((a = 213 ∨ a = 214) ∧ 800 ≤ i) → a ≠ 215 → M a i = M0 a i
theorem TL.step {z k : Nat} {M0 M M' : Mem} (h : TL M0 M) (h2 : RF z k M M') : TL M0 M' := fun a i q1 q2 q3 q4 => (h2 a i q1 (fun w => q2 ⟨w.1, by omega⟩) (fun w => q3 ⟨w.1, by omega⟩) q4).trans (h a i q1 q2 q3 q4)
def LnR (k z : Nat) (Mc Mm : Mem) : Prop := ∀ l, l < k → ∃ w e b t, w ≤ 2 ∧ e ≤ b ∧ b ≤ t ∧ t ≤ z ∧ Lq l w e b t Mc Mm ∧ tck (dop Mm) (dar Mm) e (b - e) [] = some [false] ∧ (b < t → tck (dop Mm) (dar Mm) b (t - b) [] = some [true])
section LAWLNS
variable {L : Nat} {b : Nat → Nat}
theorem hm_line {τ p e : Nat} {Mm : Mem} (h : HandM τ p e Mm) : fX12_isLineWord Mm = if 10 ≤ τ ∧ τ ≤ 12 then 1 else 0 := by
  unfold fX12_isLineWord
  rcases h.2.2 with ⟨a, b⟩ | ⟨a, b⟩ | ⟨w', w1, a, b, d⟩ | ⟨c', w1, a, b, d⟩ | ⟨v', w1, a, b, d⟩
  · rw [b, if_neg (show ¬ (0 : Int32) = 2 by decide), if_neg (show ¬ (10 ≤ τ ∧ τ ≤ 12) by omega)]
  · rw [b, if_neg (show ¬ (1 : Int32) = 2 by decide), if_neg (show ¬ (10 ≤ τ ∧ τ ≤ 12) by omega)]
  · rw [b, if_pos rfl, d]
    have t : ∀ w, w < 22 → fX12_isIn (nI w) 0 2 = if w ≤ 2 then 1 else 0 := by decide +kernel
    rw [t w' w1]
    by_cases q : w' ≤ 2
    · rw [if_pos q, if_neg one_ne, if_pos (show 10 ≤ τ ∧ τ ≤ 12 by omega)]
    · rw [if_neg q, if_pos rfl, if_neg (show ¬ (10 ≤ τ ∧ τ ≤ 12) by omega)]
  · have := (mk_lt c' (mk_all c' w1) w1).2.1
    rw [b, if_neg (show ¬ (4 : Int32) = 2 by decide), if_neg (show ¬ (10 ≤ τ ∧ τ ≤ 12) by omega)]
  · rw [b, if_neg (show ¬ (3 : Int32) = 2 by decide), if_neg (show ¬ (10 ≤ τ ∧ τ ≤ 12) by omega)]
theorem hc_line {τ p e : Nat} {Mc : Mem} (h : HandC τ p e Mc) : fX2_wordAtHand Mc = some (if τ = 10 then 0 else if τ = 11 then 1 else if τ = 12 then 2 else -1) := by
  have v0 : fX8_isWord 0 Mc = some (if τ = 10 then 1 else 0) := h.2.2.1 0 (by omega)
  have v1 : fX8_isWord 1 Mc = some (if τ = 11 then 1 else 0) := h.2.2.1 1 (by omega)
  have v2 : fX8_isWord 2 Mc = some (if τ = 12 then 1 else 0) := h.2.2.1 2 (by omega)
  unfold fX2_wordAtHand
  rw [v0, Option.bind_some, v1, Option.bind_some, v2, Option.bind_some]
  by_cases c0 : τ = 10
  · rw [if_pos c0, if_pos c0, if_neg one_ne]
  · rw [if_neg c0, if_neg c0, if_pos rfl]
    by_cases c1 : τ = 11
    · rw [if_pos c1, if_pos c1, if_neg one_ne]
    · rw [if_neg c1, if_neg c1, if_pos rfl]
      by_cases c2 : τ = 12
      · rw [if_pos c2, if_pos c2, if_neg one_ne]
      · rw [if_neg c2, if_neg c2, if_pos rfl]
theorem hc_end {τ p e : Nat} {Mc : Mem} (h : HandC τ p e Mc) : (Mc 178 4 = 0) ↔ τ = 0 := by
  rcases h.2.2.2.2 with ⟨a, b⟩ | ⟨a, b, c, d⟩ | ⟨a, b, c, d⟩
  · exact ⟨fun _ => a, fun _ => b⟩
  · exact ⟨fun w => absurd (c.symm.trans w) (by decide), fun w => by omega⟩
  · exact ⟨fun w => absurd w c, fun w => by omega⟩
theorem hm_end {τ p e : Nat} {Mm : Mem} (h : HandM τ p e Mm) : (Mm 198 16 = 0) ↔ τ = 0 := by
  rcases h.2.2 with ⟨a, b⟩ | ⟨a, b⟩ | ⟨w', w1, a, b, d⟩ | ⟨c', w1, a, b, d⟩ | ⟨v', w1, a, b, d⟩
  · exact ⟨fun _ => a, fun _ => b⟩
  all_goals exact ⟨fun w => absurd (b.symm.trans w) (by decide), fun w => by omega⟩
theorem LnR_step {k z z' b0 w : Nat} {Mc Mm Mc' Mm' : Mem} (h : LnR k z Mc Mm) (hr : RF z k Mm Mm') (hc : ∀ j i, 182 ≤ j → j ≤ 185 → i < k → Mc' j i = Mc j i) (hw : w ≤ 2) (h1 : z ≤ b0) (h2 : b0 ≤ z') (hq : Lq k w z b0 z' Mc' Mm') (t1 : tck (dop Mm') (dar Mm') z (b0 - z) [] = some [false]) (t2 : b0 < z' → tck (dop Mm') (dar Mm') b0 (z' - b0) [] = some [true]) : LnR (k + 1) z' Mc' Mm' := fun l hl => by
  by_cases q : l = k
  · subst q; exact ⟨w, z, b0, z', hw, h1, h2, Nat.le_refl _, hq, t1, t2⟩
  · obtain ⟨w1, e1, b1, t1, a1, a2, a3, a4, ⟨b1, b2, b3, b4, b5, b6, b7, b8⟩, a6, a7⟩ := h l (by omega)
    have m : ∀ a, a = 209 ∨ a = 210 ∨ a = 211 ∨ a = 212 → Mm' a (32 + l) = Mm a (32 + l) := fun a qa => hr a (32 + l) (by omega) (by omega) (by omega) (by omega)
    refine ⟨_, _, _, _, a1, a2, a3, by omega, ⟨(hc 182 l (by omega) (by omega) (by omega)).trans b1, (m 209 (by omega)).trans b2, (hc 183 l (by omega) (by omega) (by omega)).trans b3, (m 210 (by omega)).trans b4, (hc 184 l (by omega) (by omega) (by omega)).trans b5, (m 211 (by omega)).trans b6, (hc 185 l (by omega) (by omega) (by omega)).trans b7, (m 212 (by omega)).trans b8⟩, ?_, fun x => ?_⟩
    · rw [tck_df hr.df (by omega)]; exact a6
    · rw [tck_df hr.df (by omega)]; exact a7 x
def KM (e16 : Int32) (M17 : Mem) : Option (Int32 × Mem) := if (M17 198 16) = 0 then (some (e16, M17)) else ((fX12_errs 1 M17).bind fun r18 => some (r18.1, r18.2))
theorem law_L {M0 : Mem} : ∀ (F1 F2 k τ p e z : Nat) (Mc Mm : Mem), 16 - k < F1 → 16 - k < F2 → k ≤ 16 → PS L b τ p e z Mc Mm → z ≤ p → Mc 181 0 = nI k → Mm 198 28 = nI 0 → LnR k z Mc Mm → TL M0 Mm →
    (∃ Mc' Mm', fX2_read_L9 (fun M15 => some (1, M15)) F1 (nI k) Mc = some (0, Mc') ∧ fX12_readLaw_L2 KM F2 (nI k) Mm = some (-1, Mm') ∧ FR Mc' Mm' ∧ TL M0 Mm') ∨
    (∃ τ' p' e' n z' Mc' Mm', fX2_read_L9 (fun M15 => some (1, M15)) F1 (nI k) Mc = some (1, Mc') ∧ fX12_readLaw_L2 KM F2 (nI k) Mm = some (nI n, Mm') ∧ n ≤ 16 ∧ PS L b τ' p' e' z' Mc' Mm' ∧ z' ≤ p' ∧ Mc' 181 0 = nI n ∧ LnR n z' Mc' Mm' ∧ TL M0 Mm')
  | 0, _, _, _, _, _, _, _, _ => by intros; omega
  | _, 0, _, _, _, _, _, _, _ => by intros; omega
  | F1 + 1, F2 + 1, k, τ, p, e, z, Mc, Mm => by
    intro hF1 hF2 hk h hz hc h28 hl hT
    have hC := h.2.2.2.2.2.1
    have hM := h.2.2.2.2.2.2.1
    have flt : ∀ q : Int32, ∃ Mc' Mm', ((fX8_refuse q Mc).bind fun r8 => if r8.1 = 0 ∨ r8.1 = 1 then some (r8.1, r8.2) else none) = some (0, Mc') ∧ ((fX12_errs q Mm).bind fun r27 => some (r27.1, r27.2)) = some (-1, Mm') ∧ FR Mc' Mm' ∧ TL M0 Mm' := fun q => by
      obtain ⟨Mc', Mm', f1, f2, f3, f4⟩ := ps_fault h q
      have hm := Agr.of (wX12_errs q Mm) f2
      exact ⟨Mc', Mm', by rw [f1, Option.bind_some]; exact if_pos (Or.inl rfl), by rw [f2]; rfl, f3, hT.step (RF_of (k := 0) (hm.mono (by decide)) f4)⟩
    rw [law_sC, law_sM, hm_line hM, hc_line hC, if_neg (show ¬ (16 : Int32) < nI k from nI_nlt (show k ≤ 16 from hk) (by decide))]
    by_cases t0 : τ = 0
    · right
      rw [if_pos ((hc_end hC).mpr t0), if_neg (show ¬ (10 ≤ τ ∧ τ ≤ 12) by omega), if_pos rfl, KM, if_pos ((hm_end hM).mpr t0)]
      exact ⟨τ, p, e, k, z, Mc, Mm, rfl, rfl, hk, h, hz, hc, hl, hT⟩
    · rw [if_neg (fun w => t0 ((hc_end hC).mp w)), Option.bind_some]
      by_cases tw : 10 ≤ τ ∧ τ ≤ 12
      · rw [if_pos tw, if_neg one_ne]
        obtain ⟨w, hw, hτ, ev⟩ : ∃ w, w ≤ 2 ∧ τ = 10 + w ∧ (if τ = 10 then (0 : Int32) else if τ = 11 then 1 else if τ = 12 then 2 else -1) = nI w := by
          refine ⟨τ - 10, by omega, by omega, ?_⟩
          rcases (show τ = 10 ∨ τ = 11 ∨ τ = 12 by omega) with x | x | x <;> subst x <;> rfl
        rw [ev, if_neg (show ¬ nI w = -1 from fun x => by
          rcases (show w = 0 ∨ w = 1 ∨ w = 2 by omega) with y | y | y <;> subst y <;> exact absurd x (by decide))]
        by_cases c16 : k = 16
        · left
          have c : nI k = 16 := by rw [c16]; rfl
          rw [if_pos c, if_pos c]
          exact flt 3
        · have c : ¬ nI k = 16 := fun x => c16 ((nI_eqb (by omega) (by omega)).mp x)
          have e32 : (32 : Int32) + nI k = nI (32 + k) := nI_add 32 k
          rw [if_neg c, if_neg c, e32, nI_1]
          rcases ln_eq h hτ hw hz (by omega) hc h28 with ⟨Mc', Mm', g1, g2, g3, g4⟩ | ⟨τ', p', e', z', b0, Mc', Mm', g1, g2, g3, g4, g5, g6, g7, g8, g9, g10, g11, g12, g13⟩
          · left
            exact ⟨Mc', Mm', g1 _, g2 _, g3, hT.step g4⟩
          · rw [g1, g2]
            exact law_L F1 F2 (k + 1) τ' p' e' z' Mc' Mm' (by omega) (by omega) (by omega) g6 g5 g8 g7 (LnR_step hl g9 g10 hw g3 g4 g11 g12 g13) (hT.step g9)
      · left
        rw [if_neg tw, if_pos rfl, if_neg (show ¬ τ = 10 by omega), if_neg (show ¬ τ = 11 by omega), if_neg (show ¬ τ = 12 by omega), if_pos rfl, KM, if_neg (fun w => t0 ((hm_end hM).mp w))]
        exact flt 1
end LAWLNS
