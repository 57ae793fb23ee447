/-! ===== text: units ===== -/
section UNIT
variable {L : Nat} {b : Nat → Nat} {τ p e z : Nat} {Mc Mm : Mem}
theorem name_eq (h : HandC τ p e Mc) : fX2_nameAtHand Mc = some (if 17 ≤ τ ∧ τ ≤ 26 then nI (τ - 17) else -1) := by
  obtain ⟨-, -, a, -⟩ := h
  have a3 : fX8_isWord 3 Mc = some (if τ = 17 then 1 else 0) := a 3 (by omega)
  have a4 : fX8_isWord 4 Mc = some (if τ = 18 then 1 else 0) := a 4 (by omega)
  have a5 : fX8_isWord 5 Mc = some (if τ = 19 then 1 else 0) := a 5 (by omega)
  have a6 : fX8_isWord 6 Mc = some (if τ = 20 then 1 else 0) := a 6 (by omega)
  have a7 : fX8_isWord 7 Mc = some (if τ = 21 then 1 else 0) := a 7 (by omega)
  have a8 : fX8_isWord 8 Mc = some (if τ = 22 then 1 else 0) := a 8 (by omega)
  have a9 : fX8_isWord 9 Mc = some (if τ = 23 then 1 else 0) := a 9 (by omega)
  have a10 : fX8_isWord 10 Mc = some (if τ = 24 then 1 else 0) := a 10 (by omega)
  have a11 : fX8_isWord 11 Mc = some (if τ = 25 then 1 else 0) := a 11 (by omega)
  have a12 : fX8_isWord 12 Mc = some (if τ = 26 then 1 else 0) := a 12 (by omega)
  unfold fX2_nameAtHand
  rw [a3, a4, a5, a6, a7, a8, a9, a10, a11, a12]
  by_cases c : 17 ≤ τ ∧ τ ≤ 26
  · rcases (show τ = 17 ∨ τ = 18 ∨ τ = 19 ∨ τ = 20 ∨ τ = 21 ∨ τ = 22 ∨ τ = 23 ∨ τ = 24 ∨ τ = 25 ∨ τ = 26 by omega) with rfl | rfl | rfl | rfl | rfl | rfl | rfl | rfl | rfl | rfl <;> rfl
  · rw [if_neg c, if_neg (show ¬ τ = 17 by omega), if_neg (show ¬ τ = 18 by omega), if_neg (show ¬ τ = 19 by omega), if_neg (show ¬ τ = 20 by omega), if_neg (show ¬ τ = 21 by omega), if_neg (show ¬ τ = 22 by omega), if_neg (show ¬ τ = 23 by omega), if_neg (show ¬ τ = 24 by omega), if_neg (show ¬ τ = 25 by omega), if_neg (show ¬ τ = 26 by omega)]
    rfl
def refU (div : Bool) (M : Mem) : Option (Int32 × Mem) := if div then (if (M 198 16) = 3 then (if (M 198 17) = 0 then ((fX12_errs 2 M).bind fun r11 => some (r11.1, r11.2)) else fX12_readUnit M) else ((fX12_errs 1 M).bind fun r12 => some (r12.1, r12.2))) else fX12_readUnit M
theorem runit_no (h : HandM τ p e Mm) (hn : ¬ (17 ≤ τ ∧ τ ≤ 26)) (hn2 : τ < 1000) : fX12_readUnit Mm = (fX12_errs 1 Mm).bind fun r10 => some (r10.1, r10.2) := by
  unfold fX12_readUnit fX12_canAsk
  dsimp only [jn]
  rcases h.2.2 with ⟨a, b⟩ | ⟨a, b⟩ | ⟨w', w1, a, b, d⟩ | ⟨c', w1, a, b, d⟩ | ⟨v, w1, a, b, d⟩
  · rw [b, if_neg (by decide), if_pos rfl, if_neg (by decide)]
  · rw [b, if_neg (by decide), if_pos rfl, if_neg (by decide)]
  · have no : fX12_isIn (nI w') 7 16 = 0 := isIn_no (fun q => by
      have q1 := (nI_leI (show 7 < 2 ^ 31 by omega) (show w' < 2 ^ 31 by omega)).mp q.1
      have q2 := (nI_leI (show w' < 2 ^ 31 by omega) (show 16 < 2 ^ 31 by omega)).mp q.2
      omega)
    rw [b, if_pos rfl, d, no, if_pos rfl, if_pos rfl, if_neg (by decide)]
  · rw [b, if_neg (by decide), if_pos rfl, if_neg (by decide)]
  · omega
theorem runit_num (h : HandM τ p e Mm) {v : Nat} (hv : τ = 1000 + v) : fX12_readUnit Mm = (fX12_emits 0 (nI v) Mm).bind fun M8 => (fX12_reads M8).bind fun M9 => some (0, M9) := by
  unfold fX12_readUnit
  dsimp only [jn]
  rcases h.2.2 with ⟨a, b⟩ | ⟨a, b⟩ | ⟨w', w1, a, b, d⟩ | ⟨c', w1, a, b, d⟩ | ⟨v', w1, a, b, d⟩
  · omega
  · omega
  · omega
  · have := mk_all c' w1; omega
  · have : v' = v := by omega
    subst this
    rw [b, if_neg (by decide), if_pos rfl, if_pos rfl, if_pos rfl, if_pos rfl, d]
theorem runit_name (h : HandM τ p e Mm) {w : Nat} (hw : τ = 17 + w) (hw2 : w ≤ 9) : fX12_readUnit Mm = (fX12_emits 1 (nI w) Mm).bind fun M8 => (fX12_reads M8).bind fun M9 => some (0, M9) := by
  unfold fX12_readUnit fX12_canAsk
  dsimp only [jn]
  rcases h.2.2 with ⟨a, b⟩ | ⟨a, b⟩ | ⟨w', w1, a, b, d⟩ | ⟨c', w1, a, b, d⟩ | ⟨v', w1, a, b, d⟩
  · omega
  · omega
  · have e7 : w' = 7 + w := by omega
    have yes : fX12_isIn (nI w') 7 16 = 1 := isIn_yes ⟨nI_le (show 7 ≤ w' by omega) (by omega), nI_le (show w' ≤ 16 by omega) (by decide)⟩
    have sb : nI w' - 7 = nI w := by
      have : (7 : Int32) = nI 7 := rfl
      rw [this, pk_sub (by omega), show w' - 7 = w by omega]
    rw [b, if_pos rfl, d, yes, if_neg one_ne, if_neg one_ne, if_neg one_ne, if_neg one_ne, sb]
  · have := mk_lt c' (mk_all c' w1) w1; omega
  · omega
theorem unit_eq (h : PS L b τ p e z Mc Mm) (hzp : z ≤ p) (div : Bool) :
    (∃ Mc' Mm', fX2_readUnit (if div then 1 else 0) Mc = some (0, Mc') ∧ refU div Mm = some (-1, Mm') ∧ FR Mc' Mm' ∧ Df z Mm Mm') ∨ (∃ τ' p' e' Mc' Mm', fX2_readUnit (if div then 1 else 0) Mc = some (1, Mc') ∧ refU div Mm = some (0, Mm') ∧ p < p' ∧ PS L b τ' p' e' (z + 1) Mc' Mm' ∧ Df z Mm Mm' ∧ ((dop Mm' z = 0 ∧ (div = true → dar Mm' z ≠ 0)) ∨ (dop Mm' z = 1 ∧ div = false))) := by
  obtain ⟨h1, h2, h3, h4, h5, h6, h7, h8, h9, h10⟩ := id h
  have hL := h1.1
  by_cases cn : 1000 ≤ τ
  · obtain ⟨v, v1, v2⟩ : ∃ v, v ≤ 9999 ∧ τ = 1000 + v := by
      rcases hm_tok h7 with q | q | ⟨w, w1, q⟩ | ⟨c, c1, q⟩ | q
      · omega
      · omega
      · omega
      · have := mk_all c c1; omega
      · exact q
    have hz : z < 400 := by have := h4 (by omega); omega
    have k4 : Mc 178 4 = 2 ∧ Mc 178 7 = nI v := by
      rcases h6.2.2.2.2 with q | ⟨q1, q2, q3, q4⟩ | q
      · omega
      · rw [v2, Nat.add_sub_cancel_left] at q4; exact ⟨q3, q4⟩
      · omega
    have m4 : Mm 198 16 = 3 ∧ Mm 198 17 = nI v := by
      rcases h7.2.2 with ⟨a, b⟩ | ⟨a, b⟩ | ⟨w', w1, a, b, d⟩ | ⟨c', w1, a, b, d⟩ | ⟨v', w1, a, b, d⟩
      · omega
      · omega
      · omega
      · have := mk_all c' w1; omega
      · have : v' = v := by omega
        subst this; exact ⟨b, d⟩
    by_cases cd : div = true ∧ v = 0
    · obtain ⟨rfl, rfl⟩ := cd
      left
      obtain ⟨Mc', Mm', f1, f2, f3, f4⟩ := ps_fault h 2
      refine ⟨Mc', Mm', ?_, ?_, f3, f4⟩
      · unfold fX2_readUnit
        dsimp only [jn]
        rw [if_pos rfl, if_pos k4.1, if_neg one_ne, if_pos (show Mc 178 7 = 0 from k4.2), f1, Option.bind_some]
        exact if_pos (Or.inl rfl)
      · unfold refU
        rw [if_pos rfl, if_pos m4.1, if_pos (show Mm 198 17 = 0 from m4.2), f2]; rfl
    · right
      obtain ⟨Mc1, Mm1, g1, g2, g3, g4, g5, g6⟩ := ps_put h hz (c := nI v) (o := 0) (a := nI v) (Or.inl ⟨v, by omega, rfl, rfl, rfl⟩)
      obtain ⟨τ', p', e', Mc2, Mm2, n1, n2, n3, n4, n5, n6⟩ := ps_next g3
      have df : Df (z + 1) Mm1 Mm2 := fun j hj => ⟨n6 213 j (by simp) (by simp), n6 214 j (by simp) (by simp)⟩
      have dz := df (800 + z) (by omega)
      refine ⟨τ', p', e', Mc2, Mm2, ?_, ?_, by have := h4 (by omega); omega, n4, g4.trans df (by omega), Or.inl ⟨?_, fun q => ?_⟩⟩
      · unfold fX2_readUnit
        dsimp only [jn]
        rw [if_pos k4.1, k4.2, g1, Option.bind_some, n2, Option.bind_some]
        cases div with
        | false => rw [if_neg (show ¬ false = true by decide), if_pos rfl]
        | true => rw [if_pos rfl, if_neg one_ne, if_neg (show ¬ nI v = 0 from fun q => cd ⟨rfl, (nI_eqb (by omega) (by omega)).mp (show nI v = nI 0 from q)⟩)]
      · unfold refU
        rw [runit_num h7 v2, g2, Option.bind_some, n3, Option.bind_some]
        cases div with
        | false => rw [if_neg (show ¬ false = true by decide)]
        | true => rw [if_pos rfl, if_pos m4.1, if_neg (by rw [m4.2]; exact fun q => cd ⟨rfl, (nI_eqb (by omega) (by omega)).mp (show nI v = nI 0 from q)⟩)]
      · exact dz.1.trans g5
      · show Mm2 214 (800 + z) ≠ 0
        rw [dz.2, g6]
        exact fun q' => cd ⟨q, (nI_eqb (by omega) (by omega)).mp (show nI v = nI 0 from q')⟩
  · have k4 : ¬ Mc 178 4 = 2 := by
      rcases h6.2.2.2.2 with ⟨q1, q2⟩ | ⟨q1, q2, q3, q4⟩ | ⟨q1, q2, q3, q4, q5⟩
      · rw [q2]; decide
      · omega
      · exact q4
    have m4 : ¬ Mm 198 16 = 3 := by
      rcases h7.2.2 with ⟨a, b⟩ | ⟨a, b⟩ | ⟨w', w1, a, b, d⟩ | ⟨c', w1, a, b, d⟩ | ⟨v', w1, a, b, d⟩
      · rw [b]; decide
      · rw [b]; decide
      · rw [b]; decide
      · rw [b]; decide
      · omega
    by_cases cw : div = false ∧ 17 ≤ τ ∧ τ ≤ 26
    · obtain ⟨rfl, w1, w2⟩ := cw
      right
      have hz : z < 400 := by have := h4 (by omega); omega
      have ne1 : ¬ nI (τ - 17) = (-1 : Int32) := fun q => by
        have := congrArg Int32.toInt q
        rw [nI_toInt (by omega)] at this
        have e : (-1 : Int32).toInt = -1 := by decide
        rw [e] at this; omega
      obtain ⟨Mc1, Mm1, g1, g2, g3, g4, g5, g6⟩ := ps_put h hz (c := nI (10000 + (τ - 17))) (o := 1) (a := nI (τ - 17)) (Or.inr (Or.inl ⟨τ - 17, by omega, rfl, rfl, rfl⟩))
      obtain ⟨τ', p', e', Mc2, Mm2, n1, n2, n3, n4, n5, n6⟩ := ps_next g3
      have df : Df (z + 1) Mm1 Mm2 := fun j hj => ⟨n6 213 j (by simp) (by simp), n6 214 j (by simp) (by simp)⟩
      have dz := df (800 + z) (by omega)
      refine ⟨τ', p', e', Mc2, Mm2, ?_, ?_, by have := h4 (by omega); omega, n4, g4.trans df (by omega), Or.inr ⟨dz.1.trans g5, rfl⟩⟩
      · unfold fX2_readUnit
        dsimp only [jn]
        rw [if_neg k4, if_neg (show ¬ false = true by decide), if_pos rfl, name_eq h6, if_pos ⟨w1, w2⟩, Option.bind_some, if_neg ne1, ladd 10000 (τ - 17), g1, Option.bind_some, n2, Option.bind_some]
      · unfold refU
        rw [if_neg (show ¬ false = true by decide), runit_name h7 (show τ = 17 + (τ - 17) by omega) (by omega), g2, Option.bind_some, n3, Option.bind_some]
    · left
      obtain ⟨Mc', Mm', f1, f2, f3, f4⟩ := ps_fault h 1
      refine ⟨Mc', Mm', ?_, ?_, f3, f4⟩
      · unfold fX2_readUnit
        dsimp only [jn]
        rw [if_neg k4, if_pos rfl, f1, Option.bind_some]
        cases div with
        | false =>
          rw [if_neg (show ¬ false = true by decide), if_pos rfl, name_eq h6, if_neg (fun q => cw ⟨rfl, q⟩), Option.bind_some, if_pos rfl]
          exact if_pos (Or.inl rfl)
        | true =>
          rw [if_pos rfl, if_neg one_ne]
          exact if_pos (Or.inl rfl)
      · unfold refU
        cases div with
        | false => rw [if_neg (show ¬ false = true by decide), runit_no h7 (fun q => cw ⟨rfl, q⟩) (by omega), f2]; rfl
        | true => rw [if_pos rfl, if_neg m4, f2]; rfl
end UNIT
