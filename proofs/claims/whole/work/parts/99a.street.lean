/-! ===== text 2: a line, whole ===== -/
def I2 (M0 : Mem) (P B k : Nat) (Mc Mm : Mem) : Prop := G0 M0 P B k Mc Mm ∧ ∀ i, i < k → Mc 191 i = Mm 217 (64 + 4 * i) ∧ ∃ x, Mc 192 i = nI x ∧ Mm 217 (64 + 4 * i + 1) = nI x ∧
    ((x ≤ 1 ∧ Mc 194 i = Mm 217 (64 + 4 * i + 2)) ∨ (x = 2 ∧ ∃ b, b < B ∧ Mc 193 i = nI b ∧ Mm 217 (64 + 4 * i + 2) = nI b) ∨ (x = 3 ∧ ∃ p, p < P ∧ Mc 193 i = nI p ∧ Mm 217 (64 + 4 * i + 2) = nI p ∧ Mc 194 i = Mm 217 (64 + 4 * i + 3)))
def ln2 (k : Nat) (P B : Nat) (Mc Mm : Mem) : Prop := Mc 191 k = Mm 217 (64 + 4 * k) ∧ ∃ x, Mc 192 k = nI x ∧ Mm 217 (64 + 4 * k + 1) = nI x ∧
    ((x ≤ 1 ∧ Mc 194 k = Mm 217 (64 + 4 * k + 2)) ∨ (x = 2 ∧ ∃ b, b < B ∧ Mc 193 k = nI b ∧ Mm 217 (64 + 4 * k + 2) = nI b) ∨ (x = 3 ∧ ∃ p, p < P ∧ Mc 193 k = nI p ∧ Mm 217 (64 + 4 * k + 2) = nI p ∧ Mc 194 k = Mm 217 (64 + 4 * k + 3)))
def evJ4 (M5 : Mem) : Option (Int32 × Mem) := if (M5 189 2) = 2 then (some (1, M5)) else ((fX8_takeNumber 10 M5).bind fun r6 => if r6.1 = 0 then (some (0, r6.2)) else (some (1, mu r6.2 189 4 (r6.2 178 8))))
def strJ (p1 t13 : Int32) (M14 : Mem) : Option (Int32 × Mem) := (wr M14 217 128 (p1 + 3) t13).bind fun M15 => (rd M15 217 128 (p1 + 3)).bind fun v16 => if v16 = (-1) then (some ((-1), M15)) else ((fX12_readMark 59 M15).bind fun r17 => some (r17.1, r17.2))
def strT (p1 x4 : Int32) (r9 : Int32 × Mem) : Option (Int32 × Mem) := (wr r9.2 217 128 (p1 + 2) r9.1).bind fun M10 => (rd M10 217 128 (p1 + 2)).bind fun v11 => if v11 = (-1) then (some ((-1), M10)) else (if x4 = 3 then ((fX12_readNumber 0 9 M10).bind fun r18 => strJ p1 r18.1 r18.2) else (strJ p1 0 M10))
theorem ev_s {M M3 : Mem} {v1 : Int32} (h1 : fX4_kindAtHand M = some v1) (h2 : ¬ v1 = -1) (h3 : fX8_advance (mu M 189 2 v1) = some M3) (h4 : M3 189 2 = v1) : fX4_readEvening M = if v1 = 2 then ((fX8_takeNumber (M3 2 5) M3).bind fun r11 => if r11.1 = 0 then (some (0, r11.2)) else evJ4 (mu r11.2 189 3 (r11.2 178 8))) else if v1 = 3 then ((fX8_takeNumber (M3 2 4) M3).bind fun r11 => if r11.1 = 0 then (some (0, r11.2)) else evJ4 (mu r11.2 189 3 (r11.2 178 8))) else evJ4 M3 := by
  unfold fX4_readEvening
  rw [h1, Option.bind_some, bnd_eq, mu_s, if_neg h2, h3, Option.bind_some, jn_eq, jn_eq, jn_eq, h4]
  by_cases c : v1 = 2
  · rw [if_pos c, if_pos c, if_pos c]; rfl
  · rw [if_neg c, if_neg c, if_neg c]; rfl
theorem st_s {p1 : Int32} {Mm Mm1 MmA Mm3 MmB : Mem} {v x4 : Int32} (h1 : fX12_readTold 17 0 999 Mm = some (v, Mm1)) (h2 : wr Mm1 217 128 p1 v = some MmA) (h3 : rd MmA 217 128 p1 = some v) (h4 : ¬ v = -1) (h5 : fX12_kindOfStreet MmA = x4) (h6 : ¬ x4 = -1) (h7 : fX12_reads MmA = some Mm3) (h8 : wr Mm3 217 128 (p1 + 1) x4 = some MmB) : fX12_readStreetLine p1 Mm = (fX12_readNumber 0 (if x4 = 2 then (MmB 198 7) - 1 else if x4 = 3 then (MmB 198 6) - 1 else 9) MmB).bind (strT p1 x4) := by
  unfold fX12_readStreetLine
  rw [h1, Option.bind_some]
  dsimp only
  rw [h2, Option.bind_some, h3, Option.bind_some, if_neg h4, bnd_eq, h5, if_neg h6, h7, Option.bind_some, h8, Option.bind_some, jn_eq]
  by_cases c : x4 = 2
  · rw [if_pos c, if_pos c]; rfl
  · rw [if_neg c, if_neg c]
    by_cases c' : x4 = 3
    · rw [if_pos c', if_pos c']; rfl
    · rw [if_neg c', if_neg c']; rfl
section STREET
variable {L : Nat} {b : Nat → Nat} {M0 : Mem} {P B : Nat}
/-- the end of a line of text 2: the last number stands, the sign is due -/
theorem st_fin {k τ p e : Nat} {Mc Mm Mc8 Mm8 : Mem} (hk : k < 16) (h : PT L b τ p e Mc8 Mm8) (hI : I2 M0 P B k Mc Mm) (cG : Agr cX Mc Mc8) (mG : FX 217 (64 + 4 * k) Mm Mm8)
    (hl : Mc8 189 1 = Mm8 217 (64 + 4 * k) ∧ ∃ x, Mc8 189 2 = nI x ∧ Mm8 217 (64 + 4 * k + 1) = nI x ∧ ((x ≤ 1 ∧ Mc8 189 4 = Mm8 217 (64 + 4 * k + 2)) ∨ (x = 2 ∧ ∃ b, b < B ∧ Mc8 189 3 = nI b ∧ Mm8 217 (64 + 4 * k + 2) = nI b) ∨ (x = 3 ∧ ∃ p, p < P ∧ Mc8 189 3 = nI p ∧ Mm8 217 (64 + 4 * k + 2) = nI p ∧ Mc8 189 4 = Mm8 217 (64 + 4 * k + 3)))) :
    (∃ Mc' Mm', (∀ J, endC J Mc8 = some (0, Mc')) ∧ ((fX12_readMark 59 Mm8).bind fun r17 => some (r17.1, r17.2)) = some (-1, Mm') ∧ FR Mc' Mm' ∧ TX M0 Mm') ∨
    (∃ τ' p' e' r Mc' Mm', (∀ J, endC J Mc8 = J Mc') ∧ ¬ r = -1 ∧ ((fX12_readMark 59 Mm8).bind fun r17 => some (r17.1, r17.2)) = some (r, Mm') ∧ PT L b τ' p' e' Mc' Mm' ∧ I2 M0 P B (k + 1) Mc' Mm') := by
  rcases ln_fin h (G0_m (G0_c hI.1 cG) mG (by omega)) hk with ⟨Mc', Mm', n1, n2, n3, n4⟩ | ⟨τ', p', e', Mc', Mm', n1, n2, n3, n4, n5, n6, n7, n8, n9, n10⟩
  · left
    exact ⟨Mc', Mm', n1, by rw [n2]; rfl, n3, n4⟩
  · right
    refine ⟨τ', p', e', 0, Mc', Mm', n1, by decide, by rw [n2]; rfl, n3, n4, fun i hi => ?_⟩
    have m : ∀ j, Mm' 217 j = Mm8 217 j := fun j => n10 218 0 217 j (by omega) (by omega)
    by_cases w : i = k
    · subst w
      rw [m, m, m, m, n5, n6, n7, n8]
      exact hl
    · have o : ∀ j, j < 64 + 4 * k → Mm' 217 j = Mm 217 j := fun j hj => (m j).trans (mG 217 j (by omega) (by omega))
      have c : ∀ j, 191 ≤ j → j ≤ 194 → Mc' j i = Mc j i := fun j q1 q2 => (n9 j i q1 q2 (by omega)).trans (cG j i (by simp) (by simp; omega))
      rw [o _ (by omega), o _ (by omega), o _ (by omega), o _ (by omega), c 191 (by omega) (by omega), c 192 (by omega) (by omega), c 193 (by omega) (by omega), c 194 (by omega) (by omega)]
      exact hI.2 i (by omega)
theorem str_eq (k τ p e : Nat) (Mc Mm : Mem) (hk : k < 16) (h : PT L b τ p e Mc Mm) (hτ : τ = 27) (hI : I2 M0 P B k Mc Mm) :
    (∃ Mc' Mm', (∀ J, lnX 2 J Mc = some (0, Mc')) ∧ fX12_readStreetLine (64 + 4 * nI k) Mm = some (-1, Mm') ∧ FR Mc' Mm' ∧ TX M0 Mm') ∨
    (∃ τ' p' e' r Mc' Mm', (∀ J, lnX 2 J Mc = J Mc') ∧ ¬ r = -1 ∧ fX12_readStreetLine (64 + 4 * nI k) Mm = some (r, Mm') ∧ PT L b τ' p' e' Mc' Mm' ∧ I2 M0 P B (k + 1) Mc' Mm') := by
  have hG := hI.1
  have hP : P ≤ 12 := hG.2.2.2.2.2.2.1.1
  have hB : B ≤ 14 := hG.2.2.2.2.2.2.1.2.1
  have cP : Mc 2 4 = nI P := hG.2.2.2.2.2.1.1.trans hG.2.2.2.2.2.2.1.2.2.1
  have mP : Mm 198 6 = nI P := hG.2.2.2.2.2.2.1.2.2.1
  have cB : Mc 2 5 = nI B := hG.2.2.2.2.2.1.2.1.trans hG.2.2.2.2.2.2.1.2.2.2.1
  have mB : Mm 198 7 = nI B := hG.2.2.2.2.2.2.1.2.2.2.1
  have t0 := hG.1
  have i0 : (64 + 4 * nI k : Int32) = nI (64 + 4 * k) := (show ∀ k, k < 16 → (64 + 4 * nI k : Int32) = nI (64 + 4 * k) by decide) k hk
  have i1 : nI (64 + 4 * k) + 1 = nI (64 + 4 * k + 1) := nI_1 _
  have i2 : nI (64 + 4 * k) + 2 = nI (64 + 4 * k + 2) := nI_add _ 2
  have i3 : nI (64 + 4 * k) + 3 = nI (64 + 4 * k + 3) := nI_add _ 3
  rw [i0]
  have tq : ∀ M', FX 217 (64 + 4 * k) Mm M' → TX M0 M' := fun M' hf => t0.trans (TX_FX hf (by omega))
  rcases on_num (z2 := 2) (by decide) h hτ with ⟨Mc', Mm', f1, f2, f3, f4⟩ | ⟨v, τ2, p2, e2, Mc2, Mm2, f0, f1, f2, f3, f4, f5, f6⟩
  · left
    refine ⟨Mc', mu Mm' 217 (64 + 4 * k) (-1), f1, ?_, FR_mu f3 (by omega), tq _ ((f4 217 _).trans (FX_mu (Nat.le_refl _)) (Nat.le_refl _))⟩
    unfold fX12_readStreetLine
    rw [f2, Option.bind_some]
    dsimp only
    rw [wr_nI (by omega), Option.bind_some, rd_nI (by omega), Option.bind_some, mu_s, if_pos rfl]
  · obtain ⟨MmA, hMmA⟩ : ∃ MmA, MmA = mu Mm2 217 (64 + 4 * k) (nI v) := ⟨_, rfl⟩
    have pA : PT L b τ2 p2 e2 Mc2 MmA := by rw [hMmA]; exact PT_mmu f3 (by omega)
    have mA : FX 217 (64 + 4 * k) Mm MmA := by rw [hMmA]; exact (f6 217 _).trans (FX_mu (Nat.le_refl _)) (Nat.le_refl _)
    have eC : ∀ J, lnX 2 J Mc = ((fX4_readEvening Mc2).bind fun r7 => if r7.1 = 0 ∨ r7.1 = 1 then some (r7.1, r7.2) else none).bind fun r6 => if r6.1 = 0 then (some (0, r6.2)) else endC J r6.2 := fun J => by
      rw [f1, if_neg (show ¬ (2 : Int32) = 1 by decide)]
    rcases kd4_cases τ2 with kx | ⟨x, hx, kx⟩
    · -- no kind
      left
      have pB : PT L b τ2 p2 e2 (mu Mc2 189 2 (-1)) MmA := PT_cmu pA (by omega)
      obtain ⟨Mc', Mm', g1, g2, g3, g4⟩ := pt_flt pB 1
      refine ⟨Mc', Mm', fun J => ?_, ?_, g3, tq _ (mA.trans (g4 217 _) (Nat.le_refl _))⟩
      · rw [eC]
        unfold fX4_readEvening
        rw [kind_c pA, Option.bind_some, kx, bnd_eq, mu_s, if_pos rfl, g1, Option.bind_some, if_pos (Or.inl rfl), Option.bind_some, if_pos rfl]
      · unfold fX12_readStreetLine
        rw [f2, Option.bind_some]
        dsimp only
        rw [wr_nI (by omega), Option.bind_some, rd_nI (by omega), Option.bind_some, mu_s, if_neg (nI_nm1 (by omega)), ← hMmA, bnd_eq, kind_m pA, kx, if_pos rfl]
        exact g2
    · have pB : PT L b τ2 p2 e2 (mu Mc2 189 2 (nI x)) MmA := PT_cmu pA (by omega)
      obtain ⟨τ3, p3, e3, Mc3, Mm3, g1, g2, g3, g4, g5, g6⟩ := pt_next pB
      obtain ⟨MmB, hMmB⟩ : ∃ MmB, MmB = mu Mm3 217 (64 + 4 * k + 1) (nI x) := ⟨_, rfl⟩
      have pC : PT L b τ3 p3 e3 Mc3 MmB := by rw [hMmB]; exact PT_mmu g3 (by omega)
      have cC : Agr cX Mc Mc3 := Agr.trans (Agr.mu f4 (Or.inl (by decide))) (g4.mono (by decide))
      have mC : FX 217 (64 + 4 * k) Mm MmB := by rw [hMmB]; exact (mA.trans (g5 217 _) (Nat.le_refl _)).trans (FX_mu (by omega)) (Nat.le_refl _)
      have v2 : Mc3 189 2 = nI x := (g4 189 2 (by decide) (by decide)).trans mu_s
      have v1 : Mc3 189 1 = nI v := by rw [g4 189 1 (by decide) (by decide), mu_i (by omega)]; exact f5
      have u0 : MmB 217 (64 + 4 * k) = nI v := by rw [hMmB, mu_i (by omega), g5 218 0 217 _ (by omega) (by omega), hMmA, mu_s]
      have u1 : MmB 217 (64 + 4 * k + 1) = nI x := by rw [hMmB, mu_s]
      have hxn : ¬ nI x = -1 := nI_nm1 (by omega)
      have eV := ev_s (kx ▸ kind_c pA) hxn g1 v2
      have eS : fX12_readStreetLine (nI (64 + 4 * k)) Mm = (fX12_readNumber 0 (if nI x = 2 then (MmB 198 7) - 1 else if nI x = 3 then (MmB 198 6) - 1 else 9) MmB).bind (strT (nI (64 + 4 * k)) (nI x)) :=
        st_s f2 (by rw [wr_nI (by omega), hMmA]) (by rw [rd_nI (by omega), hMmA, mu_s]) (nI_nm1 (by omega)) ((kind_m pA).trans kx) hxn g2 (by rw [i1, wr_nI (by omega), hMmB])
      have c25 : Mc3 2 5 = nI B := (cC 2 5 (by decide) (by decide)).trans cB
      have c24 : Mc3 2 4 = nI P := (cC 2 4 (by decide) (by decide)).trans cP
      have m7 : MmB 198 7 = nI B := (mC 198 7 (by omega) (by omega)).trans mB
      have m6 : MmB 198 6 = nI P := (mC 198 6 (by omega) (by omega)).trans mP
      rw [c25, c24] at eV
      rw [m7, m6] at eS
      have tf : ∀ M' : Mem, strT (nI (64 + 4 * k)) (nI x) (-1, M') = some (-1, mu M' 217 (64 + 4 * k + 2) (-1)) := fun M' => by
        unfold strT
        dsimp only
        rw [i2, wr_nI (by omega), Option.bind_some, rd_nI (by omega), Option.bind_some, mu_s, if_pos rfl]
      have to : ∀ (u : Nat) (M' : Mem), u < 1000 → strT (nI (64 + 4 * k)) (nI x) (nI u, M') = if nI x = 3 then ((fX12_readNumber 0 9 (mu M' 217 (64 + 4 * k + 2) (nI u))).bind fun r18 => strJ (nI (64 + 4 * k)) r18.1 r18.2) else (strJ (nI (64 + 4 * k)) 0 (mu M' 217 (64 + 4 * k + 2) (nI u))) := fun u M' hu => by
        unfold strT
        dsimp only
        rw [i2, wr_nI (by omega), Option.bind_some, rd_nI (by omega), Option.bind_some, mu_s, if_neg (nI_nm1 (by omega))]
      have jf : ∀ M' : Mem, strJ (nI (64 + 4 * k)) (-1) M' = some (-1, mu M' 217 (64 + 4 * k + 3) (-1)) := fun M' => by
        unfold strJ
        rw [i3, wr_nI (by omega), Option.bind_some, rd_nI (by omega), Option.bind_some, mu_s, if_pos rfl]
      have jo : ∀ (u : Nat) (M' : Mem), u < 1000 → strJ (nI (64 + 4 * k)) (nI u) M' = (fX12_readMark 59 (mu M' 217 (64 + 4 * k + 3) (nI u))).bind fun r17 => some (r17.1, r17.2) := fun u M' hu => by
        unfold strJ
        rw [i3, wr_nI (by omega), Option.bind_some, rd_nI (by omega), Option.bind_some, mu_s, if_neg (nI_nm1 (by omega))]
      have z0 : nI 0 = (0 : Int32) := rfl
      have x2 : (nI x = 2) ↔ x = 2 := nI_eqb (b := 2) (by omega) (by omega)
      have x3 : (nI x = 3) ↔ x = 3 := nI_eqb (b := 3) (by omega) (by omega)
      rcases (show x ≤ 1 ∨ x = 2 ∨ x = 3 by omega) with hx1 | hx2 | hx3
      · -- a number
        have n2 : ¬ nI x = 2 := fun w => by have := x2.mp w; omega
        have n3 : ¬ nI x = 3 := fun w => by have := x3.mp w; omega
        rw [if_neg n2, if_neg n3, evJ4, v2, if_neg n2] at eV
        rw [if_neg n2, if_neg n3] at eS
        rcases pt_num (bd := 10) pC (by omega) with ⟨Mc', Mm', j1, j2, j3, j4⟩ | ⟨u, τ4, p4, e4, Mc4, Mm4, j0, j1, j2, j3, j4, j5, j6⟩
        · left
          have j1 : fX8_takeNumber 10 Mc3 = some (0, Mc') := j1
          have j2 : fX12_readNumber 0 9 MmB = some (-1, Mm') := j2
          refine ⟨Mc', mu Mm' 217 (64 + 4 * k + 2) (-1), fun J => ?_, ?_, FR_mu j3 (by omega), tq _ ((mC.trans (j4 217 _) (Nat.le_refl _)).trans (FX_mu (by omega)) (Nat.le_refl _))⟩
          · rw [eC, eV, j1, Option.bind_some, if_pos rfl, Option.bind_some, if_pos (Or.inl rfl), Option.bind_some, if_pos rfl]
          · rw [eS, j2, Option.bind_some, tf]
        · have j1 : fX8_takeNumber 10 Mc3 = some (1, Mc4) := j1
          have j3 : fX12_readNumber 0 9 MmB = some (nI u, Mm4) := j3
          have eC8 : ∀ J, lnX 2 J Mc = endC J (mu Mc4 189 4 (nI u)) := fun J => by
            rw [eC, eV, j1, Option.bind_some, if_neg one_ne]
            dsimp only
            rw [j2, Option.bind_some, if_pos (Or.inr rfl), Option.bind_some, if_neg one_ne]
          rw [j3, Option.bind_some, to u Mm4 (by omega), if_neg n3, ← z0, jo 0 _ (by omega)] at eS
          have p8 : PT L b τ4 p4 e4 (mu Mc4 189 4 (nI u)) (mu (mu Mm4 217 (64 + 4 * k + 2) (nI u)) 217 (64 + 4 * k + 3) (nI 0)) := PT_cmu (PT_mmu (PT_mmu j4 (by omega)) (by omega)) (by omega)
          rcases st_fin hk p8 hI (Agr.mu (cC.trans (j5.mono (by decide))) (Or.inl (by decide))) (((mC.trans (j6 217 _) (Nat.le_refl _)).trans (FX_mu (by omega)) (Nat.le_refl _)).trans (FX_mu (by omega)) (Nat.le_refl _)) ⟨by rw [mu_i (by omega), j5 189 1 (by decide) (by decide), v1, mu_i (by omega), mu_i (by omega), j6 218 0 217 _ (by omega) (by omega), u0], x, by rw [mu_i (by omega), j5 189 2 (by decide) (by decide), v2], by rw [mu_i (by omega), mu_i (by omega), j6 218 0 217 _ (by omega) (by omega), u1], Or.inl ⟨hx1, by rw [mu_s, mu_i (by omega), mu_s]⟩⟩ with ⟨Mc', Mm', n1, n2, n3, n4⟩ | ⟨τ', p', e', r, Mc', Mm', n1, n2, n3, n4, n5⟩
          · exact Or.inl ⟨Mc', Mm', fun J => by rw [eC8, n1], by rw [eS, n2], n3, n4⟩
          · exact Or.inr ⟨τ', p', e', r, Mc', Mm', fun J => by rw [eC8, n1], n2, by rw [eS, n3], n4, n5⟩
      · -- a bargain
        have n2 : nI x = 2 := x2.mpr hx2
        have n3 : ¬ nI x = 3 := fun w => by have := x3.mp w; omega
        rw [if_pos n2] at eV
        rw [if_pos n2] at eS
        rcases pt_num (bd := B) pC (by omega) with ⟨Mc', Mm', j1, j2, j3, j4⟩ | ⟨u, τ4, p4, e4, Mc4, Mm4, j0, j1, j2, j3, j4, j5, j6⟩
        · left
          refine ⟨Mc', mu Mm' 217 (64 + 4 * k + 2) (-1), fun J => ?_, ?_, FR_mu j3 (by omega), tq _ ((mC.trans (j4 217 _) (Nat.le_refl _)).trans (FX_mu (by omega)) (Nat.le_refl _))⟩
          · rw [eC, eV, j1, Option.bind_some, if_pos rfl, Option.bind_some, if_pos (Or.inl rfl), Option.bind_some, if_pos rfl]
          · rw [eS, j2, Option.bind_some, tf]
        · have v24 : mu Mc4 189 3 (nI u) 189 2 = nI x := by rw [mu_i (by omega), j5 189 2 (by decide) (by decide), v2]
          have eC8 : ∀ J, lnX 2 J Mc = endC J (mu Mc4 189 3 (nI u)) := fun J => by
            rw [eC, eV, j1, Option.bind_some, if_neg one_ne]
            dsimp only
            rw [j2, evJ4, v24, if_pos n2, Option.bind_some, if_pos (Or.inr rfl), Option.bind_some, if_neg one_ne]
          rw [j3, Option.bind_some, to u Mm4 (by omega), if_neg n3, ← z0, jo 0 _ (by omega)] at eS
          have p8 : PT L b τ4 p4 e4 (mu Mc4 189 3 (nI u)) (mu (mu Mm4 217 (64 + 4 * k + 2) (nI u)) 217 (64 + 4 * k + 3) (nI 0)) := PT_cmu (PT_mmu (PT_mmu j4 (by omega)) (by omega)) (by omega)
          rcases st_fin hk p8 hI (Agr.mu (cC.trans (j5.mono (by decide))) (Or.inl (by decide))) (((mC.trans (j6 217 _) (Nat.le_refl _)).trans (FX_mu (by omega)) (Nat.le_refl _)).trans (FX_mu (by omega)) (Nat.le_refl _)) ⟨by rw [mu_i (by omega), j5 189 1 (by decide) (by decide), v1, mu_i (by omega), mu_i (by omega), j6 218 0 217 _ (by omega) (by omega), u0], x, v24, by rw [mu_i (by omega), mu_i (by omega), j6 218 0 217 _ (by omega) (by omega), u1], Or.inr (Or.inl ⟨hx2, u, j0, mu_s, by rw [mu_i (by omega), mu_s]⟩)⟩ with ⟨Mc', Mm', n1, n2, n3, n4⟩ | ⟨τ', p', e', r, Mc', Mm', n1, n2, n3, n4, n5⟩
          · exact Or.inl ⟨Mc', Mm', fun J => by rw [eC8, n1], by rw [eS, n2], n3, n4⟩
          · exact Or.inr ⟨τ', p', e', r, Mc', Mm', fun J => by rw [eC8, n1], n2, by rw [eS, n3], n4, n5⟩
      · -- a person, a number
        have n3 : nI x = 3 := x3.mpr hx3
        have n2 : ¬ nI x = 2 := fun w => by have := x2.mp w; omega
        rw [if_neg n2, if_pos n3] at eV
        rw [if_neg n2, if_pos n3] at eS
        rcases pt_num (bd := P) pC (by omega) with ⟨Mc', Mm', j1, j2, j3, j4⟩ | ⟨u, τ4, p4, e4, Mc4, Mm4, j0, j1, j2, j3, j4, j5, j6⟩
        · left
          refine ⟨Mc', mu Mm' 217 (64 + 4 * k + 2) (-1), fun J => ?_, ?_, FR_mu j3 (by omega), tq _ ((mC.trans (j4 217 _) (Nat.le_refl _)).trans (FX_mu (by omega)) (Nat.le_refl _))⟩
          · rw [eC, eV, j1, Option.bind_some, if_pos rfl, Option.bind_some, if_pos (Or.inl rfl), Option.bind_some, if_pos rfl]
          · rw [eS, j2, Option.bind_some, tf]
        · have v24 : mu Mc4 189 3 (nI u) 189 2 = nI x := by rw [mu_i (by omega), j5 189 2 (by decide) (by decide), v2]
          rw [j3, Option.bind_some, to u Mm4 (by omega), if_pos n3] at eS
          obtain ⟨MmD, hMmD⟩ : ∃ MmD, MmD = mu Mm4 217 (64 + 4 * k + 2) (nI u) := ⟨_, rfl⟩
          rw [← hMmD] at eS
          have pD : PT L b τ4 p4 e4 (mu Mc4 189 3 (nI u)) MmD := by rw [hMmD]; exact PT_cmu (PT_mmu j4 (by omega)) (by omega)
          have cD : Agr cX Mc (mu Mc4 189 3 (nI u)) := Agr.mu (cC.trans (j5.mono (by decide))) (Or.inl (by decide))
          have mD : FX 217 (64 + 4 * k) Mm MmD := by rw [hMmD]; exact (mC.trans (j6 217 _) (Nat.le_refl _)).trans (FX_mu (by omega)) (Nat.le_refl _)
          have eC7 : ∀ J, lnX 2 J Mc = ((evJ4 (mu Mc4 189 3 (nI u))).bind fun r7 => if r7.1 = 0 ∨ r7.1 = 1 then some (r7.1, r7.2) else none).bind fun r6 => if r6.1 = 0 then (some (0, r6.2)) else endC J r6.2 := fun J => by
            rw [eC, eV, j1, Option.bind_some, if_neg one_ne]
            dsimp only
            rw [j2]
          rcases pt_num (bd := 10) pD (by omega) with ⟨Mc', Mm', l1, l2, l3, l4⟩ | ⟨t, τ5, p5, e5, Mc5, Mm5, l0, l1, l2, l3, l4, l5, l6⟩
          · left
            have l1 : fX8_takeNumber 10 (mu Mc4 189 3 (nI u)) = some (0, Mc') := l1
            have l2 : fX12_readNumber 0 9 MmD = some (-1, Mm') := l2
            refine ⟨Mc', mu Mm' 217 (64 + 4 * k + 3) (-1), fun J => ?_, ?_, FR_mu l3 (by omega), tq _ ((mD.trans (l4 217 _) (Nat.le_refl _)).trans (FX_mu (by omega)) (Nat.le_refl _))⟩
            · rw [eC7, evJ4, v24, if_neg n2, l1, Option.bind_some, if_pos rfl, Option.bind_some, if_pos (Or.inl rfl), Option.bind_some, if_pos rfl]
            · rw [eS, l2, Option.bind_some, jf]
          · have l1 : fX8_takeNumber 10 (mu Mc4 189 3 (nI u)) = some (1, Mc5) := l1
            have l3 : fX12_readNumber 0 9 MmD = some (nI t, Mm5) := l3
            have eC8 : ∀ J, lnX 2 J Mc = endC J (mu Mc5 189 4 (nI t)) := fun J => by
              rw [eC7, evJ4, v24, if_neg n2, l1, Option.bind_some, if_neg one_ne]
              dsimp only
              rw [l2, Option.bind_some, if_pos (Or.inr rfl), Option.bind_some, if_neg one_ne]
            rw [l3, Option.bind_some] at eS
            dsimp only at eS
            rw [jo t _ (by omega)] at eS
            have p8 : PT L b τ5 p5 e5 (mu Mc5 189 4 (nI t)) (mu Mm5 217 (64 + 4 * k + 3) (nI t)) := PT_cmu (PT_mmu l4 (by omega)) (by omega)
            have d0 : Mm5 217 (64 + 4 * k) = nI v := by rw [l6 218 0 217 _ (by omega) (by omega), hMmD, mu_i (by omega), j6 218 0 217 _ (by omega) (by omega), u0]
            have d1 : Mm5 217 (64 + 4 * k + 1) = nI x := by rw [l6 218 0 217 _ (by omega) (by omega), hMmD, mu_i (by omega), j6 218 0 217 _ (by omega) (by omega), u1]
            have d2 : Mm5 217 (64 + 4 * k + 2) = nI u := by rw [l6 218 0 217 _ (by omega) (by omega), hMmD, mu_s]
            rcases st_fin hk p8 hI (Agr.mu (cD.trans (l5.mono (by decide))) (Or.inl (by decide))) ((mD.trans (l6 217 _) (Nat.le_refl _)).trans (FX_mu (by omega)) (Nat.le_refl _)) ⟨by rw [mu_i (by omega), l5 189 1 (by decide) (by decide), mu_i (by omega), j5 189 1 (by decide) (by decide), v1, mu_i (by omega), d0], x, by rw [mu_i (by omega), l5 189 2 (by decide) (by decide), v24], by rw [mu_i (by omega), d1], Or.inr (Or.inr ⟨hx3, u, j0, by rw [mu_i (by omega), l5 189 3 (by decide) (by decide), mu_s], by rw [mu_i (by omega), d2], by rw [mu_s, mu_s]⟩)⟩ with ⟨Mc', Mm', n1, n2, n3, n4⟩ | ⟨τ', p', e', r, Mc', Mm', n1, n2, n3, n4, n5⟩
            · exact Or.inl ⟨Mc', Mm', fun J => by rw [eC8, n1], by rw [eS, n2], n3, n4⟩
            · exact Or.inr ⟨τ', p', e', r, Mc', Mm', fun J => by rw [eC8, n1], n2, by rw [eS, n3], n4, n5⟩
end STREET
