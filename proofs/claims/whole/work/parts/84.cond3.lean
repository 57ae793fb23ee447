/-! ===== text: conditions, both sides ===== -/
def TstP (L : Nat) (b : Nat → Nat) (n : Nat) : Prop := ∀ (o j F brk d τ p e z : Nat) (Q : List Nat) (Mc Mm : Mem), o ≤ 8 → 2 * (8 - o) + 1 ≤ n → PS L b τ p e z Mc Mm → 1 ≤ p → z + j + d ≤ p → L - p < F → PN (List.replicate j 9 ++ Q) Mm → (∀ q r, Q = q :: r → q ≠ 9 ∧ q < 100) → Q.length + j + 3 * (8 - o) ≤ 30 → Mm 198 28 = nI o → j ≤ o → brk ≤ o →
   (∃ Mc' Mm', fX2_readTest n (nI o) Mc = some (0, Mc') ∧ fX12_readAny_L9 F (nI brk) 1 Mm = some (-1, Mm') ∧ FR Mc' Mm' ∧ Df z Mm Mm') ∨
   (∃ τ' p' e' z' F' Mc' Mm', fX2_readTest n (nI o) Mc = some (1, Mc') ∧ fX12_readAny_L9 F (nI brk) 1 Mm = fX12_readAny_L9 F' (nI brk) 0 Mm' ∧ p < p' ∧ L - p' < F' ∧ z < z' ∧ z' + j + d ≤ p' ∧ PJ 9 j L b τ' p' e' z' Mc' Mm' ∧ PN Q Mm' ∧ Mm' 198 28 = nI (o - j) ∧ Df z Mm Mm' ∧ ∀ s : List Bool, s.length + 2 * (8 - o) ≤ 26 → tck (dop Mm') (dar Mm') z (z' - z) s = some (true :: s))
def EitP (L : Nat) (b : Nat → Nat) (n : Nat) : Prop := ∀ (F brk d o τ p e z : Nat) (Q : List Nat) (Mc Mm : Mem), o ≤ 8 → 2 * (8 - o) + 2 ≤ n → PS L b τ p e z Mc Mm → 1 ≤ p → z + d ≤ p → L - p < F → PN Q Mm → (∀ q r, Q = q :: r → q = 12) → Q.length + 2 + 3 * (8 - o) ≤ 30 → Mm 198 28 = nI o → brk ≤ o →
   (∃ Mc' Mm', fX2_readEither n (nI o) Mc = some (0, Mc') ∧ fX12_readAny_L9 F (nI brk) 1 Mm = some (-1, Mm') ∧ FR Mc' Mm' ∧ Df z Mm Mm') ∨
   (∃ τ' p' e' z' F' Mc' Mm', fX2_readEither n (nI o) Mc = some (1, Mc') ∧ fX12_readAny_L9 F (nI brk) 1 Mm = refT F' (nI brk) Mm' ∧ p < p' ∧ L - p' ≤ F' ∧ z < z' ∧ z' + d ≤ p' ∧ PS L b τ' p' e' z' Mc' Mm' ∧ PN Q Mm' ∧ Mm' 198 28 = nI o ∧ Df z Mm Mm' ∧ ∀ s : List Bool, s.length + 2 + 2 * (8 - o) ≤ 26 → tck (dop Mm') (dar Mm') z (z' - z) s = some (true :: s))
section COND3
variable {L : Nat} {b : Nat → Nat}
theorem Agr_df {Mm Mm' : Mem} {z : Nat} (h : Agr [(198, some 14), (198, some 15), (198, some 16), (198, some 17)] Mm Mm') : Df z Mm Mm' := fun j _ => ⟨h 213 j (by simp) (by simp), h 214 j (by simp) (by simp)⟩
theorem Agr_pn {Mm Mm' : Mem} {Q : List Nat} (h : Agr [(198, some 14), (198, some 15), (198, some 16), (198, some 17)] Mm Mm') (hQ : PN Q Mm) : PN Q Mm' := by
  have e : Mm' 215 = Mm 215 := funext fun i => h 215 i (by simp) (by simp)
  exact ⟨(h 198 30 (by decide) (by decide)).trans hQ.1, by rw [e]; exact hQ.2⟩
theorem tst_not_true {s : List Bool} : tst (nI 9) (true :: s) = some (true :: s) := rfl
theorem tst_step {n : Nat} (hT : TstP L b n) (hE : EitP L b n) : TstP L b (n + 1) := by
  intro o j F brk d τ p e z Q Mc Mm ho hn h hp1 hz hF hQ hd hl h28 hj hbr
  have hL := h.1.1
  have hp : p ≤ L := Nat.le_trans h.2.1 h.2.2.1
  have hC := h.2.2.2.2.2.1
  have hM := h.2.2.2.2.2.2.1
  obtain ⟨F, rfl⟩ : ∃ F0, F = F0 + 1 := ⟨F - 1, by omega⟩
  rw [any_due hM]
  have v14 : fX8_isWord 14 Mc = some (if τ = 16 then 1 else 0) := hC.2.2.1 14 (by omega)
  have s40 : fX8_isSign 40 Mc = if τ = 140 then 1 else 0 := hc_sign (c := 40) hC (by decide)
  have cls : fX2_readTest (n + 1) (nI o) Mc = if τ = 16 then (if nI o < 8 then ((fX8_advance Mc).bind fun M3 => ((fX2_readTest n (nI o + 1) M3).bind fun r4 => if r4.1 = 0 then (some (0, r4.2)) else ((fX1_put 20110 r4.2).bind fun M5 => some (1, M5)))) else ((fX8_refuse 3 Mc).bind fun r8 => if r8.1 = 0 ∨ r8.1 = 1 then some (r8.1, r8.2) else none)) else if τ = 140 then (if nI o < 8 then ((fX8_advance Mc).bind fun M3 => ((fX2_readEither n (nI o + 1) M3).bind fun r6 => if r6.1 = 0 then (some (0, r6.2)) else ((fX8_takeSign 41 r6.2).bind fun r7 => if r7.1 = 0 then (some (0, r7.2)) else (some (1, r7.2))))) else ((fX8_refuse 3 Mc).bind fun r8 => if r8.1 = 0 ∨ r8.1 = 1 then some (r8.1, r8.2) else none)) else cmpC Mc := by
    show hX2_readTest (fX2_readEither n) (fX2_readTest n) (nI o) Mc = _
    unfold hX2_readTest
    rw [v14, Option.bind_some, jn_eq, s40]
    by_cases c1 : τ = 16
    · rw [if_pos c1, if_pos c1, if_neg one_ne]
      by_cases c : nI o < 8
      · rw [if_pos c, if_pos c]
        congr 1
      · rw [if_neg c, if_neg c]
    · rw [if_neg c1, if_neg c1, if_pos rfl]
      by_cases c2 : τ = 140
      · rw [if_pos c2, if_pos c2, if_neg one_ne]
        by_cases c : nI o < 8
        · rw [if_pos c, if_pos c]
          congr 1
        · rw [if_neg c, if_neg c]
      · rw [if_neg c2, if_neg c2, if_pos rfl]
        rfl
  rw [cls, h28]
  have flt : ∃ Mc' Mm', ((fX8_refuse 3 Mc).bind fun r8 => if r8.1 = 0 ∨ r8.1 = 1 then some (r8.1, r8.2) else none) = some (0, Mc') ∧ ((fX12_errs 3 Mm).bind fun r27 => some (r27.1, r27.2)) = some (-1, Mm') ∧ FR Mc' Mm' ∧ Df z Mm Mm' := by
    obtain ⟨Mc', Mm', f1, f2, f3, f4⟩ := ps_fault h 3
    exact ⟨Mc', Mm', by rw [f1, Option.bind_some]; exact if_pos (Or.inl rfl), by rw [f2]; rfl, f3, f4⟩
  by_cases o8 : o = 8
  · have c8 : ¬ nI o < (8 : Int32) := nI_nlt (show 8 ≤ o by omega) (by omega)
    have e8 : nI o = (8 : Int32) := by rw [o8]; rfl
    by_cases c1 : τ = 16
    · left
      rw [if_pos c1, if_pos c1, if_neg c8, if_pos e8]; exact flt
    · by_cases c2 : τ = 140
      · left
        rw [if_neg c1, if_neg c1, if_pos c2, if_pos c2, if_neg c8, if_pos e8]; exact flt
      · rw [if_neg c1, if_neg c1, if_neg c2, if_neg c2]
        rcases cmp_eq (d := j + d) h hp1 (by omega) with ⟨Mc', Mm', f1, f2, f3, f4⟩ | ⟨τ', p', e', z', Mc', Mm', f1, f2, f3, f4, f5, f6, f7, f8⟩
        · left
          exact ⟨Mc', Mm', f1, by rw [f2, Option.bind_some, if_pos rfl], f3, f4⟩
        · right
          have hp' : p' ≤ L := Nat.le_trans f6.2.1 f6.2.2.1
          have hm := Agr.of (wX12_readCompared Mm) f2
          have hQ' : PN (List.replicate j 9 ++ Q) Mm' := ⟨(hm 198 30 (by decide) (by decide)).trans hQ.1, by rw [show Mm' 215 = Mm 215 from funext fun i => hm 215 i (by simp) (by simp)]; exact hQ.2⟩
          have h28' : Mm' 198 28 = nI o := (hm 198 28 (by decide) (by decide)).trans h28
          obtain ⟨Mm2, g1, g2, g3, g4, g5⟩ := ps_settle (op := 9) (Or.inl rfl) f6 hQ' hd (by omega) (by omega) h28' (fun _ => hj)
          have g1 : fX12_settles 9 Mm' = some Mm2 := g1
          rw [if_pos rfl] at g4
          refine ⟨τ', p', e', z', F, Mc', Mm2, f1, ?_, f3, by omega, f4, by omega, g2, g3, g4, f7.trans g5 (by omega), fun s hs => ?_⟩
          · rw [f2, Option.bind_some, if_neg (show ¬ (0 : Int32) = -1 by decide), g1, Option.bind_some]
          · rw [tck_df g5 (show z + (z' - z) ≤ z' by omega)]; exact f8 s (by omega)
  · have c8 : nI o < (8 : Int32) := nI_lt (show o < 8 by omega) (by decide)
    have e8 : ¬ nI o = (8 : Int32) := fun w => o8 ((nI_eqb (by omega) (by omega)).mp w)
    by_cases c1 : τ = 16
    · rw [if_pos c1, if_pos c1, if_pos c8, if_neg e8, nI_1]
      -- not
      have hpe : p < e := h.2.2.2.1 (by omega)
      have pA : PS L b τ p e z Mc (mu Mm 198 28 (nI (o + 1))) := PS_m h (fun a i q1 q2 => by
        by_cases w : a = 198
        · subst w; exact mu_i (fun w => q2 ⟨rfl, Or.inl w⟩)
        · exact mu_o w)
      have qA : PN (List.replicate j 9 ++ Q) (mu Mm 198 28 (nI (o + 1))) := ⟨by rw [mu_i (by omega)]; exact hQ.1, by rw [mu_c (by omega)]; exact hQ.2⟩
      obtain ⟨M24, w1, w2, w3⟩ := waits_eq qA (by simp; omega) 9
      have w1 : fX12_waits 9 (mu Mm 198 28 (nI (o + 1))) = some M24 := w1
      have pB : PS L b τ p e z Mc M24 := PS_m pA (fun a i q1 q2 => w3 a i q1 (fun w => q2 ⟨w.1, Or.inr w.2⟩))
      obtain ⟨τ1, p1, e1, Mc1, Mm1, n1, n2, n3, n4, n5, n6⟩ := ps_next pB
      have d1 : Df z Mm Mm1 := fun i hi => by
        rw [n6 213 i (by simp) (by simp), n6 214 i (by simp) (by simp), w3 213 i (by omega) (by omega), w3 214 i (by omega) (by omega), mu_o (by omega), mu_o (by omega)]; exact ⟨rfl, rfl⟩
      have q1 : PN (List.replicate (j + 1) 9 ++ Q) Mm1 := Agr_pn n6 w2
      have h28' : Mm1 198 28 = nI (o + 1) := by rw [n6 198 28 (by decide) (by decide), w3 198 28 (by omega) (by omega), mu_s]
      rw [n2, Option.bind_some, w1, Option.bind_some, n3, Option.bind_some]
      have hp1L : p1 ≤ L := Nat.le_trans n4.2.1 n4.2.2.1
      rcases hT (o + 1) (j + 1) F brk d τ1 p1 e1 z Q Mc1 Mm1 (by omega) (by omega) n4 (by omega) (by omega) (by omega) q1 hd (by omega) h28' (by omega) (by omega) with ⟨Mc', Mm', f1, f2, f3, f4⟩ | ⟨τ', p', e', z', F', Mc', Mm', f1, f2, f3, f4, f5, f6, f7, f8, f9, f10, f11⟩
      · left
        exact ⟨Mc', Mm', by rw [f1, Option.bind_some, if_pos rfl], f2, f3, d1.trans f4 (Nat.le_refl _)⟩
      · right
        have hp' : p' ≤ L := Nat.le_trans f7.2.1 f7.2.2.1
        obtain ⟨Mc2, g1, g2⟩ := pj_put f7 (by omega) (by omega) (by omega)
        have g1 : fX1_put 20110 Mc' = some Mc2 := g1
        refine ⟨τ', p', e', z' + 1, F', Mc2, Mm', ?_, f2, by omega, f4, by omega, by omega, g2, f8, by rw [f9]; congr 1; omega, d1.trans f10 (Nat.le_refl _), fun s hs => ?_⟩
        · rw [f1, Option.bind_some, if_neg one_ne, g1]; rfl
        · have s1 := f11 s (by omega)
          rw [show z' + 1 - z = (z' - z) + 1 by omega, tck_app _ _ z _ _ s1, show z + (z' - z) = z' by omega]
          have ez : dop Mm' z' = nI 9 := f7.2.2.2.2.2.2.2.2.2.2 0 (by omega)
          exact tck_one (fun w => by rw [ez] at w; exact absurd w (by decide)) (by rw [ez]; exact tst_not_true)
    · by_cases c2 : τ = 140
      · rw [if_neg c1, if_neg c1, if_pos c2, if_pos c2, if_pos c8, if_neg e8, nI_1, nI_1]
        -- a bracket
        have hpe : p < e := h.2.2.2.1 (by omega)
        have pA : PS L b τ p e z Mc (mu Mm 198 28 (nI (o + 1))) := PS_m h (fun a i q1 q2 => by
          by_cases w : a = 198
          · subst w; exact mu_i (fun w => q2 ⟨rfl, Or.inl w⟩)
          · exact mu_o w)
        have qA : PN (List.replicate j 9 ++ Q) (mu Mm 198 28 (nI (o + 1))) := ⟨by rw [mu_i (by omega)]; exact hQ.1, by rw [mu_c (by omega)]; exact hQ.2⟩
        obtain ⟨M24, w1, w2, w3⟩ := waits_eq qA (by simp; omega) 12
        have w1 : fX12_waits 12 (mu Mm 198 28 (nI (o + 1))) = some M24 := w1
        have pB : PS L b τ p e z Mc M24 := PS_m pA (fun a i q1 q2 => w3 a i q1 (fun w => q2 ⟨w.1, Or.inr w.2⟩))
        obtain ⟨τ1, p1, e1, Mc1, Mm1, n1, n2, n3, n4, n5, n6⟩ := ps_next pB
        have d1 : Df z Mm Mm1 := fun i hi => by
          rw [n6 213 i (by simp) (by simp), n6 214 i (by simp) (by simp), w3 213 i (by omega) (by omega), w3 214 i (by omega) (by omega), mu_o (by omega), mu_o (by omega)]; exact ⟨rfl, rfl⟩
        have q1 : PN (12 :: (List.replicate j 9 ++ Q)) Mm1 := Agr_pn n6 w2
        have h28' : Mm1 198 28 = nI (o + 1) := by rw [n6 198 28 (by decide) (by decide), w3 198 28 (by omega) (by omega), mu_s]
        rw [n2, Option.bind_some, w1, Option.bind_some, n3, Option.bind_some]
        have lenQ : (12 :: (List.replicate j 9 ++ Q)).length = j + Q.length + 1 := by simp
        have hp1L : p1 ≤ L := Nat.le_trans n4.2.1 n4.2.2.1
        rcases hE F (brk + 1) (j + d) (o + 1) τ1 p1 e1 z (12 :: (List.replicate j 9 ++ Q)) Mc1 Mm1 (by omega) (by omega) n4 (by omega) (by omega) (by omega) q1 (fun q r w => by cases w; rfl) (by rw [lenQ]; omega) h28' (by omega) with ⟨Mc', Mm', f1, f2, f3, f4⟩ | ⟨τ', p', e', z', F', Mc', Mm', f1, f2, f3, f4, f5, f6, f7, f8, f9, f10, f11⟩
        · left
          exact ⟨Mc', Mm', by rw [f1, Option.bind_some, if_pos rfl], f2, f3, d1.trans f4 (Nat.le_refl _)⟩
        · have hp' : p' ≤ L := Nat.le_trans f7.2.1 f7.2.2.1
          have hC' := f7.2.2.2.2.2.1
          have hM' := f7.2.2.2.2.2.2.1
          have c41 : fX8_isSign 41 Mc' = if τ' = 141 then 1 else 0 := hc_sign (c := 41) hC' (by decide)
          have m41 : fX12_isSign 41 Mm' = if τ' = 141 then 1 else 0 := hm_sign (c := 41) hM' (by decide)
          rw [f1, Option.bind_some, if_neg one_ne, f2]
          unfold fX8_takeSign refT
          rw [c41, m41, if_neg (nI_ne0 (show 0 < brk + 1 by omega) (by omega))]
          by_cases c41' : τ' = 141
          · right
            rw [if_pos c41', if_neg one_ne, if_neg one_ne]
            -- the reference takes the bracket away, nots come out, the next token
            have pC : PS L b τ' p' e' z' Mc' (mu (mu Mm' 198 30 (nI (j + Q.length))) 198 28 (nI o)) := PS_m f7 (fun a i q1 q2 => by
              by_cases w : a = 198
              · subst w; rw [mu_i (fun w => q2 ⟨rfl, Or.inl w⟩), mu_i (fun w => q2 ⟨rfl, Or.inr w⟩)]
              · rw [mu_o w, mu_o w])
            have l30 : Mm' 198 30 = nI (j + Q.length + 1) := by rw [f8.1, lenQ]
            have qC : PN (List.replicate j 9 ++ Q) (mu (mu Mm' 198 30 (nI (j + Q.length))) 198 28 (nI o)) := by
              refine ⟨by rw [mu_i (by omega), mu_s]; simp, ?_⟩
              rw [mu_c (by omega), mu_c (by omega)]; exact f8.2.2
            obtain ⟨Mm2, g1, g2, g3, g4, g5⟩ := ps_settle (op := 9) (Or.inl rfl) pC qC hd (by omega) (by omega) mu_s (fun _ => hj)
            have g1 : fX12_settles 9 (mu (mu Mm' 198 30 (nI (j + Q.length))) 198 28 (nI o)) = some Mm2 := g1
            rw [if_pos rfl] at g4
            obtain ⟨τ3, p3, e3, Mc3, Mm3, r1, r2, r3, r4, r5⟩ := pj_next g2
            have hpe' : p' < e' := f7.2.2.2.1 (by omega)
            have hp3 : p3 ≤ L := Nat.le_trans r4.2.1 r4.2.2.1
            have d3 : Df z' Mm' Mm3 := fun i hi => by
              have a := g5 i hi
              rw [mu_o (by omega), mu_o (by omega), mu_o (by omega), mu_o (by omega)] at a
              rw [r5 213 i (by simp) (by simp), r5 214 i (by simp) (by simp)]; exact a
            refine ⟨τ3, p3, e3, z', F', Mc3, Mm3, ?_, ?_, by omega, by omega, by omega, by omega, r4, Agr_pn r5 g3, by rw [r5 198 28 (by decide) (by decide)]; exact g4, d1.trans (f10.trans d3 (by omega)) (Nat.le_refl _), fun s hs => ?_⟩
            · rw [r2, Option.bind_some, Option.bind_some, if_neg one_ne]
            · rw [l30, nI_pred, bnd_eq, bnd_eq, bnd_eq, mu_i (by omega), f9, nI_pred, nI_pred, g1, Option.bind_some, r3, Option.bind_some]
            · rw [tck_df d3 (show z + (z' - z) ≤ z' by omega)]; exact f11 s (by omega)
          · left
            obtain ⟨Mc2, Mm2, g1, g2, g3, g4⟩ := ps_fault f7 1
            refine ⟨Mc2, Mm2, ?_, ?_, g3, d1.trans (f10.trans g4 (by omega)) (Nat.le_refl _)⟩
            · rw [if_neg c41', if_pos rfl, g1, Option.bind_some, if_pos (Or.inl rfl), Option.bind_some, if_pos rfl]
            · rw [if_neg c41', if_pos rfl, g2]; rfl
      · rw [if_neg c1, if_neg c1, if_neg c2, if_neg c2]
        rcases cmp_eq (d := j + d) h hp1 (by omega) with ⟨Mc', Mm', f1, f2, f3, f4⟩ | ⟨τ', p', e', z', Mc', Mm', f1, f2, f3, f4, f5, f6, f7, f8⟩
        · left
          exact ⟨Mc', Mm', f1, by rw [f2, Option.bind_some, if_pos rfl], f3, f4⟩
        · right
          have hp' : p' ≤ L := Nat.le_trans f6.2.1 f6.2.2.1
          have hm := Agr.of (wX12_readCompared Mm) f2
          have hQ' : PN (List.replicate j 9 ++ Q) Mm' := ⟨(hm 198 30 (by decide) (by decide)).trans hQ.1, by rw [show Mm' 215 = Mm 215 from funext fun i => hm 215 i (by simp) (by simp)]; exact hQ.2⟩
          have h28' : Mm' 198 28 = nI o := (hm 198 28 (by decide) (by decide)).trans h28
          obtain ⟨Mm2, g1, g2, g3, g4, g5⟩ := ps_settle (op := 9) (Or.inl rfl) f6 hQ' hd (by omega) (by omega) h28' (fun _ => hj)
          have g1 : fX12_settles 9 Mm' = some Mm2 := g1
          rw [if_pos rfl] at g4
          refine ⟨τ', p', e', z', F, Mc', Mm2, f1, ?_, f3, by omega, f4, by omega, g2, g3, g4, f7.trans g5 (by omega), fun s hs => ?_⟩
          · rw [f2, Option.bind_some, if_neg (show ¬ (0 : Int32) = -1 by decide), g1, Option.bind_some]
          · rw [tck_df g5 (show z + (z' - z) ≤ z' by omega)]; exact f8 s (by omega)
end COND3
