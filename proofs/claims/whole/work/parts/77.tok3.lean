/-! ===== text: the next token ===== -/
theorem ck_4 (x : Nat) : ck x = 1 ∨ ck x = 2 ∨ ck x = 3 ∨ ck x = 4 := by
  unfold ck
  split
  · exact Or.inl rfl
  · split
    · exact Or.inr (Or.inl rfl)
    · split
      · exact Or.inr (Or.inr (Or.inr rfl))
      · exact Or.inr (Or.inr (Or.inl rfl))
theorem tok_step {L : Nat} {b : Nat → Nat} {Mc Mm : Mem} (h : TpR L b Mc Mm) {s : Nat} (hs : s ≤ L) (h6 : Mc 178 6 = nI s) (h14 : Mm 198 14 = nI s) : ∃ τ p e Mc' Mm', s ≤ p ∧ p ≤ e ∧ e ≤ L ∧ (1 ≤ τ → p < e) ∧ (τ = 0 → p = L) ∧ fX8_advance Mc = some Mc' ∧ fX12_reads Mm = some Mm' ∧ HandC τ p e Mc' ∧ HandM τ p e Mm' := by
  have hL := h.1
  obtain ⟨p, p1, p2, p3, p4, p5⟩ := t_skip h (L - s) FU s (by omega) (FU_gt (by omega))
  have em : mu Mc 178 6 (nI s) = Mc := by rw [← h6, mu_same]
  have em2 : mu Mm 198 14 (nI s) = Mm := by rw [← h14, mu_same]
  rw [em] at p4
  rw [em2] at p5
  obtain ⟨C0, hC0⟩ : ∃ C0, C0 = mu (mu Mc 178 6 (nI p)) 178 5 (nI p) := ⟨_, rfl⟩
  obtain ⟨M0, hM0⟩ : ∃ M0, M0 = mu (mu (mu Mm 198 14 (nI p)) 198 15 (nI p)) 198 16 1 := ⟨_, rfl⟩
  have hT : TpR L b C0 M0 := by
    rw [hC0, hM0]
    exact TpR_m (TpR_c h (by rw [mu_i (by omega), mu_i (by omega)]) (by rw [mu_c (by omega), mu_c (by omega)])) (by rw [mu_i (by omega), mu_i (by omega), mu_i (by omega)]) (by rw [mu_c (by omega), mu_c (by omega), mu_c (by omega)]) (by rw [mu_c (by omega), mu_c (by omega), mu_c (by omega)])
  have c6 : C0 178 6 = nI p := by rw [hC0, mu_i (by omega), mu_s]
  have c5 : C0 178 5 = nI p := by rw [hC0, mu_s]
  have m14 : M0 198 14 = nI p := by rw [hM0, mu_i (by omega), mu_i (by omega), mu_s]
  have m15 : M0 198 15 = nI p := by rw [hM0, mu_i (by omega), mu_s]
  have m16 : M0 198 16 = 1 := by rw [hM0, mu_s]
  have ea : fX8_advance Mc = (fX8_kindAt (nI p) C0).bind fun v5 => bnd (mu C0 178 4 v5) fun M6 => if (M6 178 4) = 0 then (some M6) else (jn (fun (t8 : Int32) => bnd (mu M6 178 7 t8) fun M9 => bnd (mu M9 178 6 ((M9 178 6) + 1)) fun M10 => fX8_advance_L110 (fun (M15 : Mem) => if (M15 178 4) = 2 then (if ((M15 178 6) - (M15 178 5)) ≤ 4 then (some M15) else (bnd (mu M15 178 4 5) fun M16 => some M16)) else (some M15)) FU M10) fun (J7 : (Int32) → Option (Mem)) => if (M6 178 4) = 2 then ((rd M6 179 400 (M6 178 6)).bind fun v18 => J7 (v18 - 48)) else ((rd M6 179 400 (M6 178 6)).bind fun v17 => J7 v17)) := by
    unfold fX8_advance
    rw [p4, bnd_eq, mu_s, ← hC0, c6]
  have er : fX12_reads Mm = (fX12_raw (nI p) M0).bind fun v8 => if v8 = (-1) then (bnd (mu M0 198 16 0) fun M27 => some M27) else (bnd (mu M0 198 14 (nI (p + 1))) fun M9 => bnd (mu M9 198 17 v8) fun M10 => if (fX12_isLetter v8) = 0 then (if (fX12_isDigit v8) = 0 then (if (fX12_isMarkSign v8) = 0 then (some M10) else (bnd (mu M10 198 16 4) fun M11 => some M11)) else (bnd (mu M10 198 17 (v8 - 48)) fun M12 => fX12_reads_L171 (fun (M19 : Mem) => if 5 ≤ ((M19 198 14) - (M19 198 15)) then (some M19) else (bnd (mu M19 198 16 3) fun M20 => some M20)) FU M12)) else (fX12_reads_L95 (fun (M23 : Mem) => (fX12_wordAt (M23 198 15) (M23 198 14) M23).bind fun v24 => bnd (mu M23 198 17 v24) fun M25 => if (M25 198 17) = (-1) then (some M25) else (bnd (mu M25 198 16 2) fun M26 => some M26)) FU M10)) := by
    unfold fX12_reads
    rw [p5, bnd_eq, mu_s, bnd_eq, ← hM0, m14, nI_1]
  by_cases cE : p = L
  · -- the end
    have hk := kind_end hT (show L ≤ p by omega) (by omega)
    have hr := raw_end hT (show L ≤ p by omega) (by omega)
    rw [hk, Option.bind_some, bnd_eq, mu_s, if_pos rfl] at ea
    rw [hr, Option.bind_some, if_pos rfl, bnd_eq] at er
    refine ⟨0, p, p, _, _, p1, Nat.le_refl _, p2, fun q => by omega, fun _ => cE, ea, er, ⟨?_, ?_, fun i hi => ?_, fun c hc => ?_, Or.inl ⟨rfl, mu_s⟩⟩, ⟨?_, ?_, Or.inl ⟨rfl, mu_s⟩⟩⟩
    · rw [mu_i (by omega)]; exact c5
    · rw [mu_i (by omega)]; exact c6
    · rw [isW_no (by rw [mu_s]; decide), if_neg (by omega)]
    · unfold fX8_isSign
      rw [mu_s, if_neg (by decide), if_neg (by omega)]
    · rw [mu_i (by omega)]; exact m15
    · rw [mu_i (by omega)]; exact m14
  have pL : p < L := by omega
  have hb := (h.2.2.2.1 p pL).1
  obtain ⟨r1, r2, r3, r4, r5⟩ := ref_is (b p) hb
  have n4 := p3 pL
  have hk := kind_at hT pL
  have hr := raw_at hT pL
  have h179 : Mc 179 p = ji2b (nI (b p)) := (h.2.2.2.1 p pL).2.2
  have hck : ck (b p) = 1 ∨ ck (b p) = 2 ∨ ck (b p) = 3 := by
    have := ck_4 (b p)
    omega
  rw [hk, Option.bind_some, bnd_eq, mu_s] at ea
  rw [hr, Option.bind_some, if_neg r5, bnd_eq, bnd_eq, r1, r2, r4] at er
  have nk0 : ¬ nI (ck (b p)) = (0 : Int32) := nI_ne0 (by omega) (by omega)
  obtain ⟨C1, hC1⟩ : ∃ C1, C1 = mu C0 178 4 (nI (ck (b p))) := ⟨_, rfl⟩
  have d4 : C1 178 4 = nI (ck (b p)) := by rw [hC1, mu_s]
  have d5 : C1 178 5 = nI p := by rw [hC1, mu_i (by omega)]; exact c5
  have d6 : C1 178 6 = nI p := by rw [hC1, mu_i (by omega)]; exact c6
  have hT1 : TpR L b C1 M0 := by rw [hC1]; exact TpR_c hT (mu_i (by omega)) (mu_c (by omega))
  have r179 : rd C1 179 400 (nI p) = some (ji2b (nI (b p))) := by rw [rd_nI (by omega), (hT1.2.2.2.1 p pL).2.2]
  rw [if_neg nk0, ← hC1, jn_eq, d6, r179, Option.bind_some, Option.bind_some] at ea
  dsimp only at ea
  rcases hck with ck1 | ck2 | ck3
  · -- a word
    have n2 : ¬ nI (ck (b p)) = (2 : Int32) := by rw [ck1]; decide
    rw [if_neg n2, bnd_eq, bnd_eq, mu_i (by omega), d6, nI_1] at ea
    rw [if_pos ck1, if_neg one_ne] at er
    obtain ⟨e, v', w1, w2, w3, w4, -⟩ := t_word hT1 (by rw [d4, ck1]) (L - (p + 1)) FU (p + 1) (ji2b (nI (b p))) (by omega) (FU_gt (by omega))
    have hT2 : TpR L b C1 (mu M0 198 17 (nI (b p))) := TpR_m hT1 (mu_i (by omega)) (mu_c (by omega)) (mu_c (by omega))
    obtain ⟨e2, v2, x1, x2, -, w4', w5⟩ := t_word hT2 (by rw [d4, ck1]) (L - (p + 1)) FU (p + 1) (ji2b (nI (b p))) (by omega) (FU_gt (by omega))
    have ee : e2 = e := by
      have a := w4 (fun M => some M)
      have a' := w4' (fun M => some M)
      rw [a] at a'
      have a'' := congrFun (congrFun (Option.some.inj a') 178) 6
      rw [mu_s, mu_s] at a''
      exact ((nI_eqb (by omega) (by omega)).mp a'').symm
    subst ee
    have hl : ∀ i, p ≤ i → i < e2 → ck (b i) = 1 := fun i a d => by
      by_cases q : i = p
      · subst q; exact ck1
      · exact w3 i (by omega) d
    have n22 : ¬ nI 1 = (2 : Int32) := by decide
    rw [w4, mu_i (by omega), mu_i (by omega), d4, ck1, if_neg n22] at ea
    obtain ⟨M1, hM1⟩ : ∃ M1, M1 = mu (mu M0 198 17 (nI (b p))) 198 14 (nI e2) := ⟨_, rfl⟩
    have hT3 : TpR L b C1 M1 := by rw [hM1]; exact TpR_m hT2 (mu_i (by omega)) (mu_c (by omega)) (mu_c (by omega))
    have f15 : M1 198 15 = nI p := by rw [hM1, mu_i (by omega), mu_i (by omega)]; exact m15
    have f14 : M1 198 14 = nI e2 := by rw [hM1, mu_s]
    have f16 : M1 198 16 = 1 := by rw [hM1, mu_i (by omega), mu_i (by omega)]; exact m16
    rw [mu_comm (M := M0) (i := 14) (j := 17) (by omega), w5, ← hM1, f15, f14] at er
    have hw := wordAt_is hT3 (show p ≤ e2 by omega) w2 hl
    have hT4 : TpR L b (mu (mu C1 178 7 v') 178 6 (nI e2)) M1 := TpR_c hT3 (by rw [mu_i (by omega), mu_i (by omega)]) (by rw [mu_c (by omega), mu_c (by omega)])
    have isw := fun i (hi : i < 22) => isW_is hT4 hi (show p ≤ e2 by omega) w2 (show mu (mu C1 178 7 v') 178 6 (nI e2) 178 4 = 1 by rw [mu_i (by omega), mu_i (by omega), d4, ck1]; rfl) (by rw [mu_i (by omega), mu_i (by omega)]; exact d5) mu_s
    have sgn : ∀ c, fX8_isSign (nI c) (mu (mu C1 178 7 v') 178 6 (nI e2)) = 0 := fun c => by
      unfold fX8_isSign
      rw [mu_i (by omega), mu_i (by omega), d4, ck1, if_neg (by decide)]
    have k4 : ¬ mu (mu C1 178 7 v') 178 6 (nI e2) 178 4 = 0 ∧ ¬ mu (mu C1 178 7 v') 178 6 (nI e2) 178 4 = 2 := by
      rw [mu_i (by omega), mu_i (by omega), d4, ck1]; decide
    have g5 : mu (mu C1 178 7 v') 178 6 (nI e2) 178 5 = nI p := by rw [mu_i (by omega), mu_i (by omega)]; exact d5
    rcases hw with ⟨v, v1, v2, v3⟩ | ⟨v1, v2⟩
    · have nv : ¬ nI v = (-1 : Int32) := fun q => by
        have := congrArg Int32.toInt q
        rw [nI_toInt (by omega)] at this
        have e : (-1 : Int32).toInt = -1 := by decide
        rw [e] at this; omega
      rw [v3, Option.bind_some, bnd_eq, mu_s, if_neg nv, bnd_eq] at er
      refine ⟨10 + v, p, e2, _, _, p1, by omega, w2, fun _ => by omega, fun q => by omega, ea, er, ⟨g5, mu_s, fun i hi => ?_, fun c hc => ?_, Or.inr (Or.inr ⟨by omega, by omega, k4.1, k4.2, fun q => by omega⟩)⟩, ⟨?_, ?_, Or.inr (Or.inr (Or.inl ⟨v, v1, rfl, mu_s, ?_⟩))⟩⟩
      · obtain ⟨cc, cc1, cc2, cc3⟩ := isw i hi
        obtain ⟨q1, q2, q3⟩ := w_map i hi
        rw [cc2]
        congr 1
        by_cases q : v = wmap i
        · rw [if_pos (by omega)]; exact cc3.mpr (q ▸ v2)
        · rw [if_neg (by omega)]
          rcases cc1 with z | z
          · exact z
          · exfalso
            obtain ⟨y1, y2⟩ := cc3.mp z
            have x1 := v2.1
            exact q (w_dist v v1 (wmap i) q1 (by omega) (fun j hj => by rw [← v2.2 j hj, y2 j (by omega)]))
      · rw [sgn, if_neg (by have := mk_all c hc; have := (mk_lt c this hc).2.1; omega)]
      · rw [mu_i (by omega), mu_i (by omega)]; exact f15
      · rw [mu_i (by omega), mu_i (by omega)]; exact f14
      · rw [mu_i (by omega), mu_s]
    · rw [v2, Option.bind_some, bnd_eq, mu_s, if_pos rfl] at er
      refine ⟨1, p, e2, _, _, p1, by omega, w2, fun _ => by omega, fun q => by omega, ea, er, ⟨g5, mu_s, fun i hi => ?_, fun c hc => ?_, Or.inr (Or.inr ⟨by omega, by omega, k4.1, k4.2, fun q => by omega⟩)⟩, ⟨?_, ?_, Or.inr (Or.inl ⟨rfl, ?_⟩)⟩⟩
      · obtain ⟨cc, cc1, cc2, cc3⟩ := isw i hi
        obtain ⟨q1, q2, q3⟩ := w_map i hi
        rw [cc2, if_neg (by omega)]
        congr 1
        rcases cc1 with z | z
        · exact z
        · exact absurd (cc3.mp z) (v1 _ q1)
      · rw [sgn, if_neg (by omega)]
      · rw [mu_i (by omega)]; exact f15
      · rw [mu_i (by omega)]; exact f14
      · rw [mu_i (by omega)]; exact f16
  · -- a number
    have n2 : nI (ck (b p)) = (2 : Int32) := by rw [ck2]; rfl
    obtain ⟨g1, g2, g3⟩ := dig_is (b p) hb ck2
    have l48 : (48 : Int32) = nI 48 := rfl
    rw [if_pos n2, bnd_eq, bnd_eq, mu_i (by omega), d6, nI_1, g3, l48, pk_sub g1] at ea
    rw [if_neg (show ¬ ck (b p) = 1 by omega), if_pos rfl, if_pos ck2, if_neg one_ne, bnd_eq, l48, pk_sub g1, mu_mu, mu_comm (M := M0) (i := 14) (j := 17) (by omega)] at er
    obtain ⟨e, vc', vm', w1, w2, w3, w4, w5⟩ := t_num (p := p) hT1 (by rw [d4, ck2]) (L - (p + 1)) FU (p + 1) (nI (b p - 48)) (nI (b p - 48)) (by omega) (FU_gt (by omega)) (by omega) (fun _ => ⟨b p - 48, by rw [show p + 1 - p = 1 by omega]; omega, rfl, rfl⟩)
    rw [w4] at ea
    rw [w5] at er
    have f4 : mu (mu C1 178 7 vc') 178 6 (nI e) 178 4 = (2 : Int32) := by rw [mu_i (by omega), mu_i (by omega), d4]; exact n2
    have f5 : mu (mu C1 178 7 vc') 178 6 (nI e) 178 5 = nI p := by rw [mu_i (by omega), mu_i (by omega)]; exact d5
    have f7 : mu (mu C1 178 7 vc') 178 6 (nI e) 178 7 = vc' := by rw [mu_i (by omega), mu_s]
    have g15 : mu (mu M0 198 17 vm') 198 14 (nI e) 198 15 = nI p := by rw [mu_i (by omega), mu_i (by omega)]; exact m15
    have g16 : mu (mu M0 198 17 vm') 198 14 (nI e) 198 16 = 1 := by rw [mu_i (by omega), mu_i (by omega)]; exact m16
    have g17 : mu (mu M0 198 17 vm') 198 14 (nI e) 198 17 = vm' := by rw [mu_i (by omega), mu_s]
    have n21 : ¬ (2 : Int32) = 1 := by decide
    have n23 : ¬ (2 : Int32) = 3 := by decide
    rw [f4, if_pos rfl, mu_s, f5, pk_sub (by omega)] at ea
    rw [mu_s, g15, pk_sub (by omega)] at er
    by_cases c : e - p ≤ 4
    · rw [if_pos (show nI (e - p) ≤ (4 : Int32) from nI_le c (by decide))] at ea
      rw [if_neg (show ¬ (5 : Int32) ≤ nI (e - p) from nI_ge (show e - p < 5 by omega) (by decide)), bnd_eq] at er
      obtain ⟨v, v1, rfl, rfl⟩ := w3 c
      have v2 : v < 10000 := Nat.lt_of_lt_of_le v1 (Nat.pow_le_pow_right (by omega) c)
      refine ⟨1000 + v, p, e, _, _, p1, by omega, w2, fun _ => by omega, fun q => by omega, ea, er, ⟨f5, mu_s, fun i hi => ?_, fun c hc => ?_, Or.inr (Or.inl ⟨by omega, by omega, f4, by rw [f7, Nat.add_sub_cancel_left]⟩)⟩, ⟨?_, ?_, Or.inr (Or.inr (Or.inr (Or.inr ⟨v, by omega, rfl, mu_s, ?_⟩)))⟩⟩
      · rw [isW_no (by rw [f4]; exact n21), if_neg (by have := (w_map i hi).1; omega)]
      · unfold fX8_isSign
        rw [f4, if_neg n23, if_neg (by have := mk_all c hc; omega)]
      · rw [mu_i (by omega)]; exact g15
      · rw [mu_i (by omega), mu_s]
      · rw [mu_i (by omega)]; exact g17
    · rw [if_neg (show ¬ nI (e - p) ≤ (4 : Int32) from nI_ge (show 4 < e - p by omega) (by omega)), bnd_eq] at ea
      rw [if_pos (show (5 : Int32) ≤ nI (e - p) from nI_le (show 5 ≤ e - p by omega) (by omega))] at er
      refine ⟨1, p, e, _, _, p1, by omega, w2, fun _ => by omega, fun q => by omega, ea, er, ⟨?_, ?_, fun i hi => ?_, fun c hc => ?_, Or.inr (Or.inr ⟨by omega, by omega, by rw [mu_s]; decide, by rw [mu_s]; decide, fun q => by omega⟩)⟩, ⟨g15, mu_s, Or.inr (Or.inl ⟨rfl, g16⟩)⟩⟩
      · rw [mu_i (by omega)]; exact f5
      · rw [mu_i (by omega), mu_s]
      · rw [isW_no (by rw [mu_s]; decide), if_neg (by omega)]
      · unfold fX8_isSign
        rw [mu_s, if_neg (by decide), if_neg (by omega)]
  · -- a sign
    have n2 : ¬ nI (ck (b p)) = (2 : Int32) := by rw [ck3]; decide
    rw [if_neg n2, bnd_eq, bnd_eq, mu_i (by omega), d6, nI_1] at ea
    rw [if_neg (show ¬ ck (b p) = 1 by omega), if_pos rfl, if_neg (show ¬ ck (b p) = 2 by omega), if_pos rfl] at er
    obtain ⟨F, hF⟩ : ∃ F, FU = F + 1 := ⟨99999, rfl⟩
    have f4 : mu (mu C1 178 7 (ji2b (nI (b p)))) 178 6 (nI (p + 1)) 178 4 = (3 : Int32) := by rw [mu_i (by omega), mu_i (by omega), d4, ck3]; rfl
    have f5 : mu (mu C1 178 7 (ji2b (nI (b p)))) 178 6 (nI (p + 1)) 178 5 = nI p := by rw [mu_i (by omega), mu_i (by omega)]; exact d5
    have f7 : mu (mu C1 178 7 (ji2b (nI (b p)))) 178 6 (nI (p + 1)) 178 7 = ji2b (nI (b p)) := by rw [mu_i (by omega), mu_s]
    have n32 : ¬ (3 : Int32) = 2 := by decide
    have n31 : ¬ (3 : Int32) = 1 := by decide
    rw [hF, fX8_advance_L110, f4, if_pos rfl, if_neg n32] at ea
    have sgn : ∀ c, mk c = true → fX8_isSign (nI c) (mu (mu C1 178 7 (ji2b (nI (b p)))) 178 6 (nI (p + 1))) = if b p = c then 1 else 0 := fun c hc => by
      unfold fX8_isSign
      have c64 := (mk_lt c (mk_all c hc) hc).1
      rw [f4, if_pos rfl, f7]
      by_cases q : b p = c
      · rw [if_pos q, if_pos ((sig_is (b p) hb c c64).mpr q)]
      · rw [if_neg q, if_neg (fun z => q ((sig_is (b p) hb c c64).mp z))]
    have g15 : mu (mu M0 198 14 (nI (p + 1))) 198 17 (nI (b p)) 198 15 = nI p := by rw [mu_i (by omega), mu_i (by omega)]; exact m15
    have g16 : mu (mu M0 198 14 (nI (p + 1))) 198 17 (nI (b p)) 198 16 = 1 := by rw [mu_i (by omega), mu_i (by omega)]; exact m16
    have k4 : ¬ mu (mu C1 178 7 (ji2b (nI (b p)))) 178 6 (nI (p + 1)) 178 4 = 0 ∧ ¬ mu (mu C1 178 7 (ji2b (nI (b p)))) 178 6 (nI (p + 1)) 178 4 = 2 := by rw [f4]; decide
    by_cases cm : mk (b p) = true
    · rw [if_pos cm, if_neg one_ne, bnd_eq] at er
      obtain ⟨z1, z2, z3⟩ := mk_lt (b p) hb cm
      refine ⟨100 + b p, p, p + 1, _, _, p1, by omega, by omega, fun _ => by omega, fun q => by omega, ea, er, ⟨f5, mu_s, fun i hi => ?_, fun c hc => ?_, Or.inr (Or.inr ⟨by omega, by omega, k4.1, k4.2, fun _ => ?_⟩)⟩, ⟨?_, ?_, Or.inr (Or.inr (Or.inr (Or.inl ⟨b p, cm, rfl, mu_s, ?_⟩)))⟩⟩
      · rw [isW_no (by rw [f4]; exact n31), if_neg (by have := (w_map i hi).1; omega)]
      · rw [sgn c hc]
        by_cases q : b p = c
        · rw [if_pos q, if_pos (by omega)]
        · rw [if_neg q, if_neg (by omega)]
      · rw [f7, Nat.add_sub_cancel_left]
        exact (sig_is (b p) hb (b p) z1).mpr rfl
      · rw [mu_i (by omega)]; exact g15
      · rw [mu_i (by omega), mu_i (by omega), mu_s]
      · rw [mu_i (by omega), mu_s]
    · rw [if_neg cm, if_pos rfl] at er
      refine ⟨1, p, p + 1, _, _, p1, by omega, by omega, fun _ => by omega, fun q => by omega, ea, er, ⟨f5, mu_s, fun i hi => ?_, fun c hc => ?_, Or.inr (Or.inr ⟨by omega, by omega, k4.1, k4.2, fun q => by omega⟩)⟩, ⟨g15, ?_, Or.inr (Or.inl ⟨rfl, g16⟩)⟩⟩
      · rw [isW_no (by rw [f4]; exact n31), if_neg (by have := (w_map i hi).1; omega)]
      · rw [sgn c hc, if_neg (show ¬ 1 = 100 + c by omega)]
        by_cases q : b p = c
        · rw [q] at cm; exact absurd hc cm
        · rw [if_neg q]
      · rw [mu_i (by omega), mu_s]
