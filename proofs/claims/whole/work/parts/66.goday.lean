/-! ===== a day ===== -/
theorem jmax_gr (y : Int32) : jmax 0 y = fX12_greater 0 y := by
  unfold jmax fX12_greater
  by_cases c : 0 < y
  · rw [if_pos c, if_pos (by rw [fa_le]; rw [fa_lt] at c; omega)]
  · rw [if_neg c]
    by_cases d : 0 ≤ y
    · rw [if_pos d]
      exact (fa_eq _ _).mpr (by rw [fa_le] at d; rw [fa_lt] at c; omega)
    · rw [if_neg d]
section GODAY
variable {k n0 P B : Nat} {th : Bool} {Mc0 Mm0 Mc Mm : Mem}
theorem open_eq (h0 : D0 k th P B Mc0 Mm0) (h : DR k th n0 Mc0 Mm0 Mc Mm) {b : Nat} (hb : b < B) : fX9_isOpen k (nI b) Mc = if Mm 199 (69 + b) = 0 then some 1 else some 0 := by
  obtain ⟨hT, hF, hB, -⟩ := D0_ask h0 h
  have hB14 := hB.2.1
  have hk := h0.1
  unfold fX9_isOpen
  rw [hasB_nI hF hB hb, if_neg one_ne, rd_nI (by omega), Option.bind_some, (hT.2.2.1 b (by omega)).2.2]
theorem away_eq (h0 : D0 k th P B Mc0 Mm0) (h : DR k th n0 Mc0 Mm0 Mc Mm) {b : Nat} (hb : b < B) (ho : Mm 199 (69 + b) = 0) : ∃ Mc' Mm', fX0_blurAway k (nI b) (thI th) Mc = some Mc' ∧ fX12_isBlurred (nI b) Mm = some Mm' ∧ DR k th n0 Mc0 Mm0 Mc' Mm' := by
  obtain ⟨hT, hF, hB, -⟩ := D0_ask h0 h
  have hB14 := hB.2.1
  have hk := h0.1
  obtain ⟨t1, t2, t3⟩ := hT.2.2.1 b (by omega)
  obtain ⟨z, z1, z2⟩ := hT.2.2.2 b (by omega)
  obtain ⟨Mc1, Mm1, n1, n2, n3, -, -⟩ := DR_note h0 h 3 (nI b) (fJ6_bitCount_0f7a4 (nI z))
  have n1 : fX0_note k 3 (nI b) (fJ6_bitCount_0f7a4 (nI z)) (thI th) Mc = some Mc1 := n1
  have d1 := DR_clear h0 n3 (j := b) (by omega) 0
  have d2 := DR_is h0 d1 (j := b) (by omega) 2
  have d3 := DR_said h0 d2 (j := b) (by omega) 0 ⟨0, by omega, rfl⟩
  refine ⟨_, _, ?_, ?_, d3⟩
  · unfold fX0_blurAway
    rw [open_eq h0 h hb, if_pos ho, Option.bind_some, if_neg one_ne, rd_nI (by omega), t2, z2, Option.bind_some, n1, Option.bind_some, wr_nI (by omega), Option.bind_some, wr_nI (by omega), Option.bind_some, wr_nI (by omega), Option.bind_some]
  · unfold fX12_isBlurred
    rw [ladd 55 b, rd_nI (by omega), z2, Option.bind_some, ones_bc (by omega), Option.bind_some, n2, Option.bind_some, ladd 41 b, wr_nI (by omega), Option.bind_some, ladd 69 b, wr_nI (by omega), Option.bind_some, wr_nI (by omega), Option.bind_some]
theorem clear_eq (h0 : D0 k th P B Mc0 Mm0) (h : DR k th n0 Mc0 Mm0 Mc Mm) {b : Nat} (hb : b < B) : ∃ Mc' Mm', fX9_makeClear k (nI b) Mc = some Mc' ∧ fX12_isCleared (nI b) Mm = some Mm' ∧ DR k th n0 Mc0 Mm0 Mc' Mm' := by
  obtain ⟨hT, hF, hB, -⟩ := D0_ask h0 h
  have hB14 := hB.2.1
  have hk := h0.1
  obtain ⟨t1, t2, t3⟩ := hT.2.2.1 b (by omega)
  unfold fX9_makeClear fX9_canClear fX12_isCleared
  rw [hasB_nI hF hB hb, if_neg one_ne, rd_nI (by omega), Option.bind_some, t3, ladd 69 b, rd_nI (by omega), Option.bind_some]
  by_cases c : Mm 199 (69 + b) = 1
  · rw [if_pos c, if_pos c]
    exact ⟨Mc, Mm, rfl, rfl, h⟩
  · have d1 := DR_clear h0 h (j := b) (by omega) 9
    have d2 := DR_is h0 d1 (j := b) (by omega) 0
    rw [if_neg c, if_neg c, Option.bind_some, if_neg one_ne, wr_nI (by omega), Option.bind_some, wr_nI (by omega), Option.bind_some, ladd 41 b, wr_nI (by omega), Option.bind_some, wr_nI (by omega), Option.bind_some]
    exact ⟨_, _, rfl, rfl, d2⟩
theorem bl_loop (h0 : D0 k th P B Mc0 Mm0) : ∀ (m F b : Nat) (Mc Mm : Mem), b + m = B → m < F → DR k th n0 Mc0 Mm0 Mc Mm → ∃ Mc' Mm', DR k th n0 Mc0 Mm0 Mc' Mm' ∧ (∀ K, fX0_goDay_L116 K k (thI th) F (nI b) Mc = K Mc') ∧ ∀ K, fX12_goesBy_L127 K F (nI b) Mm = K Mm'
  | m, 0, b, Mc, Mm, _, h, _ => by omega
  | m, F + 1, b, Mc, Mm, h1, h2, h => by
    have hA := D0_ask h0 h
    obtain ⟨hT, hF, hB, -⟩ := id hA
    have hB14 := hB.2.1
    have hk := h0.1
    have mB : Mm 198 7 = nI B := hB.2.2.2.1
    have cB : Mc k 5 = nI B := hF.2.1.trans mB
    cases m with
    | zero =>
      have c : nI B ≤ nI b := nI_le (by omega) (by omega)
      exact ⟨Mc, Mm, h, fun K => by rw [fX0_goDay_L116, cB, if_pos c], fun K => by rw [fX12_goesBy_L127, mB, if_pos c]⟩
    | succ m =>
      have c : ¬ nI B ≤ nI b := nI_ge (by omega) (by omega)
      have hb : b < B := by omega
      have key : ∃ Mc1 Mm1, DR k th n0 Mc0 Mm0 Mc1 Mm1 ∧ fX0_blurSome k (nI b) (thI th) Mc = some Mc1 ∧ ∀ K, fX12_goesBy_L127 K (F + 1) (nI b) Mm = fX12_goesBy_L127 K F (nI (b + 1)) Mm1 := by
        unfold fX0_blurSome
        rw [open_eq h0 h hb]
        by_cases c1 : Mm 199 (69 + b) = 0
        · obtain ⟨x, Mc1, Mm1, x1, x2, x3, x4, x5⟩ := ask_blurs hk hA hb
          have d1 := DR_scr h0 h x2 x3
          obtain ⟨t1, t2, t3⟩ := hT.2.2.1 b (by omega)
          have e199 : Mm1 199 = Mm 199 := funext fun i => x3 199 i (by decide) (by simp)
          have e7 : Mc1 (k + 7) b = Mm 199 (41 + b) := by rw [(d1.2.2.1.2.2.1 b (by omega)).1, e199]
          have d2 := DR_clear h0 d1 (j := b) (by omega) (fX12_greater 0 (Mm 199 (41 + b) - nI x))
          rw [if_pos c1, Option.bind_some, if_neg one_ne, x4, Option.bind_some]
          dsimp only
          rw [rd_nI (by omega), e7, Option.bind_some, jmax_gr, wr_nI (by omega), Option.bind_some, rd_nI (by omega), mu_s, Option.bind_some]
          have st : ∀ K, fX12_goesBy_L127 K (F + 1) (nI b) Mm = if fX12_greater 0 (Mm 199 (41 + b) - nI x) = 0 then (fX12_isBlurred (nI b) (mu Mm1 199 (41 + b) (fX12_greater 0 (Mm 199 (41 + b) - nI x)))).bind fun M30 => fX12_goesBy_L127 K F (nI (b + 1)) M30 else fX12_goesBy_L127 K F (nI (b + 1)) (mu Mm1 199 (41 + b) (fX12_greater 0 (Mm 199 (41 + b) - nI x))) := fun K => by
            rw [fX12_goesBy_L127, mB, if_neg c, ladd 69 b, rd_nI (by omega), Option.bind_some]
            dsimp only [jn]
            rw [if_pos c1, ladd 41 b, rd_nI (by omega), Option.bind_some, x5, Option.bind_some, wr_nI (by omega), Option.bind_some, rd_nI (by omega), mu_s, Option.bind_some, nI_1]
          by_cases c2 : fX12_greater 0 (Mm 199 (41 + b) - nI x) = 0
          · have o2 : mu Mm1 199 (41 + b) (fX12_greater 0 (Mm 199 (41 + b) - nI x)) 199 (69 + b) = 0 := by rw [mu_i (by omega), e199]; exact c1
            obtain ⟨Mc2, Mm2, y1, y2, y3⟩ := away_eq h0 d2 hb o2
            refine ⟨Mc2, Mm2, y3, ?_, fun K => ?_⟩
            · rw [if_pos c2, y1]; rfl
            · rw [st, if_pos c2, y2]; rfl
          · refine ⟨_, _, d2, ?_, fun K => ?_⟩
            · rw [if_neg c2]
            · rw [st, if_neg c2]
        · refine ⟨Mc, Mm, h, ?_, fun K => ?_⟩
          · rw [if_neg c1, Option.bind_some, if_pos rfl]
          · rw [fX12_goesBy_L127, mB, if_neg c, ladd 69 b, rd_nI (by omega), Option.bind_some]
            dsimp only [jn]
            rw [if_neg c1, nI_1]
      obtain ⟨Mc1, Mm1, d1, d2, d3⟩ := key
      obtain ⟨Mc2, Mm2, e1, e2, e3⟩ := bl_loop h0 m F (b + 1) Mc1 Mm1 (by omega) (by omega) d1
      refine ⟨Mc2, Mm2, e1, fun K => ?_, fun K => ?_⟩
      · rw [fX0_goDay_L116, cB, if_neg c, d2, Option.bind_some, nI_1, e2]
      · rw [d3, e3]
theorem even_eq (h0 : D0 k th P B Mc0 Mm0) (h : DR k th n0 Mc0 Mm0 Mc Mm) {i n : Nat} (hn : n ≤ 16) (hi : i < n) (hx : ∃ x, Mc 32 i = nI x ∧ Mm 217 (4 * i + 1) = nI x ∧ ((x ≤ 1 ∧ Mc 34 i = Mm 217 (4 * i + 2)) ∨ (x = 2 ∧ ∃ b, b < B ∧ Mc 33 i = nI b ∧ Mm 217 (4 * i + 2) = nI b) ∨ (x = 3 ∧ ∃ p, p < P ∧ Mc 33 i = nI p ∧ Mm 217 (4 * i + 2) = nI p ∧ Mc 34 i = Mm 217 (4 * i + 3)))) : ∃ Mc' Mm', fX0_tellEvening k (nI i) Mc = some Mc' ∧ fX12_comes (nI (4 * i)) Mm = some Mm' ∧ DR k th n0 Mc0 Mm0 Mc' Mm' := by
  obtain ⟨hT, hF, hB, -⟩ := D0_ask h0 h
  have hP12 := hB.1
  have hk := h0.1
  obtain ⟨x, x1, x2, x3⟩ := hx
  have w3 : ∀ (M : Mem) (v : Int32), wr M 199 83 3 v = some (mu M 199 3 v) := fun M v => wr_nI (j := 3) (by omega)
  have w4 : ∀ (M : Mem) (v : Int32), wr M 199 83 4 v = some (mu M 199 4 v) := fun M v => wr_nI (j := 4) (by omega)
  have ec : fX0_tellEvening k (nI i) Mc = swt (nI x) 0 [some (mu Mc k 1 (Mc 34 i)), some (mu Mc k 2 (Mc 34 i)), (fX9_makeClear k (Mc 33 i) Mc).bind fun M6 => some M6] (if (fX9_hasPerson k (Mc 33 i) Mc) = 0 then (some Mc) else ((wr Mc (k + 1) 12 (Mc 33 i) (Mc 34 i)).bind fun M7 => some M7)) := by
    unfold fX0_tellEvening
    rw [rd_nI (by omega), Option.bind_some, rd_nI (by omega), Option.bind_some, rd_nI (by omega), Option.bind_some, x1]
    rfl
  have em : fX12_comes (nI (4 * i)) Mm = (rd Mm 217 128 (nI (4 * i + 1))).bind fun v1 => (rd Mm 217 128 (nI (4 * i + 2))).bind fun v2 => jn (fun (M4 : Mem) => jn (fun (M6 : Mem) => jn (fun (M8 : Mem) => if v1 = 3 then ((rd M8 217 128 (nI (4 * i + 3))).bind fun v9 => (wr M8 199 83 (5 + v2) v9).bind fun M10 => some M10) else (some M8)) fun (J7 : (Mem) → Option (Mem)) => if v1 = 2 then ((fX12_isCleared v2 M6).bind fun M11 => J7 M11) else (J7 M6)) fun (J5 : (Mem) → Option (Mem)) => if v1 = 1 then ((wr M4 199 83 4 v2).bind fun M12 => J5 M12) else (J5 M4)) fun (J3 : (Mem) → Option (Mem)) => if v1 = 0 then ((wr Mm 199 83 3 v2).bind fun M13 => J3 M13) else (J3 Mm) := by
    unfold fX12_comes
    rw [nI_1, addl (4 * i) 2, addl (4 * i) 3]
  rw [rd_nI (by omega), x2, Option.bind_some, rd_nI (by omega), Option.bind_some] at em
  dsimp only [jn] at em
  rw [ec, em]
  rcases x3 with ⟨x4, x5⟩ | ⟨rfl, b, b1, b2, b3⟩ | ⟨rfl, p, p1, p2, p3, p4⟩
  · rcases (show x = 0 ∨ x = 1 by omega) with rfl | rfl
    · have n0' : nI 0 = (0 : Int32) := rfl
      have n1 : ¬ nI 0 = (1 : Int32) := by decide
      have n2 : ¬ nI 0 = (2 : Int32) := by decide
      have n3 : ¬ nI 0 = (3 : Int32) := by decide
      rw [if_pos n0', w3, Option.bind_some, if_neg n1, if_neg n2, if_neg n3, x5]
      exact ⟨_, _, rfl, rfl, DR_ale h0 h _⟩
    · have n0' : ¬ nI 1 = (0 : Int32) := by decide
      have n1 : nI 1 = (1 : Int32) := rfl
      have n2 : ¬ nI 1 = (2 : Int32) := by decide
      have n3 : ¬ nI 1 = (3 : Int32) := by decide
      rw [if_neg n0', if_pos n1, w4, Option.bind_some, if_neg n2, if_neg n3, x5]
      exact ⟨_, _, rfl, rfl, DR_noise h0 h _⟩
  · have n0' : ¬ nI 2 = (0 : Int32) := by decide
    have n1 : ¬ nI 2 = (1 : Int32) := by decide
    have n2 : nI 2 = (2 : Int32) := rfl
    have n3 : ¬ nI 2 = (3 : Int32) := by decide
    obtain ⟨Mc1, Mm1, y1, y2, y3⟩ := clear_eq h0 h b1
    rw [if_neg n0', if_neg n1, if_pos n2, b3, y2, Option.bind_some, if_neg n3]
    refine ⟨Mc1, Mm1, ?_, rfl, y3⟩
    rw [b2, y1]; rfl
  · have n0' : ¬ nI 3 = (0 : Int32) := by decide
    have n1 : ¬ nI 3 = (1 : Int32) := by decide
    have n2 : ¬ nI 3 = (2 : Int32) := by decide
    have n3 : nI 3 = (3 : Int32) := rfl
    rw [if_neg n0', if_neg n1, if_neg n2, if_pos n3, p3, rd_nI (by omega), Option.bind_some, ladd 5 p, wr_nI (by omega), Option.bind_some]
    refine ⟨_, _, ?_, rfl, DR_lips h0 h (j := p) (by omega) (Mm 217 (4 * i + 3))⟩
    show (if (fX9_hasPerson k (Mc 33 i) Mc) = 0 then (some Mc) else ((wr Mc (k + 1) 12 (Mc 33 i) (Mc 34 i)).bind fun M7 => some M7)) = _
    rw [p2, hasP_nI hF hB p1, if_neg one_ne, wr_nI (by omega), p4]; rfl
theorem ev_days (h0 : D0 k th P B Mc0 Mm0) {n : Nat} (hn : n ≤ 16) (hN : Mm0 198 37 = nI n) : ∀ (m F i : Nat) (Mc Mm : Mem), i + m = n → m < F → DR k th n0 Mc0 Mm0 Mc Mm → ∃ Mc' Mm', DR k th n0 Mc0 Mm0 Mc' Mm' ∧ (∀ K, fX0_goDay_L2 K k F (nI i) Mc = K Mc') ∧ ∀ K, fX12_goesBy_L2 K F (nI (4 * i)) Mm = K Mm'
  | m, 0, i, Mc, Mm, _, h, _ => by omega
  | m, F + 1, i, Mc, Mm, h1, h2, h => by
    have hk := h0.1
    obtain ⟨-, n', a1, a2, a3, a4⟩ := D0_tw h0 h
    have m198 := (D0_m h).2.2.2
    have a2 : Mc 30 0 = nI n' := a2
    have en : n' = n := by
      rw [m198, hN] at a3
      exact ((nI_eqb (by omega) (by omega)).mp a3).symm
    subst en
    cases m with
    | zero =>
      have c : nI n' ≤ nI i := nI_le (by omega) (by omega)
      have c4 : nI (4 * n') ≤ nI (4 * i) := nI_le (by omega) (by omega)
      exact ⟨Mc, Mm, h, fun K => by rw [fX0_goDay_L2, a2, if_pos c], fun K => by rw [fX12_goesBy_L2, a3, lmul 4 n', if_pos c4]⟩
    | succ m =>
      have c : ¬ nI n' ≤ nI i := nI_ge (by omega) (by omega)
      have c4 : ¬ nI (4 * n') ≤ nI (4 * i) := nI_ge (by omega) (by omega)
      obtain ⟨b1, x, b2, b3, b4⟩ := a4 i (by omega)
      have b1 : Mc 31 i = Mm 217 (4 * i) := b1
      have ed : Mc k 3 = Mm 199 0 := h.2.2.1.1.2.2.2
      have r0 : rd Mm 199 83 0 = some (Mm 199 0) := rd_nI (j := 0) (by omega)
      have e4 : nI (4 * i) + 4 = nI (4 * (i + 1)) := by rw [addl (4 * i) 4]; rfl
      have sc : ∀ K, fX0_goDay_L2 K k (F + 1) (nI i) Mc = if Mm 217 (4 * i) = Mm 199 0 then (fX0_tellEvening k (nI i) Mc).bind fun M4 => fX0_goDay_L2 K k F (nI (i + 1)) M4 else fX0_goDay_L2 K k F (nI (i + 1)) Mc := fun K => by
        rw [fX0_goDay_L2, a2, if_neg c, rd_nI (by omega), Option.bind_some, b1, ed]
        dsimp only [jn]
        rw [nI_1]
      have sm : ∀ K, fX12_goesBy_L2 K (F + 1) (nI (4 * i)) Mm = if Mm 217 (4 * i) = Mm 199 0 then (fX12_comes (nI (4 * i)) Mm).bind fun M6 => fX12_goesBy_L2 K F (nI (4 * (i + 1))) M6 else fX12_goesBy_L2 K F (nI (4 * (i + 1))) Mm := fun K => by
        rw [fX12_goesBy_L2, a3, lmul 4 n', if_neg c4, rd_nI (by omega), Option.bind_some, r0, Option.bind_some]
        dsimp only [jn, bnd]
        rw [e4]
      by_cases d : Mm 217 (4 * i) = Mm 199 0
      · obtain ⟨Mc1, Mm1, y1, y2, y3⟩ := even_eq h0 h a1 (show i < n' by omega) ⟨x, b2, b3, b4⟩
        obtain ⟨Mc2, Mm2, z1, z2, z3⟩ := ev_days h0 hn hN m F (i + 1) Mc1 Mm1 (by omega) (by omega) y3
        exact ⟨Mc2, Mm2, z1, fun K => by rw [sc, if_pos d, y1, Option.bind_some, z2], fun K => by rw [sm, if_pos d, y2, Option.bind_some, z3]⟩
      · obtain ⟨Mc2, Mm2, z1, z2, z3⟩ := ev_days h0 hn hN m F (i + 1) Mc Mm (by omega) (by omega) h
        exact ⟨Mc2, Mm2, z1, fun K => by rw [sc, if_neg d, z2], fun K => by rw [sm, if_neg d, z3]⟩
theorem tw_days (h0 : D0 k th P B Mc0 Mm0) {n : Nat} (hn : n ≤ 16) (hN : Mm0 198 35 = nI n) : ∀ (m F i : Nat) (a : Int32) (Mc Mm : Mem), i + m = n → m < F → DR k th n0 Mc0 Mm0 Mc Mm → ∃ a' Mc' Mm', DR k th n0 Mc0 Mm0 Mc' Mm' ∧ (∀ K, fX0_goDay_L46 K k (thI th) F a (nI i) Mc = K a' Mc') ∧ ∀ K, fX12_goesBy_L43 K F a (nI (3 * i)) Mm = K a' Mm'
  | m, 0, i, a, Mc, Mm, _, h, _ => by omega
  | m, F + 1, i, a, Mc, Mm, h1, h2, h => by
    have hk := h0.1
    obtain ⟨⟨n', a1, a2, a3, a4⟩, -⟩ := D0_tw h0 h
    have m198 := (D0_m h).2.2.2
    have a2 : Mc 25 0 = nI n' := a2
    have en : n' = n := by
      rw [m198, hN] at a3
      exact ((nI_eqb (by omega) (by omega)).mp a3).symm
    subst en
    cases m with
    | zero =>
      have c : nI n' ≤ nI i := nI_le (by omega) (by omega)
      have c4 : nI (3 * n') ≤ nI (3 * i) := nI_le (by omega) (by omega)
      exact ⟨a, Mc, Mm, h, fun K => by rw [fX0_goDay_L46, a2, if_pos c], fun K => by rw [fX12_goesBy_L43, a3, lmul 3 n', if_pos c4]⟩
    | succ m =>
      have c : ¬ nI n' ≤ nI i := nI_ge (by omega) (by omega)
      have c4 : ¬ nI (3 * n') ≤ nI (3 * i) := nI_ge (by omega) (by omega)
      obtain ⟨b, s, hb, hs, b1, b2, b3, b4, b5⟩ := a4 i (by omega)
      have b1 : Mc 26 i = Mm 216 (3 * i) := b1
      have b2 : Mc 28 i = nI b := b2
      have b4 : Mc 27 i = nI s := b4
      have ed : Mc k 3 = Mm 199 0 := h.2.2.1.1.2.2.2
      have r0 : rd Mm 199 83 0 = some (Mm 199 0) := rd_nI (j := 0) (by omega)
      have e4 : nI (3 * i) + 3 = nI (3 * (i + 1)) := by rw [addl (3 * i) 3]; rfl
      have sc : ∀ K, fX0_goDay_L46 K k (thI th) (F + 1) a (nI i) Mc = if Mm 216 (3 * i) = Mm 199 0 then (fX0_twist k (nI b) (nI s) (thI th) Mc).bind fun r12 => if r12.1 = 0 then fX0_goDay_L46 K k (thI th) F a (nI (i + 1)) r12.2 else fX0_goDay_L46 K k (thI th) F (a + 1) (nI (i + 1)) r12.2 else fX0_goDay_L46 K k (thI th) F a (nI (i + 1)) Mc := fun K => by
        rw [fX0_goDay_L46, a2, if_neg c, rd_nI (by omega), Option.bind_some, b1, ed]
        dsimp only [jn]
        rw [rd_nI (by omega), b2, Option.bind_some, rd_nI (by omega), b4, Option.bind_some, nI_1]
      have sm : ∀ K, fX12_goesBy_L43 K (F + 1) a (nI (3 * i)) Mm = if Mm 216 (3 * i) = Mm 199 0 then (fX12_canHop (nI b) (nI s) Mm).bind fun v16 => if v16 = 0 then fX12_goesBy_L43 K F a (nI (3 * (i + 1))) Mm else (fX12_hopsOver (nI b) (nI s) Mm).bind fun r19 => if r19.1 = 0 then fX12_goesBy_L43 K F a (nI (3 * (i + 1))) r19.2 else fX12_goesBy_L43 K F (a + 1) (nI (3 * (i + 1))) r19.2 else fX12_goesBy_L43 K F a (nI (3 * (i + 1))) Mm := fun K => by
        have r1 : rd Mm 216 96 (nI (3 * i) + 1) = some (nI b) := by rw [nI_1, rd_nI (by omega), b3]
        have r2 : rd Mm 216 96 (nI (3 * i) + 2) = some (nI s) := by rw [addl (3 * i) 2, rd_nI (by omega), b5]
        rw [fX12_goesBy_L43, a3, lmul 3 n', if_neg c4, rd_nI (by omega), Option.bind_some, r0, Option.bind_some]
        dsimp only [jn, bnd]
        rw [r1, r2]
        simp only [Option.bind_some]
        rw [e4]
      by_cases d : Mm 216 (3 * i) = Mm 199 0
      · obtain ⟨cc, hc, y1, y2, y3⟩ := tw_all h0 h hb hs
        rcases hc with rfl | rfl
        · have y2 := y2 rfl
          obtain ⟨a', Mc2, Mm2, z1, z2, z3⟩ := tw_days h0 hn hN m F (i + 1) a Mc Mm (by omega) (by omega) h
          exact ⟨a', Mc2, Mm2, z1, fun K => by rw [sc, if_pos d, y2, Option.bind_some, if_pos rfl, z2], fun K => by rw [sm, if_pos d, y1, Option.bind_some, if_pos rfl, z3]⟩
        · obtain ⟨r, Mc1, Mm1, r1, r2, r3, r4⟩ := y3 rfl
          rcases r1 with rfl | rfl
          · obtain ⟨a', Mc2, Mm2, z1, z2, z3⟩ := tw_days h0 hn hN m F (i + 1) a Mc1 Mm1 (by omega) (by omega) r4
            exact ⟨a', Mc2, Mm2, z1, fun K => by rw [sc, if_pos d, r2, Option.bind_some, if_pos rfl, z2], fun K => by rw [sm, if_pos d, y1, Option.bind_some, if_neg one_ne, r3, Option.bind_some, if_pos rfl, z3]⟩
          · obtain ⟨a', Mc2, Mm2, z1, z2, z3⟩ := tw_days h0 hn hN m F (i + 1) (a + 1) Mc1 Mm1 (by omega) (by omega) r4
            exact ⟨a', Mc2, Mm2, z1, fun K => by rw [sc, if_pos d, r2, Option.bind_some, if_neg one_ne, z2], fun K => by rw [sm, if_pos d, y1, Option.bind_some, if_neg one_ne, r3, Option.bind_some, if_neg one_ne, z3]⟩
      · obtain ⟨a', Mc2, Mm2, z1, z2, z3⟩ := tw_days h0 hn hN m F (i + 1) a Mc Mm (by omega) (by omega) h
        exact ⟨a', Mc2, Mm2, z1, fun K => by rw [sc, if_neg d, z2], fun K => by rw [sm, if_neg d, z3]⟩
theorem day_eq (h0 : D0 k th P B Mc0 Mm0) (h : DR k th n0 Mc0 Mm0 Mc Mm) : ∃ a Mc' Mm', DR k th n0 Mc0 Mm0 Mc' Mm' ∧ fX0_goDay k (thI th) Mc = some (a, Mc') ∧ fX12_goesBy Mm = some (a, Mm') := by
  obtain ⟨hk, -, hB, -, ⟨n1, b1, b2, b3, -⟩, ⟨n2, c1, c2, c3, -⟩, -⟩ := id h0
  obtain ⟨Mc1, Mm1, d1, d2, d3⟩ := ev_days h0 c1 c3 n2 FU 0 Mc Mm (by omega) (FU_gt (by omega)) h
  obtain ⟨a, Mc2, Mm2, e1, e2, e3⟩ := tw_days h0 b1 b3 n1 FU 0 0 Mc1 Mm1 (by omega) (FU_gt (by omega)) d1
  obtain ⟨Mc3, Mm3, f1, f2, f3⟩ := bl_loop h0 B FU 0 Mc2 Mm2 (by omega) (FU_gt (by have := hB.2.1; omega)) e1
  have ed : Mc3 k 3 = Mm3 199 0 := f1.2.2.1.1.2.2.2
  have r0 : rd Mm3 199 83 0 = some (Mm3 199 0) := rd_nI (j := 0) (by omega)
  have w0 : ∀ v, wr Mm3 199 83 0 v = some (mu Mm3 199 0 v) := fun v => wr_nI (j := 0) (by omega)
  have f4 := DR_day h0 f1 (Mm3 199 0 + 1)
  rw [Nat.mul_zero, nI_0] at d3 e3
  rw [nI_0] at d2 e2 f2 f3
  refine ⟨a, _, _, f4, ?_, ?_⟩
  · unfold fX0_goDay
    rw [d2, e2, f2, bnd_eq, ed]
  · unfold fX12_goesBy
    rw [d3, e3, f3, r0, Option.bind_some, w0, Option.bind_some]
end GODAY
