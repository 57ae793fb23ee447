/-! ===== the law's loop ===== -/
def okE (E : Option (Int32 × Mem)) : Prop := ∃ M', E = some (1, M')
section LAWL
theorem ok_sm {F1 F2 : Mem → Option (Int32 × Mem)} {S1 S2 : List (Nat × Option Nat)} (h : Sm F1 F2) (w1 : ∀ M, Fr S1 rmW M (F1 M)) (w2 : ∀ M, Fr S2 rmW M (F2 M)) (d1 : dj S1 fmAll = true) (d2 : dj S2 fcAll = true) {M : Mem} (hA : AR M M) {J : Mem → Option (Int32 × Mem)} (hJ : ∀ M, AR M M → okE (J M)) : okE ((F1 M).bind fun r5 => (F2 r5.2).bind fun r7 => if r5.1 = r7.1 then J r7.2 else some (0, r7.2)) := by
  obtain ⟨r, M1, M2, e1, e2, hA2⟩ := h.step w1 w2 d1 d2 hA
  rw [e1, Option.bind_some]
  dsimp only
  rw [e2, Option.bind_some, if_pos rfl]
  exact hJ M2 hA2
theorem ok_smp {f1 : Mem → Option Int32} {F2 : Mem → Option (Int32 × Mem)} {S2 : List (Nat × Option Nat)} (h : SmP f1 F2) (w2 : ∀ M, Fr S2 rmW M (F2 M)) (d2 : dj S2 fcAll = true) {M : Mem} (hA : AR M M) {J : Mem → Option (Int32 × Mem)} (hJ : ∀ M, AR M M → okE (J M)) : okE ((f1 M).bind fun v => (F2 M).bind fun r7 => if v = r7.1 then J r7.2 else some (0, r7.2)) := by
  obtain ⟨r, M2, e1, e2, hA2⟩ := h.step w2 d2 hA
  rw [e1, Option.bind_some, e2, Option.bind_some, if_pos rfl]
  exact hJ M2 hA2
theorem ok_swt : ∀ {x lo : Int32} {Es : List (Option (Int32 × Mem))} {Ed : Option (Int32 × Mem)}, (∀ E ∈ Es, okE E) → okE Ed → okE (swt x lo Es Ed)
  | x, lo, [], Ed, _, h => h
  | x, lo, E :: Es, Ed, h1, h2 => by
    unfold swt
    split
    · exact h1 E (List.mem_cons_self ..)
    · exact ok_swt (fun E' h => h1 E' (List.mem_cons_of_mem _ h)) h2
theorem ok_all {E : Option (Int32 × Mem)} {Es : List (Option (Int32 × Mem))} (h : okE E) (hs : ∀ E ∈ Es, okE E) : ∀ E' ∈ E :: Es, okE E' := fun E' hE => (List.mem_cons.mp hE).elim (fun q => q ▸ h) (hs E')
theorem law_ok (g : G) (hg : gL g < 2 ^ 31) : ∀ (F j : Nat) (M : Mem), 6 * j ≤ gL g → gL g - 6 * j < 6 * F → AR M M → okE (fL_law_L18 g F (nI (6 * j)) M)
  | 0, j, M, _, h, _ => absurd h (by omega)
  | F + 1, j, M, h1, h2, hA => by
    rw [fL_law_L18]
    by_cases c : nI (gL g) - 6 < nI (6 * j)
    · rw [if_pos c]; exact ⟨M, rfl⟩
    · have h6 : 6 * j + 6 ≤ gL g := by
        by_cases q : gL g < 6
        · refine absurd (Int32.lt_iff_toInt_lt.mpr ?_) c
          rw [nI_toInt (by omega)]
          have t : ∀ m, m < 6 → (nI m - 6 : Int32).toInt < 0 := by decide
          have := t (gL g) q
          omega
        · have e6 : nI (gL g) - 6 = nI (gL g - 6) := by
            have := nI_add (gL g - 6) 6
            rw [show gL g - 6 + 6 = gL g by omega] at this
            rw [← this]
            show nI (gL g - 6) + 6 - 6 = nI (gL g - 6)
            exact Int32.add_sub_cancel _ _
          rw [e6] at c
          by_cases x : gL g - 6 < 6 * j
          · exact absurd (nI_lt x (by omega)) c
          · omega
      have e0 : rdf (gx g) (gL g) (nI (6 * j)) = some (gx g (6 * j)) := rdf_nI (by omega) hg
      have e1 : rdf (gx g) (gL g) (nI (6 * j) + 1) = some (gx g (6 * j + 1)) := by rw [show nI (6 * j) + 1 = nI (6 * j + 1) from nI_add _ 1]; exact rdf_nI (by omega) hg
      have e2 : rdf (gx g) (gL g) (nI (6 * j) + 2) = some (gx g (6 * j + 2)) := by rw [show nI (6 * j) + 2 = nI (6 * j + 2) from nI_add _ 2]; exact rdf_nI (by omega) hg
      have e3 : rdf (gx g) (gL g) (nI (6 * j) + 3) = some (gx g (6 * j + 3)) := by rw [show nI (6 * j) + 3 = nI (6 * j + 3) from nI_add _ 3]; exact rdf_nI (by omega) hg
      have e4 : rdf (gx g) (gL g) (nI (6 * j) + 4) = some (gx g (6 * j + 4)) := by rw [show nI (6 * j) + 4 = nI (6 * j + 4) from nI_add _ 4]; exact rdf_nI (by omega) hg
      have e5 : rdf (gx g) (gL g) (nI (6 * j) + 5) = some (gx g (6 * j + 5)) := by rw [show nI (6 * j) + 5 = nI (6 * j + 5) from nI_add _ 5]; exact rdf_nI (by omega) hg
      have hJ : ∀ M, AR M M → okE (fL_law_L18 g F (nI (6 * j) + 6) M) := fun M hM => by
        rw [show nI (6 * j) + 6 = nI (6 * (j + 1)) from nI_add _ 6]
        exact law_ok g hg F (j + 1) M (by omega) (by omega) hM
      rw [if_neg c, e0, Option.bind_some, jn_eq]
      refine ok_swt ?_ (hJ M hA)
      refine ok_all ?_ ?_
      · simp only [e1, e2, e3, e4, e5, Option.bind_some]
        exact ok_sm (s_state _) (wX11_state _) (wX12_state _) (by decide +kernel) (by decide +kernel) hA hJ
      refine ok_all ?_ ?_
      · simp only [e1, e2, e3, e4, e5, Option.bind_some]
        exact ok_sm (s_person _) (wX11_person _) (wX12_person _) (by decide +kernel) (by decide +kernel) hA hJ
      refine ok_all ?_ ?_
      · simp only [e1, e2, e3, e4, e5, Option.bind_some]
        exact ok_sm (s_bargain _ _ _) (wX11_bargain _ _ _) (wX12_bargain _ _ _) (by decide +kernel) (by decide +kernel) hA hJ
      refine ok_all ?_ ?_
      · simp only [e1, e2, e3, e4, e5, Option.bind_some]
        exact ok_sm (s_set _ _ _) (wX11_set _ _ _) (wX12_set _ _ _) (by decide +kernel) (by decide +kernel) hA hJ
      refine ok_all ?_ ?_
      · simp only [e1, e2, e3, e4, e5, Option.bind_some]
        exact ok_sm (s_act _ _) (wX11_act _ _) (wX12_act _ _) (by decide +kernel) (by decide +kernel) hA hJ
      refine ok_all ?_ ?_
      · simp only [e1, e2, e3, e4, e5, Option.bind_some]
        exact ok_sm (s_days _) (wX11_days _) (wX12_days _) (by decide +kernel) (by decide +kernel) hA hJ
      refine ok_all ?_ ?_
      · simp only [e1, e2, e3, e4, e5, Option.bind_some]
        exact ok_sm (s_feed _ _ _ _ _) (wX11_feed _ _ _ _ _) (wX12_feed _ _ _ _ _) (by decide +kernel) (by decide +kernel) hA hJ
      refine ok_all ?_ ?_
      · simp only [e1, e2, e3, e4, e5, Option.bind_some]
        exact ok_sm (s_end _) (wX11_end _) (wX12_end _) (by decide +kernel) (by decide +kernel) hA hJ
      refine ok_all ?_ ?_
      · simp only [e1, e2, e3, e4, e5, Option.bind_some]
        exact ok_sm (s_text _) (wX11_text _) (wX12_text _) (by decide +kernel) (by decide +kernel) hA hJ
      refine ok_all ?_ ?_
      · simp only [e1, e2, e3, e4, e5, Option.bind_some]
        exact ok_sm (s_fault _) (S1 := []) (fun M => fr_some rfl) (wX12_fault _) (by decide +kernel) (by decide +kernel) hA hJ
      refine ok_all ?_ ?_
      · simp only [e1, e2, e3, e4, e5, Option.bind_some]
        exact ok_smp (s_of _ _) (wX12_of _ _) (by decide +kernel) hA hJ
      refine ok_all ?_ ?_
      · simp only [e1, e2, e3, e4, e5, Option.bind_some]
        exact ok_sm (s_deal _ _) (wX11_deal _ _) (wX12_deal _ _) (by decide +kernel) (by decide +kernel) hA hJ
      refine ok_all ?_ ?_
      · simp only [e1, e2, e3, e4, e5, Option.bind_some]
        exact ok_smp (s_book _ _) (wX12_book _ _) (by decide +kernel) hA hJ
      refine ok_all ?_ ?_
      · simp only [e1, e2, e3, e4, e5, Option.bind_some]
        exact ok_sm (s_goes _ _) (wX11_goes _ _) (wX12_goes _ _) (by decide +kernel) (by decide +kernel) hA hJ
      refine ok_all ?_ ?_
      · simp only [e1, e2, e3, e4, e5, Option.bind_some]
        exact ok_sm (s_holds _) (wX11_holds _) (wX12_holds _) (by decide +kernel) (by decide +kernel) hA hJ
      refine ok_all ?_ ?_
      · simp only [e1, e2, e3, e4, e5, Option.bind_some]
        exact ok_smp (s_deals _ _) (wX12_deals _ _) (by decide +kernel) hA hJ
      refine ok_all ?_ ?_
      · simp only [e1, e2, e3, e4, e5, Option.bind_some]
        exact ok_sm (s_jump _) (wX11_jump _) (wX12_jump _) (by decide +kernel) (by decide +kernel) hA hJ
      refine ok_all ?_ ?_
      · simp only [e1, e2, e3, e4, e5, Option.bind_some]
        exact ok_sm (s_jumps _) (wX11_jumps _) (wX12_jumps _) (by decide +kernel) (by decide +kernel) hA hJ
      refine ok_all ?_ ?_
      · simp only [e1, e2, e3, e4, e5, Option.bind_some]
        exact ok_sm (s_walks _ _ _) (wX11_walks _ _ _) (wX12_walks _ _ _) (by decide +kernel) (by decide +kernel) hA hJ
      refine ok_all ?_ ?_
      · simp only [e1, e2, e3, e4, e5, Option.bind_some]
        exact ok_smp (s_apart _ _) (wX12_apart _ _) (by decide +kernel) hA hJ
      refine ok_all ?_ ?_
      · simp only [e1, e2, e3, e4, e5, Option.bind_some]
        exact ok_smp (s_corners _ _) (wX12_corners _ _) (by decide +kernel) hA hJ
      refine ok_all ?_ ?_
      · simp only [e1, e2, e3, e4, e5, Option.bind_some]
        exact ok_sm (s_parts _ _) (wX11_parts _ _) (wX12_parts _ _) (by decide +kernel) (by decide +kernel) hA hJ
      refine ok_all ?_ ?_
      · simp only [e1, e2, e3, e4, e5, Option.bind_some]
        exact ok_smp (s_lasts _ _) (wX12_lasts _ _) (by decide +kernel) hA hJ
      refine ok_all ?_ ?_
      · simp only [e1, e2, e3, e4, e5, Option.bind_some]
        exact ok_sm (s_turn _) (wX11_turn _) (wX12_turn _) (by decide +kernel) (by decide +kernel) hA hJ
      refine ok_all ?_ ?_
      · simp only [e1, e2, e3, e4, e5, Option.bind_some]
        exact ok_sm (s_turning _) (wX11_turning _) (wX12_turning _) (by decide +kernel) (by decide +kernel) hA hJ
      refine ok_all ?_ ?_
      · simp only [e1, e2, e3, e4, e5, Option.bind_some]
        exact ok_smp (s_ant _ _) (wX12_ant _ _) (by decide +kernel) hA hJ
      refine ok_all ?_ ?_
      · simp only [e1, e2, e3, e4, e5, Option.bind_some]
        exact ok_smp (s_row _ _ _) (wX12_row _ _ _) (by decide +kernel) hA hJ
      refine ok_all ?_ ?_
      · simp only [e1, e2, e3, e4, e5, Option.bind_some]
        exact ok_smp (s_own _ _) (wX12_own _ _) (by decide +kernel) hA hJ
      refine ok_all ?_ ?_
      · simp only [e1, e2, e3, e4, e5, Option.bind_some]
        exact ok_smp (s_round _ _ _ _) (wX12_round _ _ _ _) (by decide +kernel) hA hJ
      refine ok_all ?_ ?_
      · simp only [e1, e2, e3, e4, e5, Option.bind_some]
        exact ok_sm (s_nine _ _) (wX11_nine _ _) (wX12_nine _ _) (by decide +kernel) (by decide +kernel) hA hJ
      refine ok_all ?_ ?_
      · simp only [e1, e2, e3, e4, e5, Option.bind_some]
        exact ok_sm (s_even _) (wX11_even _) (wX12_even _) (by decide +kernel) (by decide +kernel) hA hJ
      refine ok_all ?_ ?_
      · simp only [e1, e2, e3, e4, e5, Option.bind_some]
        exact ok_sm (s_rule _ _) (wX11_rule _ _) (wX12_rule _ _) (by decide +kernel) (by decide +kernel) hA hJ
      refine ok_all ?_ ?_
      · simp only [e1, e2, e3, e4, e5, Option.bind_some]
        exact ok_sm (s_game _ _) (wX11_game _ _) (wX12_game _ _) (by decide +kernel) (by decide +kernel) hA hJ
      refine ok_all ?_ ?_
      · exact ok_sm s_undo wX11_undo wX12_undo (by decide +kernel) (by decide +kernel) hA hJ
      refine ok_all ?_ ?_
      · rw [e1, Option.bind_some, jn_eq]
        by_cases q : gx g (6 * j + 1) = 0
        · rw [if_pos q]
          dsimp only
          simp only [e1, Option.bind_some]
          simp only [jn, q, if_true]
          exact ok_sm (s_image 0 (Or.inl rfl)) (wX11_image 0) (wX12_image 0) (by decide +kernel) (by decide +kernel) hA hJ
        · rw [if_neg q]
          dsimp only
          simp only [e1, Option.bind_some]
          simp only [jn, q, if_false]
          exact ok_sm (s_image 1 (Or.inr rfl)) (wX11_image 1) (wX12_image 1) (by decide +kernel) (by decide +kernel) hA hJ
      refine ok_all ?_ ?_
      · simp only [e1, e2, e3, e4, e5, Option.bind_some]
        exact ok_smp (s_look _) (wX12_look _) (by decide +kernel) hA hJ
      exact fun E h => absurd h List.not_mem_nil
end LAWL
