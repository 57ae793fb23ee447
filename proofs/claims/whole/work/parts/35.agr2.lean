theorem mem_l {α : Type} {q : α} {A B : List α} (h : q ∈ A) : q ∈ A ++ B := List.mem_append_left _ h
theorem mem_r {α : Type} {q : α} {A B : List α} (h : q ∈ B) : q ∈ A ++ B := List.mem_append_right _ h
section AGR2
variable {S Sc Sm L : List (Nat × Option Nat)} {M M' Mc Mc' Mm Mm' : Mem}
abbrev ftPa : List (Nat × Option Nat) := [(105, some 0), (105, some 1), (107, none)] ++ ((ftTv 108 ++ ftFx 108) ++ ((ftTv 118 ++ ftFx 118) ++ ((ftTv 128 ++ ftFx 128) ++ ((ftTv 138 ++ ftFx 138) ++ ((ftTv 148 ++ ftFx 148) ++ (ftTv 158 ++ ftFx 158))))))
theorem ftPa_in {q : Nat} (hq : q < 6) : (∀ z ∈ ftTv (108 + 10 * q), z ∈ ftPa) ∧ ∀ z ∈ ftFx (108 + 10 * q), z ∈ ftPa := by
  rcases (show q = 0 ∨ q = 1 ∨ q = 2 ∨ q = 3 ∨ q = 4 ∨ q = 5 by omega) with rfl | rfl | rfl | rfl | rfl | rfl
  · exact ⟨fun z h => mem_r (mem_l (mem_l h)), fun z h => mem_r (mem_l (mem_r h))⟩
  · exact ⟨fun z h => mem_r (mem_r (mem_l (mem_l h))), fun z h => mem_r (mem_r (mem_l (mem_r h)))⟩
  · exact ⟨fun z h => mem_r (mem_r (mem_r (mem_l (mem_l h)))), fun z h => mem_r (mem_r (mem_r (mem_l (mem_r h))))⟩
  · exact ⟨fun z h => mem_r (mem_r (mem_r (mem_r (mem_l (mem_l h))))), fun z h => mem_r (mem_r (mem_r (mem_r (mem_l (mem_r h)))))⟩
  · exact ⟨fun z h => mem_r (mem_r (mem_r (mem_r (mem_r (mem_l (mem_l h)))))), fun z h => mem_r (mem_r (mem_r (mem_r (mem_r (mem_l (mem_r h))))))⟩
  · exact ⟨fun z h => mem_r (mem_r (mem_r (mem_r (mem_r (mem_r (mem_l h)))))), fun z h => mem_r (mem_r (mem_r (mem_r (mem_r (mem_r (mem_r h))))))⟩
theorem PaR_agr {N N' : Nat} (hN : N ≤ N') (hc : Agr Sc Mc Mc') (hm : Agr Sm Mm Mm') (dc : dj Sc ftPa = true) (dm : dj Sm ((198, some 3) :: (200, none) :: ftBd) = true) (h : PaR Mc Mm N) : PaR Mc' Mm' N' := by
  obtain ⟨n, x, hn, hx, h1, h2, h3, β, hβ, h4⟩ := h
  refine ⟨n, x, hn, hx, ?_, ?_, ?_, β, fun i hi => ⟨Nat.le_trans (hβ i hi).1 hN, (hβ i hi).2⟩, fun i hi => ?_⟩
  · rw [hc.f dc (by simp)]; exact h1
  · rw [hm.f dm (by simp)]; exact h2
  · rw [hc.f dc (by simp)]; exact h3
  · obtain ⟨a1, a2, a3, a4⟩ := h4 i hi
    have hq : (x + 6 - n + i) % 6 < 6 := Nat.mod_lt _ (by decide)
    rw [hm.c dm (a := 200) (by simp), hc.c dc (a := 107) (by simp)]
    exact ⟨Tv_agr hc (dj_sub dc (ftPa_in hq).1) a1, Fx_agr hc hm (dj_sub dc (ftPa_in hq).2) (dj_sub dm (fun q hq => List.mem_cons_of_mem _ (List.mem_cons_of_mem _ hq))) a2, a3, a4⟩
abbrev fcAll : List (Nat × Option Nat) := (0, some 2) :: (178, some 1) :: (178, some 2) :: (178, some 3) :: (179, none) :: (ftC 1 ++ (ftC 53 ++ (ftPa ++ ftCs)))
abbrev fmAll : List (Nat × Option Nat) := [(198, some 3), (198, some 5), (198, some 13), (198, some 33), (198, some 34), (198, some 35), (198, some 37), (198, some 39), (198, some 59), (199, none), (200, none), (205, none), (206, none), (207, none), (216, none), (217, none), (218, none), (226, none), (227, none), (234, none)] ++ (ftBd ++ (fmLaw ++ fmTo))
theorem CR_agrm {c : Nat} (hm : Agr Sm Mm Mm') (dm : dj Sm fmAll = true) (h : CR c Mc Mm) : CR c Mc Mm' := by
  obtain ⟨P, B, n, hBd, hTv, hFx, hBk, hLaw, hTw, hEv, hHe, hTo⟩ := h
  have ho : Agr [] Mc Mc := Agr.rfl'
  have dB : dj Sm ftBd = true := dj_sub dm (by simp)
  refine ⟨P, B, n, Bd_agr hm dB hBd, ?_, Fx_agr ho hm rfl dB hFx, Bk_agr ho hm rfl (dj_sub dm (by simp)) (congrFun (hm.c dm (by simp)) 2) hBk, LawR_agr ho hm rfl (dj_sub dm (by simp)) hLaw, TwR_agr ho hm rfl (dj_sub dm (by simp)) hTw, EvR_agr ho hm rfl (dj_sub dm (by simp)) hEv, HeR_agr ho hm rfl (dj_sub dm (by simp)) hHe, ToR_agr ho hm rfl (dj_sub dm (by simp)) hTo⟩
  rw [hm.c dm (a := 199) (by simp)]
  exact hTv
theorem AR_m (hm : Agr Sm Mm Mm') (dm : dj Sm fmAll = true) (h : AR Mc Mm) : AR Mc Mm' := by
  obtain ⟨h1, ⟨N, hN, hN2, hPa⟩, hTa, hFa, hIm, hCs⟩ := h
  have ho : Agr [] Mc Mc := Agr.rfl'
  refine ⟨CR_agrm hm dm h1, ⟨N, ?_, hN2, PaR_agr (Nat.le_refl _) ho hm rfl (dj_sub dm (by simp)) hPa⟩, TaR_agr ho hm rfl (dj_sub dm (by simp)) hTa, ?_, ImR_agr ho hm rfl (dj_sub dm (by simp)) hIm, CsR_agr ho hm rfl (dj_sub dm (by simp)) (congrFun (hm.c dm (by simp)) 0) (congrFun (hm.c dm (by simp)) 0) hCs⟩
  · rw [hm.c dm (a := 199) (by simp)]; exact hN
  · rw [hm.f dm (a := 198) (i := 33) (by simp), hm.f dm (a := 198) (i := 34) (by simp)]; exact hFa
theorem AR_c (hc : Agr Sc Mc Mc') (dc : dj Sc fcAll = true) (h : AR Mc Mm) : AR Mc' Mm := by
  obtain ⟨h1, ⟨N, hN, hN2, hPa⟩, hTa, hFa, hIm, hCs⟩ := h
  have ho : Agr [] Mm Mm := Agr.rfl'
  have d0 : ∀ q ∈ ftC 1, q ∈ fcAll := fun q hq => List.mem_cons_of_mem _ (List.mem_cons_of_mem _ (List.mem_cons_of_mem _ (List.mem_cons_of_mem _ (List.mem_cons_of_mem _ (mem_l hq)))))
  have d1 : ∀ q ∈ (0, some 2) :: ftC 53, q ∈ fcAll := fun q hq => (List.mem_cons.mp hq).elim (fun e => List.mem_cons.mpr (Or.inl e)) (fun hq => List.mem_cons_of_mem _ (List.mem_cons_of_mem _ (List.mem_cons_of_mem _ (List.mem_cons_of_mem _ (List.mem_cons_of_mem _ (mem_r (mem_l hq)))))))
  have d2 : ∀ q ∈ ftPa, q ∈ fcAll := fun q hq => List.mem_cons_of_mem _ (List.mem_cons_of_mem _ (List.mem_cons_of_mem _ (List.mem_cons_of_mem _ (List.mem_cons_of_mem _ (mem_r (mem_r (mem_l hq)))))))
  have d3 : ∀ q ∈ ftCs, q ∈ fcAll := fun q hq => List.mem_cons_of_mem _ (List.mem_cons_of_mem _ (List.mem_cons_of_mem _ (List.mem_cons_of_mem _ (List.mem_cons_of_mem _ (mem_r (mem_r (mem_r hq)))))))
  have d4 : ∀ q ∈ [((178 : Nat), some 1), (179, none)], q ∈ fcAll := fun q hq => (List.mem_cons.mp hq).elim (fun e => e ▸ List.mem_of_getElem? (i := 1) rfl) (fun hq => (List.mem_cons.mp hq).elim (fun e => e ▸ List.mem_of_getElem? (i := 4) rfl) (fun hq => absurd hq List.not_mem_nil))
  refine ⟨CR_agrc hc (dj_sub dc d0) h1, ⟨N, hN, hN2, PaR_agr (Nat.le_refl _) hc ho (dj_sub dc d2) rfl hPa⟩, TaR_agr hc ho (dj_sub dc d4) rfl hTa, ?_, ImR_agr hc ho (dj_sub dc d1) rfl hIm, CsR_agr hc ho (dj_sub dc d3) rfl rfl rfl hCs⟩
  rw [hc.f dc (a := 178) (i := 2) (List.mem_of_getElem? (i := 2) rfl), hc.f dc (a := 178) (i := 3) (List.mem_of_getElem? (i := 3) rfl)]; exact hFa
end AGR2
/-- a call of both sides from related memories: the same answer, related memories -/
def Sm (F1 F2 : Mem → Option (Int32 × Mem)) : Prop := ∀ Mc Mm, AR Mc Mm → ∃ r Mc' Mm', F1 Mc = some (r, Mc') ∧ F2 Mm = some (r, Mm') ∧ AR Mc' Mm'
/-- the law's step: the class's call, then the reference's, in one memory -/
theorem Sm.step {F1 F2 : Mem → Option (Int32 × Mem)} {S1 S2 : List (Nat × Option Nat)} (h : Sm F1 F2) (w1 : ∀ M, Fr S1 rmW M (F1 M)) (w2 : ∀ M, Fr S2 rmW M (F2 M)) (d1 : dj S1 fmAll = true) (d2 : dj S2 fcAll = true) {M : Mem} (hA : AR M M) : ∃ r M1 M2, F1 M = some (r, M1) ∧ F2 M1 = some (r, M2) ∧ AR M2 M2 := by
  obtain ⟨r, Mc', -, e1, -, -⟩ := h M M hA
  have hA1 : AR M Mc' := AR_m (Agr.of (w1 M) e1) d1 hA
  obtain ⟨r2, Mc2, Mm2, e2, e3, hA2⟩ := h M Mc' hA1
  rw [e1] at e2
  cases e2
  exact ⟨r, Mc', Mm2, e1, e3, AR_c (Agr.of (w2 Mc') e3) d2 hA2⟩
