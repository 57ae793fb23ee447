/-! ===== feed ===== -/
def TaN (n : Nat) (Mc Mm : Mem) : Prop := n ≤ 400 ∧ Mc 178 1 = nI n ∧ Mm 198 13 = nI n ∧ ∀ i, i < n → ∃ x, x < 256 ∧ Mm 206 i = nI x ∧ Mc 179 i = ji2b (nI x)
theorem byte_of (v : Int32) : ∃ x, x < 256 ∧ v &&& 255 = nI x ∧ ji2b (ji2b v) = ji2b (nI x) := by
  obtain ⟨x, hx, e⟩ := pk_andE v (m := 255) 8 (by decide)
  refine ⟨x, hx, e, ?_⟩
  rw [← e]
  unfold ji2b
  rw [fb_byte_twice, fa_byte_low]
theorem app1 {n : Nat} {Mc Mm : Mem} (h : TaN n Mc Mm) (hn : n < 400) (v : Int32) : TaN (n + 1) (mu (mu Mc 179 n (ji2b (ji2b v))) 178 1 (nI (n + 1))) (mu (mu Mm 206 n (v &&& 255)) 198 13 (nI (n + 1))) := by
  obtain ⟨h1, h2, h3, h4⟩ := h
  refine ⟨by omega, mu_s, mu_s, fun i hi => ?_⟩
  by_cases e : i = n
  · subst e
    obtain ⟨x, hx, e1, e2⟩ := byte_of v
    exact ⟨x, hx, by rw [mu_o (by omega), mu_s, e1], by rw [mu_o (by omega), mu_s, e2]⟩
  · obtain ⟨x, hx, e1, e2⟩ := h4 i (by omega)
    exact ⟨x, hx, by rw [mu_o (by omega), mu_i e]; exact e1, by rw [mu_o (by omega), mu_i e]; exact e2⟩
theorem app_step {n : Nat} {Mc Mm : Mem} (h : TaN n Mc Mm) (hn : n < 400) (z y : Int32) (hy : ¬ y < 0) (f g : Nat) : ∃ Mc' Mm', fX8_append_L3 z (f + 1) y Mc = fX8_append_L3 z f (y + (-8)) Mc' ∧ fX12_types_L3 z (g + 1) y Mm = fX12_types_L3 z g (y + (-8)) Mm' ∧ TaN (n + 1) Mc' Mm' := by
  obtain ⟨h1, h2, h3, h4⟩ := id h
  refine ⟨_, _, ?_, ?_, app1 h hn (jshr z y)⟩
  · rw [fX8_append_L3, if_neg hy]
    dsimp only [jn, bnd]
    rw [h2, if_neg (by rw [show (400 : Int32) = nI 400 from rfl]; exact nI_ge hn (by decide)), wr_nI hn, Option.bind_some, mu_o (by omega), h2, nI_1]
  · rw [fX12_types_L3, if_neg hy]
    dsimp only [bnd]
    rw [h3, wr_nI hn, Option.bind_some, mu_o (by omega), h3, nI_1]
theorem app4 {n : Nat} {Mc Mm : Mem} (h : TaN n Mc Mm) (hn : n + 4 ≤ 400) (z : Int32) : ∃ Mc' Mm', fX8_append z Mc = some Mc' ∧ fX12_types z Mm = some Mm' ∧ TaN (n + 4) Mc' Mm' := by
  have hF : FU = 99995 + 1 + 1 + 1 + 1 + 1 := rfl
  unfold fX8_append fX12_types
  rw [hF]
  obtain ⟨a1, b1, e1, g1, t1⟩ := app_step h (by omega) z 24 (by decide) (99995 + 1 + 1 + 1 + 1) (99995 + 1 + 1 + 1 + 1)
  obtain ⟨a2, b2, e2, g2, t2⟩ := app_step t1 (by omega) z (24 + (-8)) (by decide) (99995 + 1 + 1 + 1) (99995 + 1 + 1 + 1)
  obtain ⟨a3, b3, e3, g3, t3⟩ := app_step t2 (by omega) z (24 + (-8) + (-8)) (by decide) (99995 + 1 + 1) (99995 + 1 + 1)
  obtain ⟨a4, b4, e4, g4, t4⟩ := app_step t3 (by omega) z (24 + (-8) + (-8) + (-8)) (by decide) (99995 + 1) (99995 + 1)
  refine ⟨a4, b4, ?_, ?_, t4⟩
  · rw [e1, e2, e3, e4, fX8_append_L3, if_pos (by decide)]
  · rw [g1, g2, g3, g4, fX12_types_L3, if_pos (by decide)]
theorem Agr.ofU {S : List (Nat × Option Nat)} {M : Mem} {E : Option Mem} {r : Mem} (hf : Fr S rmU M E) (he : E = some r) : Agr S M r := hf r he
theorem s_feed (p q r s t : Int32) : Sm (fX11_feed p q r s t) (fX12_feed p q r s t) := by
  intro Mc Mm h
  have h0 := h
  obtain ⟨hC, ⟨N, hN, hN2, hPa⟩, ⟨n, hn, b1, b2, b3⟩, hFa, hIm, hCs⟩ := h
  have l20 : nI n + 20 = nI (n + 20) := addl n 20
  by_cases c : n + 20 ≤ 400
  · have h1 : TaN n Mc (mu Mm 198 0 0) := ⟨hn, b1, by rw [mu_i (by omega)]; exact b2, fun i hi => by obtain ⟨x, x1, x2, x3⟩ := b3 i hi; exact ⟨x, x1, by rw [mu_o (by omega)]; exact x2, x3⟩⟩
    obtain ⟨a1, d1, e1, g1, t1⟩ := app4 h1 (by omega) p
    obtain ⟨a2, d2, e2, g2, t2⟩ := app4 t1 (by omega) q
    obtain ⟨a3, d3, e3, g3, t3⟩ := app4 t2 (by omega) r
    obtain ⟨a4, d4, e4, g4, t4⟩ := app4 t3 (by omega) s
    obtain ⟨a5, d5, e5, g5, t5⟩ := app4 t4 (by omega) t
    have f1 : fX11_feed p q r s t Mc = some (nI (n + 20), a5) := by
      unfold fX11_feed
      rw [b1, l20, if_pos (show nI (n + 20) ≤ 400 from nI_le c (by decide)), e1, Option.bind_some, e2, Option.bind_some, e3, Option.bind_some, e4, Option.bind_some, e5, Option.bind_some, t5.2.1]
    have f2 : fX12_feed p q r s t Mm = some (nI (n + 20), d5) := by
      unfold fX12_feed
      dsimp only [bnd]
      rw [mu_i (by omega), b2, if_pos (show nI n ≤ 380 from nI_le (show n ≤ 380 by omega) (by decide)), g1, Option.bind_some, g2, Option.bind_some, g3, Option.bind_some, g4, Option.bind_some, g5, Option.bind_some, t5.2.2.1]
    have hc := Agr.of (wX11_feed p q r s t Mc) f1
    have hm := Agr.of (wX12_feed p q r s t Mm) f2
    obtain ⟨P, B, n', hBd, hTv, hFx, hBk, hLaw, hTw, hEv, hHe, hTo⟩ := hC
    have m0 : d5 199 = Mm 199 := hm.c (L := [(199, none)]) rfl (by simp)
    have hTv' : Tv a5 (1 + 1) (d5 199) := by rw [m0]; exact Tv_agr hc rfl hTv
    refine ⟨_, _, _, f1, f2, ⟨P, B, n', Bd_agr hm rfl hBd, hTv', Fx_agr hc hm rfl rfl hFx, Bk_agr hc hm rfl rfl (congrFun m0 2) hBk, LawR_agr hc hm rfl rfl hLaw, TwR_agr hc hm rfl rfl hTw, EvR_agr hc hm rfl rfl hEv, HeR_agr hc hm rfl rfl hHe, ToR_agr hc hm rfl rfl hTo⟩, ⟨N, by rw [m0]; exact hN, hN2, PaR_agr (Nat.le_refl _) hc hm (by decide +kernel) rfl hPa⟩, ⟨n + 20, c, t5.2.1, t5.2.2.1, t5.2.2.2⟩, ?_, ImR_agr hc hm (by decide +kernel) rfl hIm, CsR_agr hc hm (by decide +kernel) rfl (congrFun (hm.c (L := [(226, none)]) rfl (by simp)) 0) (congrFun (hm.c (L := [(227, none)]) rfl (by simp)) 0) hCs⟩
    have q1 : a5 178 2 = Mc 178 2 := hc.f (L := [(178, some 2)]) rfl (by simp)
    have q2 : a5 178 3 = Mc 178 3 := hc.f (L := [(178, some 3)]) rfl (by simp)
    have q3 : d5 198 33 = Mm 198 33 := hm.f (L := [(198, some 33)]) rfl (by simp)
    have q4 : d5 198 34 = Mm 198 34 := hm.f (L := [(198, some 34)]) rfl (by simp)
    rw [q1, q2, q3, q4]; exact hFa
  · refine ⟨-1, Mc, mu Mm 198 0 0, ?_, ?_, AR_told h0⟩
    · unfold fX11_feed
      rw [b1, l20, if_neg (show ¬ nI (n + 20) ≤ 400 from nI_ge (show 400 < n + 20 by omega) (by omega))]
    · unfold fX12_feed
      dsimp only [bnd]
      rw [mu_i (by omega), b2, if_neg (show ¬ nI n ≤ 380 from nI_ge (show 380 < n by omega) (by omega))]
