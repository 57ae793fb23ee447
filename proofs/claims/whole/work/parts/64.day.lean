/-! ===== what THE LAW tells, both sides; a state within a day ===== -/
theorem ask_lw {Mc Mm M21 M1 : Mem} {L : List Int32} (hL : LawR Mc 17 Mm) (h1 : ∀ x i, x ≠ 23 → M21 x i = Mc x i) (h2 : ∀ x i, x ≠ 219 → M1 x i = Mm x i) (n1 : ∀ j, j < 10 → M21 23 j = L.getD j 0) (n2 : ∀ j, j < 10 → M1 219 j = L.getD j 0) : ∃ m N, LwR M21 M1 m N := by
  obtain ⟨N, m, a1, a2, a3, a4, a5, a6, a7⟩ := hL
  have f213 : M1 213 = Mm 213 := funext fun i => h2 213 i (by omega)
  have f214 : M1 214 = Mm 214 := funext fun i => h2 214 i (by omega)
  refine ⟨m, N, a2, a1, ?_, ?_, ?_, fun j hj => by rw [n1 j hj, n2 j hj], fun i hi => ?_, fun l hl => ?_⟩
  · rw [h1 17 1 (by omega)]; exact a5
  · rw [h1 17 0 (by omega)]; exact a3
  · rw [h2 208 0 (by omega)]; exact a4
  · rw [h1 22 i (by omega), f213, f214]; exact a6 i hi
  · obtain ⟨w, e, b, t, r⟩ := a7 l hl
    refine ⟨w, e, b, t, ?_⟩
    rw [h1 18 l (by omega), h1 19 l (by omega), h1 20 l (by omega), h1 21 l (by omega), h2 209 l (by omega), h2 210 l (by omega), h2 211 l (by omega), h2 212 l (by omega), f213, f214]
    exact r
theorem ask_all {Mc Mm : Mem} {k P B b w : Nat} {side p ph : Int32} (hk : k = 2 ∨ k = 168) (H : AskR k P B Mc Mm) (hb : b < B) (hw : w ≤ 2) (o : Option Nat) (hs : (o = none ∧ side = -1 ∧ p = -1) ∨ ∃ q, o = some q ∧ q < P ∧ p = nI q ∧ fX9_whoIs k (nI b) side Mc = some (nI q)) :
    ∃ x Mc' Mm' M1, x ≤ mxN w ∧ Agr [(23, none), (24, none)] Mc Mc' ∧ Agr [(219, none), (220, none)] Mm Mm' ∧ fX0_asked (nI w) k (nI b) side ph Mc = some (nI x, Mc') ∧ fX12_asks (nI b) p ph Mm = some M1 ∧ M1 219 1 = ph ∧ fX12_lawTells (nI w) (if w = 0 then 700 + 50 * M1 219 0 - 30 * M1 219 4 else if w = 1 then M1 219 4 / 2 + M1 219 5 / 2 else M1 219 1) (nI (mxN w)) M1 = some (nI x, Mm') := by
  obtain ⟨hT, hF, hB, hLw, n, hn, hn1, hn2, hn3, hn4⟩ := id H
  have h12 : ∀ i, i < n → ∃ p, p < 12 ∧ Mc (35 + 4) i = nI p := fun i hi => by
    obtain ⟨b', p', q1, q2, q3, q4⟩ := hn3 i hi
    exact ⟨p', by have := hB.1; omega, q4⟩
  obtain ⟨n8, n81, n82⟩ := hmask_lt (wh := Mc (35 + 3)) (b := b) h12
  have h218 : Mm 218 b = nI n8 := (hn4 b (by have := hB.2.1; omega)).trans n82
  obtain ⟨M21, c1, c2, c3⟩ := ask_cls (w := w) (ph := ph) (side := side) hk H hb o (by
    rcases hs with ⟨a1, a2, a3⟩ | ⟨q, a1, a2, a3, a4⟩
    · exact Or.inl ⟨a1, a2⟩
    · exact Or.inr ⟨q, a1, a2, a4⟩)
  obtain ⟨M1, d1, d2, d3⟩ := ask_ref (ph := ph) (p := p) hB hb o (by
    rcases hs with ⟨a1, a2, a3⟩ | ⟨q, a1, a2, a3, a4⟩
    · exact Or.inl ⟨a1, a3⟩
    · exact Or.inr ⟨q, a1, a2, a3⟩) n81 h218
  obtain ⟨m, N, hLwR⟩ := ask_lw hLw c1 d1 c2 d2
  have e0 : M21 23 0 = M1 219 0 := by rw [c2 0 (by omega), d2 0 (by omega)]
  have e1 : M21 23 1 = M1 219 1 := by rw [c2 1 (by omega), d2 1 (by omega)]
  have e4 : M21 23 4 = M1 219 4 := by rw [c2 4 (by omega), d2 4 (by omega)]
  have e5 : M21 23 5 = M1 219 5 := by rw [c2 5 (by omega), d2 5 (by omega)]
  have r0 : ∀ f, rd (mf M21 24 f) 23 10 0 = some (M1 219 0) := fun f => (rd_nI (j := 0) (by omega)).trans (by rw [mf_o (by omega), e0])
  have r1 : ∀ f, rd (mf M21 24 f) 23 10 1 = some (M1 219 1) := fun f => (rd_nI (j := 1) (by omega)).trans (by rw [mf_o (by omega), e1])
  have r4 : ∀ f, rd (mf M21 24 f) 23 10 4 = some (M1 219 4) := fun f => (rd_nI (j := 4) (by omega)).trans (by rw [mf_o (by omega), e4])
  have r5 : ∀ f, rd (mf M21 24 f) 23 10 5 = some (M1 219 5) := fun f => (rd_nI (j := 5) (by omega)).trans (by rw [mf_o (by omega), e5])
  obtain ⟨x, f', h', x1, x2, x3⟩ := tells_eq (w := w) (wo := if w = 0 then 700 + 50 * M1 219 0 - 30 * M1 219 4 else if w = 1 then M1 219 4 / 2 + M1 219 5 / 2 else M1 219 1) hLwR hw (fun f => by
    unfold fX0_withoutLaw
    rw [r0, r1, r4, r5]
    rcases (show w = 0 ∨ w = 1 ∨ w = 2 by omega) with rfl | rfl | rfl <;> rfl)
  refine ⟨x, mf M21 24 f', mf M1 220 h', M1, x1, fun a i q1 q2 => ?_, fun a i q1 q2 => ?_, c3.trans x2, d3, d2 1 (by omega), x3⟩
  · have n23 : a ≠ 23 := fun e => q1 (by rw [e]; simp)
    have n24 : a ≠ 24 := fun e => q1 (by rw [e]; simp)
    rw [mf_o n24, c1 a i n23]
  · have n23 : a ≠ 219 := fun e => q1 (by rw [e]; simp)
    have n24 : a ≠ 220 := fun e => q1 (by rw [e]; simp)
    rw [mf_o n24, d1 a i n23]
theorem ask_rolls {Mc Mm : Mem} {k P B b s q : Nat} {ph : Int32} (hk : k = 2 ∨ k = 168) (H : AskR k P B Mc Mm) (hb : b < B) (hq : q < P) (hwho : fX9_whoIs k (nI b) (nI s) Mc = some (nI q)) :
    ∃ x Mc' Mm', x ≤ 1000 ∧ Agr [(23, none), (24, none)] Mc Mc' ∧ Agr [(219, none), (220, none)] Mm Mm' ∧ fX0_asked 0 k (nI b) (nI s) ph Mc = some (nI x, Mc') ∧ fX12_landsOn (nI b) (nI q) ph Mm = some (nI x, Mm') := by
  obtain ⟨x, Mc', Mm', M1, a1, a2, a3, a4, a5, a6, a7⟩ := ask_all (w := 0) (ph := ph) (side := nI s) (p := nI q) hk H hb (by omega) (some q) (Or.inr ⟨q, rfl, hq, rfl, hwho⟩)
  refine ⟨x, Mc', Mm', a1, a2, a3, a4, ?_⟩
  unfold fX12_landsOn
  have r0 : rd M1 219 10 0 = some (M1 219 0) := rd_nI (j := 0) (by omega)
  have r4 : rd M1 219 10 4 = some (M1 219 4) := rd_nI (j := 4) (by omega)
  rw [a5, Option.bind_some, r0, Option.bind_some, r4, Option.bind_some]
  rw [if_pos rfl] at a7
  have a7 : fX12_lawTells 0 (700 + 50 * M1 219 0 - 30 * M1 219 4) 1000 M1 = some (nI x, Mm') := a7
  rw [a7]; rfl
theorem ask_costs {Mc Mm : Mem} {k P B b s q : Nat} {ph : Int32} (hk : k = 2 ∨ k = 168) (H : AskR k P B Mc Mm) (hb : b < B) (hq : q < P) (hwho : fX9_whoIs k (nI b) (nI s) Mc = some (nI q)) :
    ∃ x Mc' Mm', x ≤ 9 ∧ Agr [(23, none), (24, none)] Mc Mc' ∧ Agr [(219, none), (220, none)] Mm Mm' ∧ fX0_asked 2 k (nI b) (nI s) ph Mc = some (nI x, Mc') ∧ fX12_costsOn (nI b) (nI q) ph Mm = some (nI x, Mm') := by
  obtain ⟨x, Mc', Mm', M1, a1, a2, a3, a4, a5, a6, a7⟩ := ask_all (w := 2) (ph := ph) (side := nI s) (p := nI q) hk H hb (by omega) (some q) (Or.inr ⟨q, rfl, hq, rfl, hwho⟩)
  refine ⟨x, Mc', Mm', a1, a2, a3, a4, ?_⟩
  unfold fX12_costsOn
  rw [a5, Option.bind_some]
  rw [if_neg (by omega), if_neg (by omega), a6] at a7
  have a7 : fX12_lawTells 2 ph 9 M1 = some (nI x, Mm') := a7
  rw [a7]; rfl
theorem ask_blurs {Mc Mm : Mem} {k P B b : Nat} (hk : k = 2 ∨ k = 168) (H : AskR k P B Mc Mm) (hb : b < B) :
    ∃ x Mc' Mm', x ≤ 9 ∧ Agr [(23, none), (24, none)] Mc Mc' ∧ Agr [(219, none), (220, none)] Mm Mm' ∧ fX0_asked 1 k (nI b) (-1) 0 Mc = some (nI x, Mc') ∧ fX12_wipesOf (nI b) Mm = some (nI x, Mm') := by
  obtain ⟨x, Mc', Mm', M1, a1, a2, a3, a4, a5, a6, a7⟩ := ask_all (w := 1) (ph := 0) (side := -1) (p := -1) hk H hb (by omega) none (Or.inl ⟨rfl, rfl, rfl⟩)
  refine ⟨x, Mc', Mm', a1, a2, a3, a4, ?_⟩
  unfold fX12_wipesOf
  have r4 : rd M1 219 10 4 = some (M1 219 4) := rd_nI (j := 4) (by omega)
  have r5 : rd M1 219 10 5 = some (M1 219 5) := rd_nI (j := 5) (by omega)
  rw [a5, Option.bind_some, r4, Option.bind_some, r5, Option.bind_some]
  rw [if_neg (by omega), if_pos rfl] at a7
  have a7 : fX12_lawTells 1 (M1 219 4 / 2 + M1 219 5 / 2) 9 M1 = some (nI x, Mm') := a7
  rw [a7]; rfl
/-! a state within a day: of the Tavern at k, in thought (th) or not, since Mc0, Mm0 -/
abbrev FCk (k : Nat) : List (Nat × Option Nat) := [(23, none), (24, none), (k, some 0), (k, some 1), (k, some 2), (k, some 3), (k + 1, none), (k + 2, none), (k + 3, none), (k + 7, none), (k + 8, none), (k + 9, none)]
abbrev FBk : List (Nat × Option Nat) := [(12, some 0), (13, none), (14, none), (15, none), (16, none)]
def FC (k : Nat) (th : Bool) : List (Nat × Option Nat) := if th then FCk k else FCk k ++ FBk
def FM (th : Bool) : List (Nat × Option Nat) := if th then [(199, none), (219, none), (220, none)] else [(199, none), (219, none), (220, none), (205, none)]
def D0 (k : Nat) (th : Bool) (P B : Nat) (Mc Mm : Mem) : Prop := (k = 2 ∨ k = 168) ∧ Fx Mc k Mm ∧ Bd P B Mm ∧ LawR Mc 17 Mm ∧ TwR Mc 25 Mm B ∧ EvR Mc 30 Mm P B ∧ HeR Mc 35 Mm P B ∧ (th = true → Mm 198 5 = 1) ∧ (th = false → Mm 198 5 = 0 ∧ Mc 12 1 = 150)
def DR (k : Nat) (th : Bool) (n0 : Nat) (Mc0 Mm0 Mc Mm : Mem) : Prop := Agr (FC k th) Mc0 Mc ∧ Agr (FM th) Mm0 Mm ∧ Tv Mc k (Mm 199) ∧ (th = false → ∃ n, n0 ≤ n ∧ Bk Mc 12 Mm n)
theorem FC_in {k : Nat} {th : Bool} {q : Nat × Option Nat} (h : q ∈ FCk k) : q ∈ FC k th := by
  unfold FC; cases th
  · exact mem_l h
  · exact h
theorem FM_in {th : Bool} {q : Nat × Option Nat} (h : q ∈ [((199 : Nat), (none : Option Nat)), (219, none), (220, none)]) : q ∈ FM th := by
  unfold FM; cases th
  · exact mem_l (B := [(205, none)]) h
  · exact h
section DAY
variable {k n0 P B : Nat} {th : Bool} {Mc0 Mm0 Mc Mm : Mem}
theorem D0_ask (h0 : D0 k th P B Mc0 Mm0) (h : DR k th n0 Mc0 Mm0 Mc Mm) : AskR k P B Mc Mm := by
  obtain ⟨hk, hF, hB, hL, -, -, hH, -, -⟩ := h0
  obtain ⟨a, b, c, -⟩ := h
  refine ⟨c, Fx_agr a b ?_ ?_ hF, Bd_agr b ?_ hB, LawR_agr a b ?_ ?_ hL, HeR_agr a b ?_ ?_ hH⟩ <;> (rcases hk with rfl | rfl <;> cases th <;> decide +kernel)
theorem D0_tw (h0 : D0 k th P B Mc0 Mm0) (h : DR k th n0 Mc0 Mm0 Mc Mm) : TwR Mc 25 Mm B ∧ EvR Mc 30 Mm P B := by
  obtain ⟨hk, -, -, -, hT, hE, -, -, -⟩ := h0
  obtain ⟨a, b, -, -⟩ := h
  refine ⟨TwR_agr a b ?_ ?_ hT, EvR_agr a b ?_ ?_ hE⟩ <;> (rcases hk with rfl | rfl <;> cases th <;> decide +kernel)
theorem D0_th (h0 : D0 k th P B Mc0 Mm0) (h : DR k th n0 Mc0 Mm0 Mc Mm) : (th = true → Mm 198 5 = 1) ∧ (th = false → Mm 198 5 = 0 ∧ Mc 12 1 = 150) := by
  obtain ⟨hk, -, -, -, -, -, -, h1, h2⟩ := h0
  obtain ⟨a, b, -, -⟩ := h
  have e1 : Mm 198 5 = Mm0 198 5 := b 198 5 (by cases th <;> decide) (by cases th <;> decide)
  have e2 : Mc 12 1 = Mc0 12 1 := a 12 1 (by rcases hk with rfl | rfl <;> cases th <;> decide) (by rcases hk with rfl | rfl <;> cases th <;> decide)
  rw [e1, e2]; exact ⟨h1, h2⟩
theorem Bk_w {Mc' Mm' : Mem} {n : Nat} (h : Bk Mc 12 Mm n) (h1 : ∀ a, 12 ≤ a → a ≤ 16 → Mc' a = Mc a) (h2 : Mm' 205 = Mm 205) (h3 : Mm' 199 2 = Mm 199 2) : Bk Mc' 12 Mm' n := by
  unfold Bk at *
  rw [h1 12 (by omega) (by omega), h1 (12 + 1) (by omega) (by omega), h1 (12 + 2) (by omega) (by omega), h1 (12 + 3) (by omega) (by omega), h1 (12 + 4) (by omega) (by omega), h2, h3]
  exact h
theorem Tv_r {r r' : Nat → Int32} (h : Tv Mc k r) (e : ∀ i, i ≠ 2 → r' i = r i) : Tv Mc k r' := by
  obtain ⟨⟨a1, a2, a3, a4⟩, hp, hb, hz⟩ := h
  refine ⟨⟨?_, ?_, ?_, ?_⟩, fun p h => ?_, fun b h => ?_, fun b h => ?_⟩
  · rw [e 1 (by omega)]; exact a1
  · rw [e 3 (by omega)]; exact a2
  · rw [e 4 (by omega)]; exact a3
  · rw [e 0 (by omega)]; exact a4
  · rw [e _ (by omega), e _ (by omega), e _ (by omega)]; exact hp p h
  · rw [e _ (by omega), e _ (by omega), e _ (by omega)]; exact hb b h
  · rw [e _ (by omega)]; exact hz b h
/-- a change of scratch cells alone -/
theorem DR_scr {Mc' Mm' : Mem} (h0 : D0 k th P B Mc0 Mm0) (h : DR k th n0 Mc0 Mm0 Mc Mm) (hc : Agr [(23, none), (24, none)] Mc Mc') (hm : Agr [(219, none), (220, none)] Mm Mm') : DR k th n0 Mc0 Mm0 Mc' Mm' := by
  obtain ⟨hk, -⟩ := h0
  obtain ⟨a, b, c, d⟩ := h
  have m199 : Mm' 199 = Mm 199 := funext fun i => hm 199 i (by decide) (by simp)
  refine ⟨a.trans (hc.mono fun q hq => FC_in (mem_l (B := [(k, some 0), (k, some 1), (k, some 2), (k, some 3), (k + 1, none), (k + 2, none), (k + 3, none), (k + 7, none), (k + 8, none), (k + 9, none)]) hq)), b.trans (hm.mono fun q hq => FM_in (mem_r (A := [(199, none)]) hq)), ?_, fun e => ?_⟩
  · rw [m199]
    exact Tv_agr hc (by rcases hk with rfl | rfl <;> decide +kernel) c
  · obtain ⟨n, n1, n2⟩ := d e
    exact ⟨n, n1, Bk_agr hc hm rfl rfl (by rw [m199]) n2⟩
theorem DR_draws (h0 : D0 k th P B Mc0 Mm0) (h : DR k th n0 Mc0 Mm0 Mc Mm) (v : Int32) : DR k th n0 Mc0 Mm0 (mu Mc k 0 v) (mu Mm 199 1 v) := by
  obtain ⟨hk, -⟩ := h0
  obtain ⟨a, b, ⟨⟨t1, t2, t3, t4⟩, tp, tb, tz⟩, d⟩ := h
  refine ⟨a.mu (Or.inl (FC_in (by simp))), b.mu (Or.inr (FM_in (by simp))), ⟨⟨?_, ?_, ?_, ?_⟩, fun p hp => ?_, fun b hb => ?_, fun b hb => ?_⟩, fun e => ?_⟩
  · rw [mu_s, mu_s]
  · rw [mu_i (by omega), mu_i (by omega)]; exact t2
  · rw [mu_i (by omega), mu_i (by omega)]; exact t3
  · rw [mu_i (by omega), mu_i (by omega)]; exact t4
  · have := tp p hp
    simpa (disch := omega) only [mu_o, mu_i] using this
  · have := tb b hb
    simpa (disch := omega) only [mu_o, mu_i] using this
  · have := tz b hb
    simpa (disch := omega) only [mu_o, mu_i] using this
  · obtain ⟨n, n1, n2⟩ := d e
    exact ⟨n, n1, Bk_w n2 (fun a _ _ => mu_c (by omega)) (mu_c (by omega)) (mu_i (by omega))⟩
theorem DR_ale (h0 : D0 k th P B Mc0 Mm0) (h : DR k th n0 Mc0 Mm0 Mc Mm) (v : Int32) : DR k th n0 Mc0 Mm0 (mu Mc k 1 v) (mu Mm 199 3 v) := by
  obtain ⟨hk, -⟩ := h0
  obtain ⟨a, b, ⟨⟨t1, t2, t3, t4⟩, tp, tb, tz⟩, d⟩ := h
  refine ⟨a.mu (Or.inl (FC_in (by simp))), b.mu (Or.inr (FM_in (by simp))), ⟨⟨?_, ?_, ?_, ?_⟩, fun p hp => ?_, fun b hb => ?_, fun b hb => ?_⟩, fun e => ?_⟩
  · rw [mu_i (by omega), mu_i (by omega)]; exact t1
  · rw [mu_s, mu_s]
  · rw [mu_i (by omega), mu_i (by omega)]; exact t3
  · rw [mu_i (by omega), mu_i (by omega)]; exact t4
  · have := tp p hp
    simpa (disch := omega) only [mu_o, mu_i] using this
  · have := tb b hb
    simpa (disch := omega) only [mu_o, mu_i] using this
  · have := tz b hb
    simpa (disch := omega) only [mu_o, mu_i] using this
  · obtain ⟨n, n1, n2⟩ := d e
    exact ⟨n, n1, Bk_w n2 (fun a _ _ => mu_c (by omega)) (mu_c (by omega)) (mu_i (by omega))⟩
theorem DR_noise (h0 : D0 k th P B Mc0 Mm0) (h : DR k th n0 Mc0 Mm0 Mc Mm) (v : Int32) : DR k th n0 Mc0 Mm0 (mu Mc k 2 v) (mu Mm 199 4 v) := by
  obtain ⟨hk, -⟩ := h0
  obtain ⟨a, b, ⟨⟨t1, t2, t3, t4⟩, tp, tb, tz⟩, d⟩ := h
  refine ⟨a.mu (Or.inl (FC_in (by simp))), b.mu (Or.inr (FM_in (by simp))), ⟨⟨?_, ?_, ?_, ?_⟩, fun p hp => ?_, fun b hb => ?_, fun b hb => ?_⟩, fun e => ?_⟩
  · rw [mu_i (by omega), mu_i (by omega)]; exact t1
  · rw [mu_i (by omega), mu_i (by omega)]; exact t2
  · rw [mu_s, mu_s]
  · rw [mu_i (by omega), mu_i (by omega)]; exact t4
  · have := tp p hp
    simpa (disch := omega) only [mu_o, mu_i] using this
  · have := tb b hb
    simpa (disch := omega) only [mu_o, mu_i] using this
  · have := tz b hb
    simpa (disch := omega) only [mu_o, mu_i] using this
  · obtain ⟨n, n1, n2⟩ := d e
    exact ⟨n, n1, Bk_w n2 (fun a _ _ => mu_c (by omega)) (mu_c (by omega)) (mu_i (by omega))⟩
theorem DR_day (h0 : D0 k th P B Mc0 Mm0) (h : DR k th n0 Mc0 Mm0 Mc Mm) (v : Int32) : DR k th n0 Mc0 Mm0 (mu Mc k 3 v) (mu Mm 199 0 v) := by
  obtain ⟨hk, -⟩ := h0
  obtain ⟨a, b, ⟨⟨t1, t2, t3, t4⟩, tp, tb, tz⟩, d⟩ := h
  refine ⟨a.mu (Or.inl (FC_in (by simp))), b.mu (Or.inr (FM_in (by simp))), ⟨⟨?_, ?_, ?_, ?_⟩, fun p hp => ?_, fun b hb => ?_, fun b hb => ?_⟩, fun e => ?_⟩
  · rw [mu_i (by omega), mu_i (by omega)]; exact t1
  · rw [mu_i (by omega), mu_i (by omega)]; exact t2
  · rw [mu_i (by omega), mu_i (by omega)]; exact t3
  · rw [mu_s, mu_s]
  · have := tp p hp
    simpa (disch := omega) only [mu_o, mu_i] using this
  · have := tb b hb
    simpa (disch := omega) only [mu_o, mu_i] using this
  · have := tz b hb
    simpa (disch := omega) only [mu_o, mu_i] using this
  · obtain ⟨n, n1, n2⟩ := d e
    exact ⟨n, n1, Bk_w n2 (fun a _ _ => mu_c (by omega)) (mu_c (by omega)) (mu_i (by omega))⟩
theorem DR_lips (h0 : D0 k th P B Mc0 Mm0) (h : DR k th n0 Mc0 Mm0 Mc Mm) {j : Nat} (hj : j < 12) (v : Int32) : DR k th n0 Mc0 Mm0 (mu Mc (k + 1) j v) (mu Mm 199 (5 + j) v) := by
  obtain ⟨hk, -⟩ := h0
  obtain ⟨a, b, ⟨⟨t1, t2, t3, t4⟩, tp, tb, tz⟩, d⟩ := h
  refine ⟨a.mu (Or.inr (FC_in (by simp))), b.mu (Or.inr (FM_in (by simp))), ⟨⟨?_, ?_, ?_, ?_⟩, fun p hp => ?_, fun b hb => ?_, fun b hb => ?_⟩, fun e => ?_⟩
  · rw [mu_o (by omega), mu_i (by omega)]; exact t1
  · rw [mu_o (by omega), mu_i (by omega)]; exact t2
  · rw [mu_o (by omega), mu_i (by omega)]; exact t3
  · rw [mu_o (by omega), mu_i (by omega)]; exact t4
  · obtain ⟨q1, q2, q3⟩ := tp p hp
    by_cases e : p = j
    · subst e
      simp (disch := omega) only [mu_o, mu_i, mu_s, q1, q2, q3, and_self]
    · simp (disch := omega) only [mu_o, mu_i, mu_s, q1, q2, q3, and_self]
  · have := tb b hb
    simpa (disch := omega) only [mu_o, mu_i] using this
  · have := tz b hb
    simpa (disch := omega) only [mu_o, mu_i] using this
  · obtain ⟨n, n1, n2⟩ := d e
    exact ⟨n, n1, Bk_w n2 (fun a _ _ => mu_c (by omega)) (mu_c (by omega)) (mu_i (by omega))⟩
theorem DR_held (h0 : D0 k th P B Mc0 Mm0) (h : DR k th n0 Mc0 Mm0 Mc Mm) {j : Nat} (hj : j < 12) (v : Int32) : DR k th n0 Mc0 Mm0 (mu Mc (k + 2) j v) (mu Mm 199 (17 + j) v) := by
  obtain ⟨hk, -⟩ := h0
  obtain ⟨a, b, ⟨⟨t1, t2, t3, t4⟩, tp, tb, tz⟩, d⟩ := h
  refine ⟨a.mu (Or.inr (FC_in (by simp))), b.mu (Or.inr (FM_in (by simp))), ⟨⟨?_, ?_, ?_, ?_⟩, fun p hp => ?_, fun b hb => ?_, fun b hb => ?_⟩, fun e => ?_⟩
  · rw [mu_o (by omega), mu_i (by omega)]; exact t1
  · rw [mu_o (by omega), mu_i (by omega)]; exact t2
  · rw [mu_o (by omega), mu_i (by omega)]; exact t3
  · rw [mu_o (by omega), mu_i (by omega)]; exact t4
  · obtain ⟨q1, q2, q3⟩ := tp p hp
    by_cases e : p = j
    · subst e
      simp (disch := omega) only [mu_o, mu_i, mu_s, q1, q2, q3, and_self]
    · simp (disch := omega) only [mu_o, mu_i, mu_s, q1, q2, q3, and_self]
  · have := tb b hb
    simpa (disch := omega) only [mu_o, mu_i] using this
  · have := tz b hb
    simpa (disch := omega) only [mu_o, mu_i] using this
  · obtain ⟨n, n1, n2⟩ := d e
    exact ⟨n, n1, Bk_w n2 (fun a _ _ => mu_c (by omega)) (mu_c (by omega)) (mu_i (by omega))⟩
theorem DR_owes (h0 : D0 k th P B Mc0 Mm0) (h : DR k th n0 Mc0 Mm0 Mc Mm) {j : Nat} (hj : j < 12) (v : Int32) : DR k th n0 Mc0 Mm0 (mu Mc (k + 3) j v) (mu Mm 199 (29 + j) v) := by
  obtain ⟨hk, -⟩ := h0
  obtain ⟨a, b, ⟨⟨t1, t2, t3, t4⟩, tp, tb, tz⟩, d⟩ := h
  refine ⟨a.mu (Or.inr (FC_in (by simp))), b.mu (Or.inr (FM_in (by simp))), ⟨⟨?_, ?_, ?_, ?_⟩, fun p hp => ?_, fun b hb => ?_, fun b hb => ?_⟩, fun e => ?_⟩
  · rw [mu_o (by omega), mu_i (by omega)]; exact t1
  · rw [mu_o (by omega), mu_i (by omega)]; exact t2
  · rw [mu_o (by omega), mu_i (by omega)]; exact t3
  · rw [mu_o (by omega), mu_i (by omega)]; exact t4
  · obtain ⟨q1, q2, q3⟩ := tp p hp
    by_cases e : p = j
    · subst e
      simp (disch := omega) only [mu_o, mu_i, mu_s, q1, q2, q3, and_self]
    · simp (disch := omega) only [mu_o, mu_i, mu_s, q1, q2, q3, and_self]
  · have := tb b hb
    simpa (disch := omega) only [mu_o, mu_i] using this
  · have := tz b hb
    simpa (disch := omega) only [mu_o, mu_i] using this
  · obtain ⟨n, n1, n2⟩ := d e
    exact ⟨n, n1, Bk_w n2 (fun a _ _ => mu_c (by omega)) (mu_c (by omega)) (mu_i (by omega))⟩
theorem DR_clear (h0 : D0 k th P B Mc0 Mm0) (h : DR k th n0 Mc0 Mm0 Mc Mm) {j : Nat} (hj : j < 14) (v : Int32) : DR k th n0 Mc0 Mm0 (mu Mc (k + 7) j v) (mu Mm 199 (41 + j) v) := by
  obtain ⟨hk, -⟩ := h0
  obtain ⟨a, b, ⟨⟨t1, t2, t3, t4⟩, tp, tb, tz⟩, d⟩ := h
  refine ⟨a.mu (Or.inr (FC_in (by simp))), b.mu (Or.inr (FM_in (by simp))), ⟨⟨?_, ?_, ?_, ?_⟩, fun p hp => ?_, fun b hb => ?_, fun b hb => ?_⟩, fun e => ?_⟩
  · rw [mu_o (by omega), mu_i (by omega)]; exact t1
  · rw [mu_o (by omega), mu_i (by omega)]; exact t2
  · rw [mu_o (by omega), mu_i (by omega)]; exact t3
  · rw [mu_o (by omega), mu_i (by omega)]; exact t4
  · have := tp p hp
    simpa (disch := omega) only [mu_o, mu_i] using this
  · obtain ⟨q1, q2, q3⟩ := tb b hb
    by_cases e : b = j
    · subst e
      simp (disch := omega) only [mu_o, mu_i, mu_s, q1, q2, q3, and_self]
    · simp (disch := omega) only [mu_o, mu_i, mu_s, q1, q2, q3, and_self]
  · have := tz b hb
    simpa (disch := omega) only [mu_o, mu_i] using this
  · obtain ⟨n, n1, n2⟩ := d e
    exact ⟨n, n1, Bk_w n2 (fun a _ _ => mu_c (by omega)) (mu_c (by omega)) (mu_i (by omega))⟩
theorem DR_said (h0 : D0 k th P B Mc0 Mm0) (h : DR k th n0 Mc0 Mm0 Mc Mm) {j : Nat} (hj : j < 14) (v : Int32) (hz : ∃ z, z ≤ 3 ∧ v = nI z) : DR k th n0 Mc0 Mm0 (mu Mc (k + 8) j v) (mu Mm 199 (55 + j) v) := by
  obtain ⟨hk, -⟩ := h0
  obtain ⟨a, b, ⟨⟨t1, t2, t3, t4⟩, tp, tb, tz⟩, d⟩ := h
  refine ⟨a.mu (Or.inr (FC_in (by simp))), b.mu (Or.inr (FM_in (by simp))), ⟨⟨?_, ?_, ?_, ?_⟩, fun p hp => ?_, fun b hb => ?_, fun b hb => ?_⟩, fun e => ?_⟩
  · rw [mu_o (by omega), mu_i (by omega)]; exact t1
  · rw [mu_o (by omega), mu_i (by omega)]; exact t2
  · rw [mu_o (by omega), mu_i (by omega)]; exact t3
  · rw [mu_o (by omega), mu_i (by omega)]; exact t4
  · have := tp p hp
    simpa (disch := omega) only [mu_o, mu_i] using this
  · obtain ⟨q1, q2, q3⟩ := tb b hb
    by_cases e : b = j
    · subst e
      simp (disch := omega) only [mu_o, mu_i, mu_s, q1, q2, q3, and_self]
    · simp (disch := omega) only [mu_o, mu_i, mu_s, q1, q2, q3, and_self]
  · by_cases e : b = j
    · subst e; rw [mu_s]; exact hz
    · rw [mu_i (by omega)]; exact tz b hb
  · obtain ⟨n, n1, n2⟩ := d e
    exact ⟨n, n1, Bk_w n2 (fun a _ _ => mu_c (by omega)) (mu_c (by omega)) (mu_i (by omega))⟩
theorem DR_is (h0 : D0 k th P B Mc0 Mm0) (h : DR k th n0 Mc0 Mm0 Mc Mm) {j : Nat} (hj : j < 14) (v : Int32) : DR k th n0 Mc0 Mm0 (mu Mc (k + 9) j v) (mu Mm 199 (69 + j) v) := by
  obtain ⟨hk, -⟩ := h0
  obtain ⟨a, b, ⟨⟨t1, t2, t3, t4⟩, tp, tb, tz⟩, d⟩ := h
  refine ⟨a.mu (Or.inr (FC_in (by simp))), b.mu (Or.inr (FM_in (by simp))), ⟨⟨?_, ?_, ?_, ?_⟩, fun p hp => ?_, fun b hb => ?_, fun b hb => ?_⟩, fun e => ?_⟩
  · rw [mu_o (by omega), mu_i (by omega)]; exact t1
  · rw [mu_o (by omega), mu_i (by omega)]; exact t2
  · rw [mu_o (by omega), mu_i (by omega)]; exact t3
  · rw [mu_o (by omega), mu_i (by omega)]; exact t4
  · have := tp p hp
    simpa (disch := omega) only [mu_o, mu_i] using this
  · obtain ⟨q1, q2, q3⟩ := tb b hb
    by_cases e : b = j
    · subst e
      simp (disch := omega) only [mu_o, mu_i, mu_s, q1, q2, q3, and_self]
    · simp (disch := omega) only [mu_o, mu_i, mu_s, q1, q2, q3, and_self]
  · have := tz b hb
    simpa (disch := omega) only [mu_o, mu_i] using this
  · obtain ⟨n, n1, n2⟩ := d e
    exact ⟨n, n1, Bk_w n2 (fun a _ _ => mu_c (by omega)) (mu_c (by omega)) (mu_i (by omega))⟩
/-- a line of THE BOOK, by hand and on days -/
theorem DR_note (h0 : D0 k th P B Mc0 Mm0) (h : DR k th n0 Mc0 Mm0 Mc Mm) (x y z : Int32) : ∃ Mc' Mm', fX0_note k x y z (if th then 1 else 0) Mc = some Mc' ∧ fX12_notes x y z Mm = some Mm' ∧ DR k th n0 Mc0 Mm0 Mc' Mm' ∧ (∀ a i, a < 12 ∨ 16 < a → Mc' a i = Mc a i) ∧ (∀ a i, a ≠ 205 → (a = 199 → i ≠ 2) → Mm' a i = Mm a i) := by
  obtain ⟨t1, t2⟩ := D0_th h0 h
  unfold fX0_note fX12_notes
  cases th with
  | true =>
    rw [if_pos rfl, if_neg one_ne, t1 rfl, if_neg one_ne]
    exact ⟨Mc, Mm, rfl, rfl, h, fun _ _ _ => rfl, fun _ _ _ _ => rfl⟩
  | false =>
    obtain ⟨u1, u2⟩ := t2 rfl
    obtain ⟨hk, -⟩ := h0
    obtain ⟨a, b, c, d⟩ := id h
    obtain ⟨n, n1, n2⟩ := d rfl
    obtain ⟨k1, k2, k3, k4⟩ := id n2
    have r2 : ∀ M : Mem, rd M 199 83 2 = some (M 199 2) := fun M => rd_nI (j := 2) (by omega)
    have r0 : rd Mm 199 83 0 = some (Mm 199 0) := rd_nI (j := 0) (by omega)
    have l150 : (150 : Int32) = nI 150 := rfl
    rw [if_neg (show ¬ false = true by decide), if_pos rfl, u1, if_pos rfl, r2, k3, Option.bind_some]
    unfold fX3_append
    have k2 : Mc 12 0 = nI n := k2
    rw [u2, k2]
    by_cases e : n = 150
    · subst e
      rw [if_pos (show (150 : Int32) ≤ nI 150 by decide), if_pos (show nI 150 = (150 : Int32) from rfl)]
      exact ⟨Mc, Mm, rfl, rfl, h, fun _ _ _ => rfl, fun _ _ _ _ => rfl⟩
    · have c1 : ¬ (150 : Int32) ≤ nI n := nI_ge (show n < 150 by omega) (by decide)
      have c2 : ¬ nI n = (150 : Int32) := fun q => e ((nI_eqb (by omega) (by omega)).mp q)
      have kn1 : kn (12 + 1) = 150 := rfl
      have kn2 : kn (12 + 2) = 150 := rfl
      have kn3 : kn (12 + 3) = 150 := rfl
      have kn4 : kn (12 + 4) = 150 := rfl
      have w2 : ∀ (M : Mem) (v : Int32), wr M 199 83 2 v = some (mu M 199 2 v) := fun M v => wr_nI (j := 2) (by omega)
      rw [if_neg c1, if_neg c2, Option.bind_some, bnd_eq, r0, Option.bind_some, kn1, kn2, kn3, kn4, wr_nI (by omega), Option.bind_some]
      rw [mu_o (by omega), k2, wr_nI (by omega), Option.bind_some, mu_o (by omega), mu_o (by omega), k2, wr_nI (by omega), Option.bind_some, mu_o (by omega), mu_o (by omega), mu_o (by omega), k2, wr_nI (by omega), Option.bind_some, bnd_eq, mu_o (by omega), mu_o (by omega), mu_o (by omega), mu_o (by omega), k2, nI_1, Option.bind_some]
      rw [lmul 4 n, wr_nI (by omega), Option.bind_some, nI_1, wr_nI (by omega), Option.bind_some, addl (4 * n) 2, wr_nI (by omega), Option.bind_some, addl (4 * n) 3, wr_nI (by omega), Option.bind_some, r2, Option.bind_some, mu_o (by omega), mu_o (by omega), mu_o (by omega), mu_o (by omega), k3, nI_1, w2, Option.bind_some]
      have f1 : ∀ a i, a < 12 ∨ 16 < a → mu (mu (mu (mu (mu Mc (12 + 1) n (Mc k 3)) (12 + 2) n x) (12 + 3) n y) (12 + 4) n z) 12 0 (nI (n + 1)) a i = Mc a i := fun a i q => by
        rw [mu_o (by omega), mu_o (by omega), mu_o (by omega), mu_o (by omega), mu_o (by omega)]
      have f2 : ∀ a i, a ≠ 205 → (a = 199 → i ≠ 2) → mu (mu (mu (mu (mu Mm 205 (4 * n) (Mm 199 0)) 205 (4 * n + 1) x) 205 (4 * n + 2) y) 205 (4 * n + 3) z) 199 2 (nI (n + 1)) a i = Mm a i := fun a i q1 q2 => by
        by_cases q : a = 199
        · subst q
          rw [mu_i (q2 rfl), mu_o (by omega), mu_o (by omega), mu_o (by omega), mu_o (by omega)]
        · rw [mu_o q, mu_o q1, mu_o q1, mu_o q1, mu_o q1]
      have mB : ∀ q ∈ FBk, q ∈ FC k false := fun q hq => mem_r (A := FCk k) hq
      refine ⟨_, _, rfl, rfl, ⟨((((a.mu (Or.inr (mB _ (by simp)))).mu (Or.inr (mB _ (by simp)))).mu (Or.inr (mB _ (by simp)))).mu (Or.inr (mB _ (by simp)))).mu (Or.inl (mB _ (by simp))), ((((b.mu (Or.inr (by decide))).mu (Or.inr (by decide))).mu (Or.inr (by decide))).mu (Or.inr (by decide))).mu (Or.inr (by decide)), ?_, fun _ => ⟨n + 1, by omega, by omega, mu_s, mu_s, fun i hi => ?_⟩⟩, f1, f2⟩
      · have ct : Tv (mu (mu (mu (mu (mu Mc (12 + 1) n (Mc k 3)) (12 + 2) n x) (12 + 3) n y) (12 + 4) n z) 12 0 (nI (n + 1))) k (Mm 199) := by
          unfold Tv at *
          have g : ∀ a, k ≤ a → a ≤ k + 9 → mu (mu (mu (mu (mu Mc (12 + 1) n (Mc k 3)) (12 + 2) n x) (12 + 3) n y) (12 + 4) n z) 12 0 (nI (n + 1)) a = Mc a := fun a q1 q2 => funext fun i => f1 a i (by omega)
          rw [g k (by omega) (by omega), g (k + 1) (by omega) (by omega), g (k + 2) (by omega) (by omega), g (k + 3) (by omega) (by omega), g (k + 7) (by omega) (by omega), g (k + 8) (by omega) (by omega), g (k + 9) (by omega) (by omega)]
          exact c
        exact Tv_r ct fun i hi => f2 199 i (by omega) (fun _ => hi)
      · by_cases q : i = n
        · subst q
          have e3 : Mc k 3 = Mm 199 0 := c.1.2.2.2
          simp (disch := omega) only [mu_o, mu_i, mu_s, e3, and_self]
        · have := k4 i (by omega)
          simpa (disch := omega) only [mu_o, mu_i, mu_s] using this
/-- a DRAW -/
theorem DR_draw (h0 : D0 k th P B Mc0 Mm0) (h : DR k th n0 Mc0 Mm0 Mc Mm) : ∃ v Mc' Mm', fX9_drawn k 1000 Mc = some (v, Mc') ∧ fX12_draw 1000 Mm = some (v, Mm') ∧ DR k th n0 Mc0 Mm0 Mc' Mm' := by
  have e : Mc k 0 = Mm 199 1 := h.2.2.1.1.1
  have r1 : ∀ M : Mem, rd M 199 83 1 = some (M 199 1) := fun M => rd_nI (j := 1) (by omega)
  have w1 : ∀ (M : Mem) (v : Int32), wr M 199 83 1 v = some (mu M 199 1 v) := fun M v => wr_nI (j := 1) (by omega)
  unfold fX9_drawn fX12_draw
  rw [bnd_eq, if_neg (by decide), if_neg (by decide), r1, Option.bind_some, w1, Option.bind_some, r1, Option.bind_some, if_neg (by decide), mu_s, mu_s, e]
  exact ⟨_, _, _, rfl, rfl, DR_draws h0 h _⟩
end DAY
