/-! ===== text: the state of reading ===== -/
theorem isW_congr {Mc Mc' : Mem} (h4 : Mc' 178 4 = Mc 178 4) (h5 : Mc' 178 5 = Mc 178 5) (h6 : Mc' 178 6 = Mc 178 6) (h9 : Mc' 179 = Mc 179) (i : Nat) : fX8_isWord i Mc' = fX8_isWord i Mc := by
  have l : ∀ (F : Nat) (K : Option Int32) (y : Int32), fX8_isWord_L28 K i Mc' F y = fX8_isWord_L28 K i Mc F y := by
    intro F
    induction F with
    | zero => intro K y; rfl
    | succ F ih =>
      intro K y
      have r : ∀ x, rd Mc' 179 400 x = rd Mc 179 400 x := fun x => by unfold rd; rw [h9]
      rw [fX8_isWord_L28, fX8_isWord_L28, h5, r, ih]
  unfold fX8_isWord
  rw [h4, h5, h6, l]
theorem HandC_congr {τ p e : Nat} {Mc Mc' : Mem} (h : HandC τ p e Mc) (h4 : Mc' 178 4 = Mc 178 4) (h5 : Mc' 178 5 = Mc 178 5) (h6 : Mc' 178 6 = Mc 178 6) (h7 : Mc' 178 7 = Mc 178 7) (h9 : Mc' 179 = Mc 179) : HandC τ p e Mc' := by
  obtain ⟨a1, a2, a3, a4, a5⟩ := h
  refine ⟨h5.trans a1, h6.trans a2, fun i hi => by rw [isW_congr h4 h5 h6 h9]; exact a3 i hi, fun c hc => ?_, by rw [h4, h7]; exact a5⟩
  have := a4 c hc
  unfold fX8_isSign at *
  rw [h4, h7]; exact this
theorem HandM_congr {τ p e : Nat} {Mm Mm' : Mem} (h : HandM τ p e Mm) (h4 : Mm' 198 14 = Mm 198 14) (h5 : Mm' 198 15 = Mm 198 15) (h6 : Mm' 198 16 = Mm 198 16) (h7 : Mm' 198 17 = Mm 198 17) : HandM τ p e Mm' := by
  unfold HandM at *
  rw [h4, h5, h6, h7]; exact h
theorem hm_sign {τ p e c : Nat} {Mm : Mem} (h : HandM τ p e Mm) (hc : mk c = true) : fX12_isSign (nI c) Mm = if τ = 100 + c then 1 else 0 := by
  have c1 := mk_lt c (mk_all c hc) hc
  unfold fX12_isSign
  rcases h.2.2 with ⟨a, b⟩ | ⟨a, b⟩ | ⟨w, w1, a, b, d⟩ | ⟨c', w1, a, b, d⟩ | ⟨v, w1, a, b, d⟩
  · rw [b, if_neg (by decide), if_neg (by omega)]
  · rw [b, if_neg (by decide), if_neg (by omega)]
  · rw [b, if_neg (by decide), if_neg (by omega)]
  · have c2 := mk_lt c' (mk_all c' w1) w1
    rw [b, if_pos rfl, d]
    by_cases q : c' = c
    · rw [if_pos (by rw [q]), if_pos (by omega)]
    · rw [if_neg (fun z => q ((nI_eqb (by omega) (by omega)).mp z)), if_neg (by omega)]
  · rw [b, if_neg (by decide), if_neg (by omega)]
theorem hm_word {τ p e w : Nat} {Mm : Mem} (h : HandM τ p e Mm) (hw : w < 22) : fX12_isWord (nI w) Mm = if τ = 10 + w then 1 else 0 := by
  unfold fX12_isWord
  rcases h.2.2 with ⟨a, b⟩ | ⟨a, b⟩ | ⟨w', w1, a, b, d⟩ | ⟨c', w1, a, b, d⟩ | ⟨v, w1, a, b, d⟩
  · rw [b, if_neg (by decide), if_neg (by omega)]
  · rw [b, if_neg (by decide), if_neg (by omega)]
  · rw [b, if_pos rfl, d]
    by_cases q : w' = w
    · rw [if_pos (by rw [q]), if_pos (by omega)]
    · rw [if_neg (fun z => q ((nI_eqb (by omega) (by omega)).mp z)), if_neg (by omega)]
  · have c2 := mk_lt c' (mk_all c' w1) w1
    rw [b, if_neg (by decide), if_neg (by omega)]
  · rw [b, if_neg (by decide), if_neg (by omega)]
/-- what kinds of token there are -/
theorem hm_tok {τ p e : Nat} {Mm : Mem} (h : HandM τ p e Mm) : τ = 0 ∨ τ = 1 ∨ (∃ w, w < 22 ∧ τ = 10 + w) ∨ (∃ c, mk c = true ∧ τ = 100 + c) ∨ ∃ v, v ≤ 9999 ∧ τ = 1000 + v := by
  rcases h.2.2 with ⟨a, b⟩ | ⟨a, b⟩ | ⟨w', w1, a, b, d⟩ | ⟨c', w1, a, b, d⟩ | ⟨v, w1, a, b, d⟩
  · exact Or.inl a
  · exact Or.inr (Or.inl a)
  · exact Or.inr (Or.inr (Or.inl ⟨w', w1, a⟩))
  · exact Or.inr (Or.inr (Or.inr (Or.inl ⟨c', w1, a⟩)))
  · exact Or.inr (Or.inr (Or.inr (Or.inr ⟨v, w1, a⟩)))
def PS (L : Nat) (b : Nat → Nat) (τ p e z : Nat) (Mc Mm : Mem) : Prop := TpR L b Mc Mm ∧ p ≤ e ∧ e ≤ L ∧ (1 ≤ τ → p < e) ∧ (τ = 0 → p = L) ∧ HandC τ p e Mc ∧ HandM τ p e Mm ∧ Mc 181 1 = nI z ∧ Mm 198 27 = nI z ∧ ∀ j, j < z → cdR (Mc 186 j) (Mm 213 (800 + j)) (Mm 214 (800 + j))
/-- what was coded before stays -/
def Df (z : Nat) (Mm Mm' : Mem) : Prop := ∀ j, j < 800 + z → Mm' 213 j = Mm 213 j ∧ Mm' 214 j = Mm 214 j
theorem Df.rfl' {z : Nat} {M : Mem} : Df z M M := fun _ _ => ⟨rfl, rfl⟩
theorem Df.trans {z z' : Nat} {M M' M'' : Mem} (h1 : Df z M M') (h2 : Df z' M' M'') (hz : z ≤ z') : Df z M M'' := fun j hj => ⟨(h2 j (by omega)).1.trans (h1 j hj).1, (h2 j (by omega)).2.trans (h1 j hj).2⟩
section PARSE
variable {L : Nat} {b : Nat → Nat} {τ p e z : Nat} {Mc Mm : Mem}
theorem ps_next (h : PS L b τ p e z Mc Mm) : ∃ τ' p' e' Mc' Mm', e ≤ p' ∧ fX8_advance Mc = some Mc' ∧ fX12_reads Mm = some Mm' ∧ PS L b τ' p' e' z Mc' Mm' ∧ Agr [(178, some 4), (178, some 5), (178, some 6), (178, some 7)] Mc Mc' ∧ Agr [(198, some 14), (198, some 15), (198, some 16), (198, some 17)] Mm Mm' := by
  obtain ⟨h1, h2, h3, h4, h5, h6, h7, h8, h9, h10⟩ := h
  obtain ⟨τ', p', e', Mc', Mm', a1, a2, a3, a4, a5, a6, a7, a8, a9⟩ := tok_step h1 h3 h6.2.1 h7.2.1
  have hc : Agr [(178, some 4), (178, some 5), (178, some 6), (178, some 7)] Mc Mc' := Agr.ofU (wX8_advance Mc) a6
  have hm : Agr [(198, some 14), (198, some 15), (198, some 16), (198, some 17)] Mm Mm' := Agr.ofU (wX12_reads Mm) a7
  refine ⟨τ', p', e', Mc', Mm', a1, a6, a7, ⟨?_, a2, a3, a4, a5, a8, a9, ?_, ?_, fun j hj => ?_⟩, hc, hm⟩
  · exact TpR_m (TpR_c h1 (hc 178 1 (by decide) (by decide)) (funext fun i => hc 179 i (by simp) (by simp))) (hm 198 13 (by decide) (by decide)) (funext fun i => hm 206 i (by simp) (by simp)) (funext fun i => hm 207 i (by simp) (by simp))
  · rw [hc 181 1 (by decide) (by decide)]; exact h8
  · rw [hm 198 27 (by decide) (by decide)]; exact h9
  · rw [hc 186 j (by simp) (by simp), hm 213 _ (by simp) (by simp), hm 214 _ (by simp) (by simp)]; exact h10 j hj
theorem ps_put (h : PS L b τ p e z Mc Mm) (hz : z < 400) {c o a : Int32} (hcd : cdR c o a) : ∃ Mc' Mm', fX1_put c Mc = some Mc' ∧ fX12_emits o a Mm = some Mm' ∧ PS L b τ p e (z + 1) Mc' Mm' ∧ Df z Mm Mm' ∧ Mm' 213 (800 + z) = o ∧ Mm' 214 (800 + z) = a := by
  obtain ⟨h1, h2, h3, h4, h5, h6, h7, h8, h9, h10⟩ := h
  have e1 : fX1_put c Mc = some (mu (mu Mc 186 z c) 181 1 (nI (z + 1))) := by
    unfold fX1_put
    rw [h8, if_neg (show ¬ (400 : Int32) ≤ nI z from nI_ge (show z < 400 from hz) (by decide)), wr_nI hz, Option.bind_some, bnd_eq, mu_o (by omega), h8, nI_1]
  have e2 : fX12_emits o a Mm = some (mu (mu (mu Mm 213 (800 + z) o) 214 (800 + z) a) 198 27 (nI (z + 1))) := by
    unfold fX12_emits
    rw [h9, ladd 800 z, wr_nI (by omega), Option.bind_some, mu_o (by omega), h9, ladd 800 z, wr_nI (by omega), Option.bind_some, bnd_eq, mu_o (by omega), mu_o (by omega), h9, nI_1]
  refine ⟨_, _, e1, e2, ⟨?_, h2, h3, h4, h5, ?_, ?_, mu_s, mu_s, fun j hj => ?_⟩, fun j hj => ⟨?_, ?_⟩, ?_, ?_⟩
  · exact TpR_m (TpR_c h1 (by rw [mu_o (by omega), mu_o (by omega)]) (by rw [mu_c (by omega), mu_c (by omega)])) (by rw [mu_i (by omega), mu_o (by omega), mu_o (by omega)]) (by rw [mu_c (by omega), mu_c (by omega), mu_c (by omega)]) (by rw [mu_c (by omega), mu_c (by omega), mu_c (by omega)])
  · exact HandC_congr h6 (by rw [mu_o (by omega), mu_o (by omega)]) (by rw [mu_o (by omega), mu_o (by omega)]) (by rw [mu_o (by omega), mu_o (by omega)]) (by rw [mu_o (by omega), mu_o (by omega)]) (by rw [mu_c (by omega), mu_c (by omega)])
  · exact HandM_congr h7 (by rw [mu_i (by omega), mu_o (by omega), mu_o (by omega)]) (by rw [mu_i (by omega), mu_o (by omega), mu_o (by omega)]) (by rw [mu_i (by omega), mu_o (by omega), mu_o (by omega)]) (by rw [mu_i (by omega), mu_o (by omega), mu_o (by omega)])
  · by_cases q : j = z
    · subst q
      rw [mu_o (by omega), mu_s, mu_o (by omega), mu_o (by omega), mu_s, mu_o (by omega), mu_s]; exact hcd
    · rw [mu_o (by omega), mu_i q, mu_o (by omega), mu_o (by omega), mu_i (by omega), mu_o (by omega), mu_i (by omega), mu_o (by omega)]
      exact h10 j (by omega)
  · rw [mu_o (by omega), mu_o (by omega), mu_i (by omega)]
  · rw [mu_o (by omega), mu_i (by omega), mu_o (by omega)]
  · rw [mu_o (by omega), mu_o (by omega), mu_s]
  · rw [mu_o (by omega), mu_s]
/-- a FAULT on both sides -/
def FR (Mc Mm : Mem) : Prop := Mc 178 2 = Mm 198 31 ∧ Mc 178 3 = Mm 198 32
theorem ps_fault (h : PS L b τ p e z Mc Mm) (k : Int32) : ∃ Mc' Mm', fX8_refuse k Mc = some (0, Mc') ∧ fX12_errs k Mm = some (-1, Mm') ∧ FR Mc' Mm' ∧ Df z Mm Mm' := by
  obtain ⟨h1, h2, h3, h4, h5, h6, h7, h8, h9, h10⟩ := h
  unfold fX8_refuse fX12_errs
  rw [bnd_eq, bnd_eq, bnd_eq, bnd_eq]
  refine ⟨_, _, rfl, rfl, ⟨?_, ?_⟩, fun j hj => ⟨?_, ?_⟩⟩
  · rw [mu_i (by omega), mu_s, mu_i (by omega), mu_s]
  · rw [mu_s, mu_s, mu_i (by omega), mu_i (by omega), h6.1, h7.1]
  · rw [mu_o (by omega), mu_o (by omega)]
  · rw [mu_o (by omega), mu_o (by omega)]
theorem b01 {c : Int32} {M : Mem} : (if (0 : Int32) = 0 ∨ (0 : Int32) = 1 then some ((0 : Int32), M) else none) = some (0, M) := if_pos (Or.inl rfl)
theorem tck_app {op arg : Nat → Int32} : ∀ (n m i : Nat) (s s1 : List Bool), tck op arg i n s = some s1 → tck op arg i (n + m) s = tck op arg (i + n) m s1
  | 0, m, i, s, s1, h => by
    have h : some s = some s1 := h
    cases h; rw [Nat.zero_add]; rfl
  | n + 1, m, i, s, s1, h => by
    rw [show n + 1 + m = n + m + 1 by omega, tck]
    rw [tck] at h
    by_cases c : op i = 5 ∧ ¬ (0 < i ∧ op (i - 1) = 0 ∧ arg (i - 1) ≠ 0)
    · rw [if_pos c] at h; cases h
    · rw [if_neg c] at h ⊢
      cases ht : tst (op i) s with
      | none => rw [ht] at h; cases h
      | some s2 =>
        rw [ht, Option.bind_some] at h
        rw [Option.bind_some, tck_app n m (i + 1) s2 s1 h, show i + 1 + n = i + (n + 1) by omega]
/-- the codes of a draft -/
def dop (M : Mem) (j : Nat) : Int32 := M 213 (800 + j)
def dar (M : Mem) (j : Nat) : Int32 := M 214 (800 + j)
theorem tck_df {M M' : Mem} {z i n : Nat} {s : List Bool} (h : Df z M M') (hz : i + n ≤ z) : tck (dop M') (dar M') i n s = tck (dop M) (dar M) i n s := tck_congr n i s fun j hj => ⟨(h (800 + j) (by omega)).1, (h (800 + j) (by omega)).2⟩
end PARSE
