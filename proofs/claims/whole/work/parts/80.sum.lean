/-! ===== text: sums ===== -/
section SUM
variable {L : Nat} {b : Nat → Nat} {τ p e z : Nat} {Mc Mm : Mem}
theorem hc_sign (h : HandC τ p e Mc) {c : Nat} (hc : mk c = true) : fX8_isSign (nI c) Mc = if τ = 100 + c then 1 else 0 := h.2.2.2.1 c hc
theorem hc_val (h : HandC τ p e Mc) (h1 : 100 ≤ τ) (h2 : τ < 1000) : Mc 178 7 = nI (τ - 100) := by
  rcases h.2.2.2.2 with ⟨q1, q2⟩ | ⟨q1, q2, q3, q4⟩ | ⟨q1, q2, q3, q4, q5⟩
  · omega
  · omega
  · exact q5 h1
/-- one of two signs is passed, if it is at hand -/
theorem pass_eq (h : PS L b τ p e z Mc Mm) {c d : Nat} (hc : mk c = true) (hd : mk d = true) :
    ((τ ≠ 100 + c ∧ τ ≠ 100 + d) ∧ fX8_passSign (nI c) (nI d) Mc = some (0, Mc)) ∨ ((τ = 100 + c ∨ τ = 100 + d) ∧ ∃ τ' p' e' Mc' Mm', fX8_passSign (nI c) (nI d) Mc = some (nI (τ - 100), Mc') ∧ fX12_reads Mm = some Mm' ∧ p < p' ∧ PS L b τ' p' e' z Mc' Mm' ∧ Df z Mm Mm') := by
  obtain ⟨h1, h2, h3, h4, h5, h6, h7, h8, h9, h10⟩ := id h
  unfold fX8_passSign
  rw [jn_eq, hc_sign h6 hc, hc_sign h6 hd]
  have c1 := mk_all c hc
  have d1 := mk_all d hd
  by_cases q : τ = 100 + c ∨ τ = 100 + d
  · right
    refine ⟨q, ?_⟩
    obtain ⟨τ', p', e', Mc2, Mm2, n1, n2, n3, n4, n5, n6⟩ := ps_next h
    have df : Df z Mm Mm2 := fun j hj => ⟨n6 213 j (by simp) (by simp), n6 214 j (by simp) (by simp)⟩
    refine ⟨τ', p', e', Mc2, Mm2, ?_, n3, by have := h4 (by omega); omega, n4, df⟩
    rw [bnd_eq, n2, Option.bind_some, hc_val h6 (by omega) (by omega)]
    by_cases w : τ = 100 + c
    · rw [if_pos w, if_neg one_ne]
    · rw [if_neg w, if_pos rfl, if_pos (show τ = 100 + d by omega), if_neg one_ne]
  · left
    refine ⟨by omega, ?_⟩
    rw [if_neg (show ¬ τ = 100 + c by omega), if_pos rfl, if_neg (show ¬ τ = 100 + d by omega), if_pos rfl]
def refP (π : Nat) (np : Nat) (M : Mem) : Option (Int32 × Mem) := (refU (decide (π = 47)) M).bind fun r => if r.1 = -1 then some (-1, r.2) else if π = 0 then fX12_readProduct_L10 np r.2 else (fX12_emits (if π = 42 then 4 else 5) 0 r.2).bind fun M10 => fX12_readProduct_L10 np M10
def refS (σ ns : Nat) (r : Int32 × Mem) : Option (Int32 × Mem) := if r.1 = -1 then some (-1, r.2) else if σ = 0 then fX12_readSum_L10 ns r.2 else (fX12_emits (if σ = 43 then 2 else 3) 0 r.2).bind fun M7 => fX12_readSum_L10 ns M7
theorem prod_is (M : Mem) : fX12_readProduct M = refP 0 FU M := by
  unfold fX12_readProduct refP refU
  rw [decide_eq_false (by omega), if_neg (show ¬ false = true by decide)]
  rfl
theorem sum_is (M : Mem) : fX12_readSum M = (refP 0 FU M).bind (refS 0 FU) := by
  unfold fX12_readSum refS
  rw [prod_is]
  rfl
theorem errs_m1 {k : Int32} {M M' : Mem} {r : Int32} (h : fX12_errs k M = some (r, M')) : r = -1 := by
  unfold fX12_errs at h
  rw [bnd_eq, bnd_eq] at h
  cases h; rfl
theorem rprod_step (h : HandM τ p e Mm) (n : Nat) : fX12_readProduct_L10 (n + 1) Mm = if τ = 142 then (fX12_reads Mm).bind fun M4 => refP 42 n M4 else if τ = 147 then (fX12_reads Mm).bind fun M4 => refP 47 n M4 else some (0, Mm) := by
  have s42 : fX12_isSign 42 Mm = if τ = 142 then 1 else 0 := hm_sign (c := 42) h (by decide)
  have s47 : fX12_isSign 47 Mm = if τ = 147 then 1 else 0 := hm_sign (c := 47) h (by decide)
  rw [fX12_readProduct_L10, jn_eq, bnd_eq, s42, s47]
  by_cases c1 : τ = 142
  · rw [if_pos c1, if_pos c1, if_neg one_ne]
    congr 1
  · rw [if_neg c1, if_neg c1, if_pos rfl]
    by_cases c2 : τ = 147
    · rw [if_pos c2, if_pos c2, if_neg one_ne]
      congr 1
      funext M4
      rw [jn_eq, if_pos rfl, jn_eq, if_pos rfl]
      unfold refP refU
      rw [decide_eq_true rfl, if_pos rfl]
      by_cases c3 : M4 198 16 = 3
      · rw [if_pos c3, if_pos c3]
        by_cases c4 : M4 198 17 = 0
        · rw [if_pos c4, if_pos c4]
          cases he : fX12_errs 2 M4 with
          | none => rfl
          | some r =>
            have := errs_m1 (r := r.1) (M' := r.2) he
            rw [Option.bind_some, Option.bind_some, this, if_pos rfl]
        · rw [if_neg c4, if_neg c4]
          congr 1
      · rw [if_neg c3, if_neg c3]
        cases he : fX12_errs 1 M4 with
        | none => rfl
        | some r =>
          have := errs_m1 (r := r.1) (M' := r.2) he
          rw [Option.bind_some, Option.bind_some, this, if_pos rfl]
    · rw [if_neg c2, if_neg c2, if_pos rfl]
theorem rsum_step (h : HandM τ p e Mm) (n : Nat) : fX12_readSum_L10 (n + 1) Mm = if τ = 143 then (fX12_reads Mm).bind fun M4 => (refP 0 FU M4).bind (refS 43 n) else if τ = 145 then (fX12_reads Mm).bind fun M4 => (refP 0 FU M4).bind (refS 45 n) else some (0, Mm) := by
  have s43 : fX12_isSign 43 Mm = if τ = 143 then 1 else 0 := hm_sign (c := 43) h (by decide)
  have s45 : fX12_isSign 45 Mm = if τ = 145 then 1 else 0 := hm_sign (c := 45) h (by decide)
  have v17 : ∀ c, mk c = true → τ = 100 + c → Mm 198 17 = nI c := fun c hc q => by
    have := mk_all c hc
    rcases h.2.2 with ⟨a, b⟩ | ⟨a, b⟩ | ⟨w', w1, a, b, d⟩ | ⟨c', w1, a, b, d⟩ | ⟨v', w1, a, b, d⟩
    · omega
    · omega
    · have := (mk_lt c this hc).2.1; omega
    · rw [d, show c' = c by omega]
    · omega
  rw [fX12_readSum_L10, jn_eq, jn_eq, s43, s45]
  by_cases c1 : τ = 143
  · have := v17 43 (by decide) c1
    rw [if_pos c1, if_pos c1, if_neg one_ne, if_pos (show Mm 198 17 = 43 from this)]
    congr 1
  · rw [if_neg c1, if_neg c1, if_pos rfl]
    by_cases c2 : τ = 145
    · have := v17 45 (by decide) c2
      rw [if_pos c2, if_pos c2, if_neg one_ne, if_neg (show ¬ Mm 198 17 = 43 from by rw [this]; decide)]
      congr 1
    · rw [if_neg c2, if_neg c2, if_pos rfl]
def stk (π σ : Nat) (s : List Bool) : List Bool := (if π = 0 then [] else [false]) ++ ((if σ = 0 then [] else [false]) ++ s)
end SUM
