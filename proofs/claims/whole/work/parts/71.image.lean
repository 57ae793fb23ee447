/-! ===== image: the reference's row of numbers ===== -/
def ipos (a i : Nat) : Nat :=
  if a = 199 ∧ i < 83 then i
  else if a = 198 ∧ i = 6 then 83 else if a = 198 ∧ i = 7 then 84 else if a = 198 ∧ i = 35 then 85 else if a = 198 ∧ i = 37 then 86 else if a = 198 ∧ i = 39 then 87 else if a = 198 ∧ i = 43 then 88 else if a = 198 ∧ i = 48 then 89
  else if a = 231 ∧ i < 2 then 90 + i
  else if a = 202 ∧ i < 14 then 92 + 5 * i else if a = 203 ∧ i < 14 then 93 + 5 * i else if a = 204 ∧ i < 14 then 94 + 5 * i else if a = 218 ∧ i < 14 then 95 + 5 * i else if a = 221 ∧ i < 14 then 96 + 5 * i
  else if a = 216 ∧ i < 48 then 162 + i
  else if a = 217 ∧ i < 64 then 210 + i
  else if a = 225 ∧ i < 16 then 274 + 2 * i else if a = 232 ∧ i < 16 then 275 + 2 * i
  else if a = 230 ∧ i < 9 then 306 + i
  else if a = 205 ∧ i < 600 then 315 + i
  else if a = 208 ∧ i = 0 then 915
  else if a = 209 ∧ i < 16 then 916 + 4 * i else if a = 210 ∧ i < 16 then 917 + 4 * i else if a = 211 ∧ i < 16 then 918 + 4 * i else if a = 212 ∧ i < 16 then 919 + 4 * i
  else if a = 213 ∧ i < 400 then 980 + 2 * i else if a = 214 ∧ i < 400 then 981 + 2 * i
  else 5000
def iinv (c : Nat) : Nat × Nat :=
  if c < 83 then (199, c)
  else if c = 83 then (198, 6) else if c = 84 then (198, 7) else if c = 85 then (198, 35) else if c = 86 then (198, 37) else if c = 87 then (198, 39) else if c = 88 then (198, 43) else if c = 89 then (198, 48)
  else if c < 92 then (231, c - 90)
  else if c < 162 then ((if (c - 92) % 5 = 0 then 202 else if (c - 92) % 5 = 1 then 203 else if (c - 92) % 5 = 2 then 204 else if (c - 92) % 5 = 3 then 218 else 221), (c - 92) / 5)
  else if c < 210 then (216, c - 162)
  else if c < 274 then (217, c - 210)
  else if c < 306 then ((if (c - 274) % 2 = 0 then 225 else 232), (c - 274) / 2)
  else if c < 315 then (230, c - 306)
  else if c < 915 then (205, c - 315)
  else if c = 915 then (208, 0)
  else if c < 980 then ((if (c - 916) % 4 = 0 then 209 else if (c - 916) % 4 = 1 then 210 else if (c - 916) % 4 = 2 then 211 else 212), (c - 916) / 4)
  else ((if (c - 980) % 2 = 0 then 213 else 214), (c - 980) / 2)
theorem ite_c {α : Type} {c : Prop} [Decidable c] {a b : α} {P : α → Prop} (h1 : c → P a) (h2 : ¬ c → P b) : P (if c then a else b) := by
  by_cases h : c
  · rw [if_pos h]; exact h1 h
  · rw [if_neg h]; exact h2 h
theorem iv199 : ∀ i, i < 83 → iinv (i) = (199, i) := by decide +kernel
theorem iv231 : ∀ i, i < 2 → iinv (90 + i) = (231, i) := by decide +kernel
theorem iv202 : ∀ i, i < 14 → iinv (92 + 5 * i) = (202, i) := by decide +kernel
theorem iv203 : ∀ i, i < 14 → iinv (93 + 5 * i) = (203, i) := by decide +kernel
theorem iv204 : ∀ i, i < 14 → iinv (94 + 5 * i) = (204, i) := by decide +kernel
theorem iv218 : ∀ i, i < 14 → iinv (95 + 5 * i) = (218, i) := by decide +kernel
theorem iv221 : ∀ i, i < 14 → iinv (96 + 5 * i) = (221, i) := by decide +kernel
theorem iv216 : ∀ i, i < 48 → iinv (162 + i) = (216, i) := by decide +kernel
theorem iv217 : ∀ i, i < 64 → iinv (210 + i) = (217, i) := by decide +kernel
theorem iv225 : ∀ i, i < 16 → iinv (274 + 2 * i) = (225, i) := by decide +kernel
theorem iv232 : ∀ i, i < 16 → iinv (275 + 2 * i) = (232, i) := by decide +kernel
theorem iv230 : ∀ i, i < 9 → iinv (306 + i) = (230, i) := by decide +kernel
theorem iv205 : ∀ i, i < 600 → iinv (315 + i) = (205, i) := by decide +kernel
theorem iv209 : ∀ i, i < 16 → iinv (916 + 4 * i) = (209, i) := by decide +kernel
theorem iv210 : ∀ i, i < 16 → iinv (917 + 4 * i) = (210, i) := by decide +kernel
theorem iv211 : ∀ i, i < 16 → iinv (918 + 4 * i) = (211, i) := by decide +kernel
theorem iv212 : ∀ i, i < 16 → iinv (919 + 4 * i) = (212, i) := by decide +kernel
theorem iv213 : ∀ i, i < 400 → iinv (980 + 2 * i) = (213, i) := by decide +kernel
theorem iv214 : ∀ i, i < 400 → iinv (981 + 2 * i) = (214, i) := by decide +kernel
theorem iinv_is : ∀ a i, ipos a i < 5000 → iinv (ipos a i) = (a, i) := by
  intro a i
  unfold ipos
  repeat' (refine ite_c (P := fun c => c < 5000 → iinv c = (a, i)) (fun h _ => ?_) (fun _ => ?_))
  all_goals first
    | (intro h; exact absurd h (by omega))
    | (obtain ⟨rfl, hi⟩ := h
       first
         | (subst hi; decide)
         | exact iv199 _ hi
         | exact iv231 _ hi
         | exact iv202 _ hi
         | exact iv203 _ hi
         | exact iv204 _ hi
         | exact iv218 _ hi
         | exact iv221 _ hi
         | exact iv216 _ hi
         | exact iv217 _ hi
         | exact iv225 _ hi
         | exact iv232 _ hi
         | exact iv230 _ hi
         | exact iv205 _ hi
         | exact iv209 _ hi
         | exact iv210 _ hi
         | exact iv211 _ hi
         | exact iv212 _ hi
         | exact iv213 _ hi
         | exact iv214 _ hi)
/-- which numbers THE IMAGE has, at which places -/
theorem ipos_inj {a i a' i' : Nat} (h : ipos a i < 5000) (e : ipos a' i' = ipos a i) : a' = a ∧ i' = i := by
  have h1 := iinv_is a i h
  have h2 := iinv_is a' i' (by rw [e]; exact h)
  rw [e, h1] at h2
  cases h2
  exact ⟨rfl, rfl⟩
theorem unimg_ipos {M : Mem} {a i : Nat} (h : ipos a i < 5000) : unimg M a i = M 234 (ipos a i) := by
  revert h
  unfold ipos
  repeat' (refine ite_c (P := fun c => c < 5000 → unimg M a i = M 234 c) (fun h _ => ?_) (fun _ => ?_))
  all_goals first
    | (intro h; exact absurd h (by omega))
    | (obtain ⟨rfl, hi⟩ := h
       first
         | (subst hi; rfl)
         | rfl)
/-- THE IMAGE being taken (tk) or gone back to, its first c numbers done, since M0 -/
def ImS (tk : Bool) (M0 : Mem) (c : Nat) (M : Mem) : Prop := M 198 60 = nI c ∧ M 198 58 = (if tk then 1 else 0) ∧
  (tk = true → (∀ a i, a ≠ 234 → ¬ (a = 198 ∧ i = 60) → M a i = M0 a i) ∧ ∀ a i, ipos a i < c → ipos a i < 5000 → M 234 (ipos a i) = M0 a i) ∧
  (tk = false → (∀ a i, ¬ (a = 198 ∧ i = 60) → (c ≤ ipos a i ∨ 5000 ≤ ipos a i) → M a i = M0 a i) ∧ ∀ a i, ipos a i < c → ipos a i < 5000 → M a i = M0 234 (ipos a i))
theorem ip234 (i : Nat) : ipos 234 i = 5000 := rfl
theorem ip198_60 : ipos 198 60 = 5000 := by decide
theorem ip198_58 : ipos 198 58 = 5000 := by decide
/-- one number -/
theorem ik_step {tk : Bool} {M0 M : Mem} {c a i : Nat} (h : ImS tk M0 c M) (hc : c < 1780) (hp : ipos a i = c) : ∃ M', (∀ (α : Type) (K : Int32 × Mem → Option α), (fX12_keeps (M a i) M).bind K = K (if tk then (M a i, M') else (M 234 c, mu M 198 60 (nI (c + 1))))) ∧ M' = (if tk then mu (mu M 198 60 (nI (c + 1))) 234 c (M a i) else mu (mu M 198 60 (nI (c + 1))) a i (M 234 c)) ∧ ImS tk M0 (c + 1) M' := by
  obtain ⟨h1, h2, h3, h4⟩ := h
  have h5 : ipos a i < 5000 := by omega
  have na : a ≠ 234 := fun e => by rw [e, ip234] at hp; omega
  have n60 : ¬ (a = 198 ∧ i = 60) := fun e => by rw [e.1, e.2, ip198_60] at hp; omega
  have n58 : ¬ (a = 198 ∧ i = 58) := fun e => by rw [e.1, e.2, ip198_58] at hp; omega
  cases tk with
  | true =>
    obtain ⟨g1, g2⟩ := h3 rfl
    refine ⟨_, fun α K => ?_, rfl, ?_⟩
    · unfold fX12_keeps
      rw [bnd_eq, mu_i (by omega), h2, if_pos rfl, if_neg one_ne, mu_s, h1, nI_1, nI_pred, wr_nI (by omega), Option.bind_some, Option.bind_some, if_pos rfl, if_pos rfl]
    · rw [if_pos rfl]
      refine ⟨by rw [mu_o (by omega), mu_s], by rw [mu_o (by omega), mu_i (by omega)]; exact h2, fun _ => ⟨fun a' i' q1 q2 => ?_, fun a' i' q1 q2 => ?_⟩, fun e => (by cases e)⟩
      · rw [mu_o q1]
        by_cases e : a' = 198
        · subst e; rw [mu_i (fun q => q2 ⟨rfl, q⟩)]; exact g1 _ _ q1 q2
        · rw [mu_o e]; exact g1 _ _ q1 q2
      · by_cases e : ipos a' i' = c
        · obtain ⟨e1, e2⟩ := ipos_inj h5 (e.trans hp.symm)
          subst e1; subst e2
          rw [e, mu_s]; exact g1 _ _ na n60
        · rw [mu_i e, mu_o (by omega)]; exact g2 _ _ (by omega) q2
  | false =>
    obtain ⟨g1, g2⟩ := h4 rfl
    have e234 : M 234 c = M0 234 c := g1 234 c (by omega) (Or.inr (by rw [ip234]; omega))
    refine ⟨_, fun α K => ?_, rfl, ?_⟩
    · unfold fX12_keeps
      rw [bnd_eq, mu_i (by omega), h2, if_neg (show ¬ false = true by decide), if_pos rfl, mu_s, h1, nI_1, nI_pred, rd_nI (by omega), mu_o (by omega), Option.bind_some, Option.bind_some, if_neg (show ¬ false = true by decide)]
    · rw [if_neg (show ¬ false = true by decide)]
      have w60 : mu (mu M 198 60 (nI (c + 1))) a i (M 234 c) 198 60 = nI (c + 1) := by
        by_cases e : a = 198
        · subst e; rw [mu_i (fun q => n60 ⟨rfl, q.symm⟩), mu_s]
        · rw [mu_o (fun q => e q.symm), mu_s]
      have w58 : mu (mu M 198 60 (nI (c + 1))) a i (M 234 c) 198 58 = M 198 58 := by
        by_cases e : a = 198
        · subst e; rw [mu_i (fun q => n58 ⟨rfl, q.symm⟩), mu_i (by omega)]
        · rw [mu_o (fun q => e q.symm), mu_i (by omega)]
      have oth : ∀ a' i', ¬ (a' = 198 ∧ i' = 60) → ¬ (a' = a ∧ i' = i) → mu (mu M 198 60 (nI (c + 1))) a i (M 234 c) a' i' = M a' i' := fun a' i' q1 q2 => by
        have s1 : mu M 198 60 (nI (c + 1)) a' i' = M a' i' := by
          by_cases e : a' = 198
          · subst e; exact mu_i (fun q => q1 ⟨rfl, q⟩)
          · exact mu_o e
        by_cases e : a' = a
        · subst e; rw [mu_i (fun q => q2 ⟨rfl, q⟩)]; exact s1
        · rw [mu_o e]; exact s1
      refine ⟨w60, by rw [w58]; exact h2, fun e => (by cases e), fun _ => ⟨fun a' i' q1 q2 => ?_, fun a' i' q1 q2 => ?_⟩⟩
      · rw [oth a' i' q1 (fun e => by rw [e.1, e.2, hp] at q2; omega)]
        exact g1 a' i' q1 (by omega)
      · by_cases e : ipos a' i' = c
        · obtain ⟨e1, e2⟩ := ipos_inj h5 (e.trans hp.symm)
          subst e1; subst e2
          rw [mu_s, e]; exact e234
        · rw [oth a' i' (fun q => by rw [q.1, q.2, ip198_60] at q2; omega) (fun q => e (by rw [q.1, q.2]; exact hp))]
          exact g2 a' i' (by omega) q2
/-- one number of a row: read, kept, written -/
theorem ik_arr {tk : Bool} {M0 M : Mem} {c a n i : Nat} (h : ImS tk M0 c M) (hc : c < 1780) (hp : ipos a i = c) (hn : i < n) (hn2 : n < 2 ^ 31) : ∃ M', ImS tk M0 (c + 1) M' ∧ ∀ (α : Type) (K : Mem → Option α), ((rd M a n (nI i)).bind fun v => (fX12_keeps v M).bind fun r => (wr r.2 a n (nI i) r.1).bind K) = K M' := by
  obtain ⟨M', e1, e2, e3⟩ := ik_step h hc hp
  have na : a ≠ 234 := fun e => by rw [e, ip234] at hp; omega
  refine ⟨M', e3, fun α K => ?_⟩
  rw [rd_nI hn hn2, Option.bind_some, e1]
  cases tk with
  | true =>
    rw [if_pos rfl] at e2
    rw [if_pos rfl]
    dsimp only
    rw [wr_nI hn hn2, Option.bind_some]
    congr 1
    have n60 : ¬ (a = 198 ∧ i = 60) := fun e => by rw [e.1, e.2, ip198_60] at hp; omega
    have : M' a i = M a i := by
      rw [e2, mu_o na]
      by_cases e : a = 198
      · subst e; exact mu_i (fun q => n60 ⟨rfl, q⟩)
      · exact mu_o e
    rw [← this, mu_same]
  | false =>
    rw [if_neg (show ¬ false = true by decide)] at e2
    rw [if_neg (show ¬ false = true by decide)]
    dsimp only
    rw [wr_nI hn hn2, Option.bind_some, e2]
/-- one number that is a field -/
theorem ik_fld {tk : Bool} {M0 M : Mem} {c i : Nat} (h : ImS tk M0 c M) (hc : c < 1780) (hp : ipos 198 i = c) : ∃ M', ImS tk M0 (c + 1) M' ∧ ∀ (α : Type) (K : Mem → Option α), ((fX12_keeps (M 198 i) M).bind fun r => bnd (mu r.2 198 i r.1) K) = K M' := by
  obtain ⟨M', e1, e2, e3⟩ := ik_step h hc hp
  refine ⟨M', e3, fun α K => ?_⟩
  rw [e1]
  cases tk with
  | true =>
    rw [if_pos rfl] at e2
    rw [if_pos rfl]
    dsimp only
    rw [bnd_eq]
    congr 1
    have n60 : i ≠ 60 := fun e => by rw [e, ip198_60] at hp; omega
    have : M' 198 i = M 198 i := by
      rw [e2, mu_o (by omega)]
      exact mu_i n60
    rw [← this, mu_same]
  | false =>
    rw [if_neg (show ¬ false = true by decide)] at e2
    rw [if_neg (show ¬ false = true by decide)]
    dsimp only
    rw [bnd_eq, e2]
