/-! ===== the memory: reads and writes at known places ===== -/
section LIB
variable {M : Mem} {k n j : Nat} {v : Int32}
theorem nin {n j : Nat} (h : j < n) (hn : n < 2 ^ 31) : ¬ (nI j < 0 ∨ n ≤ (nI j).toNatClampNeg) := by
  rw [nI_clamp (Nat.lt_trans h hn)]
  rintro (q | q)
  · exact nI_pos (Nat.lt_trans h hn) q
  · omega
theorem rd_nI (h : j < n) (hn : n < 2 ^ 31 := by decide) : rd M k n (nI j) = some (M k j) := by
  unfold rd
  rw [if_neg (nin h hn), nI_clamp (Nat.lt_trans h hn)]
theorem wr_nI (h : j < n) (hn : n < 2 ^ 31 := by decide) : wr M k n (nI j) v = some (mu M k j v) := by
  unfold wr
  rw [if_neg (nin h hn), nI_clamp (Nat.lt_trans h hn)]
theorem rdf_nI {f : Nat → Int32} (h : j < n) (hn : n < 2 ^ 31) : rdf f n (nI j) = some (f j) := by
  unfold rdf
  rw [if_neg (nin h hn), nI_clamp (Nat.lt_trans h hn)]
theorem rdt_nI (h : j < n) (hn : n < 2 ^ 31 := by decide) : rdt k n (nI j) = some (k + rtL.getD j 0) := by
  unfold rdt
  rw [if_neg (nin h hn), nI_clamp (Nat.lt_trans h hn)]
theorem mf_apply (M : Mem) (k : Nat) (f : Nat → Int32) (a i : Nat) : mf M k f a i = if a = k then f i else M a i := by
  unfold mf
  by_cases h : a = k
  · rw [if_pos h, if_pos h]
  · rw [if_neg h, if_neg h]
theorem cpy_apply {f g : Nat → Int32} {c i : Nat} : va_cpy f g 0 0 c i = if i < c then f i else g i := by
  unfold va_cpy
  by_cases h : i < c
  · rw [if_pos ⟨Nat.zero_le _, by omega⟩, if_pos h]; congr 1; omega
  · rw [if_neg (by omega), if_neg h]
theorem cpy_nI {k0 n0 k1 n1 c : Nat} (h0 : c ≤ n0) (h1 : c ≤ n1) (hc : c < 2 ^ 31) : cpy M k0 n0 k1 n1 0 0 (nI c) = some (mf M k1 (va_cpy (M k0) (M k1) 0 0 c)) := by
  unfold cpy
  have e0 : (0 : Int32).toNatClampNeg = 0 := by decide
  rw [nI_clamp hc, e0, if_neg]
  rintro (q | q | q | q | q)
  · exact absurd q (by decide)
  · exact absurd q (by decide)
  · exact nI_pos hc q
  · omega
  · omega
theorem mu_o {a i : Nat} (h : a ≠ k) : mu M k j v a i = M a i := by rw [mu_apply, if_neg h]
theorem mu_c {a : Nat} (h : a ≠ k) : mu M k j v a = M a := funext fun _ => mu_o h
theorem mu_s : mu M k j v k j = v := by rw [mu_apply, if_pos rfl, if_pos rfl]
theorem mu_i {i : Nat} (h : i ≠ j) : mu M k j v k i = M k i := by rw [mu_apply, if_pos rfl, if_neg h]
end LIB
/-! ===== ints ===== -/
theorem isW_isIn : fX11_isWithin = fX12_isIn := rfl
theorem isIn_eq (v a b : Int32) : fX12_isIn v a b = if a ≤ v ∧ v ≤ b then 1 else 0 := by
  unfold fX12_isIn
  by_cases h1 : v < a
  · rw [if_pos h1, if_neg (fun q => ?_)]
    exact absurd q.1 (by rw [fa_le]; rw [fa_lt] at h1; omega)
  · rw [if_neg h1]
    by_cases h2 : b < v
    · rw [if_pos h2, if_neg (fun q => ?_)]
      exact absurd q.2 (by rw [fa_le]; rw [fa_lt] at h2; omega)
    · rw [if_neg h2, if_pos ⟨fa_of_nlt h1, fa_of_nlt h2⟩]
theorem isIn_0 {v a b : Int32} : fX12_isIn v a b = 0 ↔ ¬ (a ≤ v ∧ v ≤ b) := by
  rw [isIn_eq]
  by_cases h : a ≤ v ∧ v ≤ b
  · rw [if_pos h]; exact ⟨fun q => absurd q (by decide), fun q => absurd h q⟩
  · rw [if_neg h]; exact ⟨fun _ => h, fun _ => rfl⟩
theorem isIn_no {v a b : Int32} (h : ¬ (a ≤ v ∧ v ≤ b)) : fX12_isIn v a b = 0 := isIn_0.mpr h
theorem isIn_yes {v a b : Int32} (h : a ≤ v ∧ v ≤ b) : fX12_isIn v a b = 1 := by rw [isIn_eq, if_pos h]
theorem isIn_z (v a b : Int32) : fX12_isIn v a b = 0 ∨ fX12_isIn v a b = 1 := by
  rw [isIn_eq]; split
  · exact Or.inr rfl
  · exact Or.inl rfl
theorem one_ne : ¬ (1 : Int32) = 0 := by decide
theorem in_of {v : Int32} {n : Nat} (hn : n < 2 ^ 31) (h : 0 ≤ v ∧ v ≤ nI n) : ∃ j, j ≤ n ∧ v = nI j := by
  obtain ⟨h0, h1⟩ := h
  exact nI_of2 (M := nI n) (n := n) (nI_toInt hn) (by rw [fa_lt]; rw [fa_le] at h0; have : (0 : Int32).toInt = 0 := by decide
                                                      omega) h1
theorem in_of1 {v : Int32} {m n : Nat} (hn : n < 2 ^ 31) (hm : m < 2 ^ 31) (h : nI m ≤ v ∧ v ≤ nI n) : ∃ j, m ≤ j ∧ j ≤ n ∧ v = nI j := by
  have h0 : 0 ≤ v := by
    have e : (0 : Int32).toInt = 0 := by decide
    have := h.1
    rw [fa_le, nI_toInt hm] at this
    rw [fa_le, e]; omega
  obtain ⟨j, h1, rfl⟩ := in_of hn ⟨h0, h.2⟩
  exact ⟨j, (nI_leI hm (by omega)).mp h.1, h1, rfl⟩
theorem lit (n : Nat) : (OfNat.ofNat n : Int32) = nI n := fa_lit n
theorem ladd (a b : Nat) : (OfNat.ofNat a : Int32) + nI b = nI (a + b) := by rw [fa_lit, nI_add]
theorem addl (a b : Nat) : nI a + (OfNat.ofNat b : Int32) = nI (a + b) := by rw [fa_lit, nI_add]
theorem lmul (a b : Nat) : (OfNat.ofNat a : Int32) * nI b = nI (a * b) := by rw [fa_lit, pk_mul]
theorem nI_sub1 {n : Nat} (h : 0 < n) : nI n - 1 = nI (n - 1) := by
  obtain ⟨m, rfl⟩ : ∃ m, n = m + 1 := ⟨n - 1, by omega⟩
  rw [nI_pred]; rfl
