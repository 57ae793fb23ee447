/-! ===== own ===== -/
theorem SmP.fr {f1 : Mem → Option Int32} {F2 : Mem → Option (Int32 × Mem)} {S2 : List (Nat × Option Nat)} (w2 : ∀ M, Fr S2 rmW M (F2 M)) (d : dj S2 fmAll = true) (h : ∀ Mc Mm, AR Mc Mm → ∃ r Mm', f1 Mc = some r ∧ F2 Mm = some (r, Mm')) : SmP f1 F2 := fun Mc Mm hA => by
  obtain ⟨r, Mm', e1, e2⟩ := h Mc Mm hA
  exact ⟨r, Mm', e1, e2, AR_m (Agr.of (w2 Mm) e2) d hA⟩
def kcn : Nat → Nat → Nat → Nat
  | 0, _, _ => 0
  | k + 1, v, z => (if v % 10 = z then 1 else 0) + kcn k (v / 10) z
def fA (L : List Nat) (a : Nat) : Nat := L.foldl (fun a z => a * 10 + z) a
def fB : List Nat → Nat → Nat → Nat
  | [], b, _ => b
  | z :: L, b, c => fB L (b + z * c) (c * 10)
def fC : List Nat → Nat → Nat
  | [], c => c
  | _ :: L, c => fC L (c * 10)
theorem fA_app (L L' : List Nat) (a : Nat) : fA (L ++ L') a = fA L' (fA L a) := by unfold fA; rw [List.foldl_append]
theorem fC_app : ∀ (L L' : List Nat) (c : Nat), fC (L ++ L') c = fC L' (fC L c)
  | [], _, _ => rfl
  | _ :: L, L', c => fC_app L L' (c * 10)
theorem fB_app : ∀ (L L' : List Nat) (b c : Nat), fB (L ++ L') b c = fB L' (fB L b c) (fC L c)
  | [], _, _, _ => rfl
  | z :: L, L', b, c => fB_app L L' (b + z * c) (c * 10)
theorem fB_rev : ∀ (L : List Nat) (b c : Nat), fB L b c = b + c * fA L.reverse 0
  | [], b, c => rfl
  | z :: L, b, c => by
    rw [fB, fB_rev L, List.reverse_cons, fA_app]
    show _ = b + c * (fA L.reverse 0 * 10 + z)
    rw [Nat.mul_add, Nat.mul_assoc, Nat.mul_comm 10, Nat.mul_comm z, Nat.add_assoc, Nat.add_comm (c * z)]
theorem L21 {K : Int32 → Int32 → Int32 → Option Int32} {z : Nat} (hz : z ≤ 9) : ∀ (k F j v a b c : Nat), j + k = 4 → k < F → v < 10000 → fX5_ownDifference_L21 K (nI z) F (nI a) (nI b) (nI c) (nI v) (nI j) = K (nI (fA (List.replicate (kcn k v z) z) a)) (nI (fB (List.replicate (kcn k v z) z) b c)) (nI (fC (List.replicate (kcn k v z) z) c))
  | k, 0, j, v, a, b, c, _, h, _ => by omega
  | 0, F + 1, j, v, a, b, c, h1, h2, h3 => by
    have e : j = 4 := by omega
    subst e
    rw [fX5_ownDifference_L21, if_pos (by decide)]; rfl
  | k + 1, F + 1, j, v, a, b, c, h1, h2, h3 => by
    have l10 : (10 : Int32) = nI 10 := rfl
    have c4 : ¬ (4 : Int32) ≤ nI j := nI_ge (show j < 4 by omega) (by decide)
    rw [fX5_ownDifference_L21, if_neg c4]
    dsimp only [jn, bnd]
    unfold jrem
    rw [l10, pk_rem (by omega) (by decide) (by decide), pk_div (by omega) (by decide) (by decide), nI_1, pk_mul, pk_mul, pk_mul, nI_add, nI_add, L21 hz k F (j + 1) (v / 10) _ _ _ (by omega) (by omega) (by omega), L21 hz k F (j + 1) (v / 10) _ _ _ (by omega) (by omega) (by omega), kcn]
    by_cases q : v % 10 = z
    · rw [if_pos (by rw [q]), if_pos q, Nat.add_comm 1, List.replicate_succ]; rfl
    · rw [if_neg (fun w => q ((nI_eqb (by omega) (by omega)).mp w)), if_neg q, Nat.zero_add]
def Ld (v : Nat) : Nat → List Nat
  | 0 => []
  | z + 1 => List.replicate (kcn 4 v z) z ++ Ld v z
def La (v : Nat) : Nat → Nat → List Nat
  | 0, _ => []
  | k + 1, z => List.replicate (kcn 4 v z) z ++ La v k (z + 1)
theorem Ld_rev (v : Nat) : ∀ k z, (Ld v (z + k)).reverse = (Ld v z).reverse ++ La v k z
  | 0, z => by rw [La, List.append_nil]; rfl
  | k + 1, z => by
    rw [show z + (k + 1) = z + 1 + k by omega, Ld_rev v k (z + 1), Ld, List.reverse_append, List.reverse_replicate, List.append_assoc]; rfl
theorem L10 {v : Nat} (hv : v < 10000) : ∀ (z F a b c : Nat), z ≤ 9 → z + 1 < F → fX5_ownDifference_L10 (nI v) F (nI a) (nI b) (nI c) (nI z) = some (nI (fA (Ld v (z + 1)) a) - nI (fB (Ld v (z + 1)) b c))
  | z, 0, a, b, c, _, h => by omega
  | 0, 1, a, b, c, _, h => by omega
  | 0, F + 2, a, b, c, h1, h2 => by
    have e := L21 (z := 0) (by omega) (K := fun e9 e10 e11 => fX5_ownDifference_L10 (nI v) (F + 1) e9 e10 e11 (nI 0 + (-1))) 4 FU 0 v a b c (by omega) (FU_gt (by omega)) hv
    rw [fX5_ownDifference_L10, if_neg (by decide)]
    refine Eq.trans e ?_
    show fX5_ownDifference_L10 _ _ _ _ _ _ = _
    rw [fX5_ownDifference_L10, if_pos (by decide), Ld, Ld, List.append_nil]
  | z + 1, F + 1, a, b, c, h1, h2 => by
    have e := L21 (z := z + 1) h1 (K := fun e9 e10 e11 => fX5_ownDifference_L10 (nI v) F e9 e10 e11 (nI (z + 1) + (-1))) 4 FU 0 v a b c (by omega) (FU_gt (by omega)) hv
    have e2 : nI (z + 1) + (-1) = nI z := by
      rw [← nI_1]
      have : ∀ w : Int32, w + 1 + (-1) = w := fun w => by rw [Int32.add_assoc]; exact Int32.add_zero w
      exact this _
    have n0 : ¬ nI (z + 1) < (0 : Int32) := nI_nlt (show 0 ≤ z + 1 by omega) (by omega)
    rw [fX5_ownDifference_L10, if_neg n0]
    refine Eq.trans e ?_
    show fX5_ownDifference_L10 _ _ _ _ _ _ = _
    rw [e2, L10 hv z F _ _ _ (by omega) (by omega), show Ld v (z + 1 + 1) = List.replicate (kcn 4 v (z + 1)) (z + 1) ++ Ld v (z + 1) from rfl, fA_app, fB_app]
theorem kcn_le : ∀ k v z, kcn k v z ≤ k
  | 0, _, _ => Nat.le_refl _
  | k + 1, v, z => by
    have := kcn_le k (v / 10) z
    rw [kcn]; split <;> omega
theorem o_L2 : ∀ (k F j : Nat) (M : Mem), j + k = 10 → k < F → (∀ i, i < j → M 229 i = 0) → ∃ M', (∀ K, fX12_ownOf_L2 K F (nI j) M = K M') ∧ ∀ i, i < 10 → M' 229 i = 0
  | k, 0, j, M, _, h, _ => by omega
  | 0, F + 1, j, M, h1, h2, h3 => by
    have c : (10 : Int32) ≤ nI j := nI_le (show 10 ≤ j by omega) (by omega)
    exact ⟨M, fun K => by rw [fX12_ownOf_L2, if_pos c], fun i hi => h3 i (by omega)⟩
  | k + 1, F + 1, j, M, h1, h2, h3 => by
    have c : ¬ (10 : Int32) ≤ nI j := nI_ge (show j < 10 by omega) (by decide)
    obtain ⟨M', e1, e2⟩ := o_L2 k F (j + 1) (mu M 229 j 0) (by omega) (by omega) (fun i hi => by
      by_cases d : i = j
      · subst d; exact mu_s
      · rw [mu_i (by omega)]; exact h3 i (by omega))
    exact ⟨M', fun K => by rw [fX12_ownOf_L2, if_neg c, wr_nI (by omega), Option.bind_some, nI_1, e1], e2⟩
theorem o_L25 : ∀ (k F j v : Nat) (M : Mem) (f : Nat → Nat), j + k = 4 → k < F → v < 10000 → (∀ i, i < 10 → M 229 i = nI (f i)) → ∃ M', (∀ K, fX12_ownOf_L25 K F (nI v) (nI j) M = K M') ∧ ∀ i, i < 10 → M' 229 i = nI (f i + kcn k v i)
  | k, 0, j, v, M, f, _, h, _, _ => by omega
  | 0, F + 1, j, v, M, f, h1, h2, h3, h4 => by
    have c : (4 : Int32) ≤ nI j := nI_le (show 4 ≤ j by omega) (by omega)
    exact ⟨M, fun K => by rw [fX12_ownOf_L25, if_pos c], fun i hi => h4 i (by omega)⟩
  | k + 1, F + 1, j, v, M, f, h1, h2, h3, h4 => by
    have c : ¬ (4 : Int32) ≤ nI j := nI_ge (show j < 4 by omega) (by decide)
    have l10 : (10 : Int32) = nI 10 := rfl
    obtain ⟨M', e1, e2⟩ := o_L25 k F (j + 1) (v / 10) (mu M 229 (v % 10) (nI (f (v % 10) + 1))) (fun i => if v % 10 = i then f i + 1 else f i) (by omega) (by omega) (by omega) (fun i hi => by
      by_cases d : v % 10 = i
      · subst d; rw [mu_s, if_pos rfl]
      · rw [mu_i (by omega), if_neg d]; exact h4 i hi)
    refine ⟨M', fun K => ?_, fun i hi => ?_⟩
    · rw [fX12_ownOf_L25, if_neg c]
      unfold jrem
      rw [l10, pk_rem (by omega) (by decide) (by decide), pk_div (by omega) (by decide) (by decide), rd_nI (by omega), Option.bind_some, h4 _ (by omega), nI_1, wr_nI (by omega), Option.bind_some]
      dsimp only [bnd]
      rw [nI_1, e1]
    · rw [e2 i hi, kcn]
      split <;> congr 1 <;> omega
theorem o_L79 {K : Int32 → Option (Int32 × Mem)} {M : Mem} {z n : Nat} (hz : z < 10) (hn : M 229 z = nI n) (hn4 : n ≤ 4) : ∀ (k F j a : Nat), j + k = n → k < F → fX12_ownOf_L79 K (nI z) M F (nI a) (nI j) = K (nI (fA (List.replicate k z) a))
  | k, 0, j, a, _, h => by omega
  | 0, F + 1, j, a, h1, h2 => by
    rw [fX12_ownOf_L79, rd_nI hz, Option.bind_some, hn, if_pos (nI_le (by omega) (by omega))]; rfl
  | k + 1, F + 1, j, a, h1, h2 => by
    rw [fX12_ownOf_L79, rd_nI hz, Option.bind_some, hn, if_neg (nI_ge (by omega) (by omega))]
    dsimp only [bnd]
    rw [lmul 10 a, nI_add, nI_1, o_L79 hz hn hn4 k F (j + 1) _ (by omega) (by omega), Nat.mul_comm 10 a]; rfl
theorem o_L108 {K : Int32 → Option (Int32 × Mem)} {M : Mem} {z n : Nat} (hz : z < 10) (hn : M 229 (9 - z) = nI n) (hn4 : n ≤ 4) : ∀ (k F j a : Nat), j + k = n → k < F → fX12_ownOf_L108 K (nI z) M F (nI a) (nI j) = K (nI (fA (List.replicate k (9 - z)) a))
  | k, 0, j, a, _, h => by omega
  | 0, F + 1, j, a, h1, h2 => by
    rw [fX12_ownOf_L108, lit 9, pk_sub (by omega), rd_nI (by omega), Option.bind_some, hn, if_pos (nI_le (by omega) (by omega))]; rfl
  | k + 1, F + 1, j, a, h1, h2 => by
    rw [fX12_ownOf_L108]
    dsimp only [bnd]
    rw [lmul 10 a, addl (10 * a) 9, pk_sub (by omega), lit 9, pk_sub (by omega), rd_nI (by omega), Option.bind_some, hn, if_neg (nI_ge (by omega) (by omega)), nI_1, o_L108 hz hn hn4 k F (j + 1) _ (by omega) (by omega), show 10 * a + 9 - z = a * 10 + (9 - z) by omega]; rfl
theorem o_L69 {M : Mem} {v : Nat} (hM : ∀ i, i < 10 → M 229 i = nI (kcn 4 v i)) : ∀ (k F z a b : Nat), z + k = 10 → k < F → fX12_ownOf_L69 M F (nI a) (nI b) (nI z) = some (nI (fA (Ld v k) b) - nI (fA (La v k z) a), M)
  | k, 0, z, a, b, _, h => by omega
  | 0, F + 1, z, a, b, h1, h2 => by
    have c : (10 : Int32) ≤ nI z := nI_le (show 10 ≤ z by omega) (by omega)
    rw [fX12_ownOf_L69, if_pos c]; rfl
  | k + 1, F + 1, z, a, b, h1, h2 => by
    have c : ¬ (10 : Int32) ≤ nI z := nI_ge (show z < 10 by omega) (by decide)
    have q1 := kcn_le 4 v z
    have q2 := kcn_le 4 v (9 - z)
    have e1 := fun K => o_L79 (K := K) (show z < 10 by omega) (hM z (by omega)) q1 (kcn 4 v z) FU 0 a (by omega) (FU_gt (by omega))
    have e2 := fun K => o_L108 (K := K) (show z < 10 by omega) (hM (9 - z) (by omega)) q2 (kcn 4 v (9 - z)) FU 0 b (by omega) (FU_gt (by omega))
    rw [nI_0] at e1 e2
    rw [fX12_ownOf_L69, if_neg c, e1, e2, nI_1, o_L69 hM k F (z + 1) _ _ (by omega) (by omega), Ld, La, fA_app, fA_app, show 9 - z = k by omega]
theorem ownOf_nI {v : Nat} (hv : v < 10000) (M : Mem) : ∃ M', fX12_ownOf (nI v) M = some (nI (fA (Ld v 10) 0) - nI (fA (La v 10 0) 0), M') := by
  obtain ⟨M1, e1, e2⟩ := o_L2 10 FU 0 M (by omega) (FU_gt (by omega)) (fun i hi => by omega)
  obtain ⟨M2, e3, e4⟩ := o_L25 4 FU 0 v M1 (fun _ => 0) (by omega) (FU_gt (by omega)) hv e2
  have e5 := o_L69 (v := v) (M := M2) (fun i hi => by rw [e4 i hi, Nat.zero_add]) 10 FU 0 0 0 (by omega) (FU_gt (by omega))
  rw [nI_0] at e1 e3 e5
  exact ⟨M2, by rw [fX12_ownOf, e1, e3, e5]⟩
theorem ownDiff_nI {v : Nat} (hv : v < 10000) : fX5_ownDifference (nI v) = some (nI (fA (Ld v 10) 0) - nI (fA (La v 10 0) 0)) := by
  have e := L10 hv 9 FU 0 0 1 (by omega) (FU_gt (by omega))
  have r : (Ld v 10).reverse = La v 10 0 := Ld_rev v 10 0
  rw [fB_rev, Nat.zero_add, Nat.one_mul, r] at e
  exact e
