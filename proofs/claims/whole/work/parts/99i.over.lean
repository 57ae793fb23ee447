/-! ===== a cell b that is filled while others come: the row of taverns, the row of words ===== -/
theorem arrV_ext {cA : ClassId} {N : Nat} {f f' : Nat → Value} (h : ∀ j, j < N → f j = f' j) : arrV cA N f = arrV cA N f' := by
  unfold arrV
  congr 2
  funext j
  exact h j.val j.isLt
section OVER
variable {g : G} {C0 : Nat → va_E} {k n ci b : Nat} {fs fs' : List Value} {x x' y : va_E}
theorem ov_new (hk : k < n) (j : Nat) : upE (stt g C0 k n ci fs) n x j = upE (stt g C0 k (n + 1) ci fs) n x j := by
  by_cases hj : j = n
  · subst hj; rw [upE_s, upE_s]
  · rw [upE_o hj, upE_o hj]
    unfold stt
    by_cases h1 : j = k
    · rw [if_pos h1, if_pos h1]
    · rw [if_neg h1, if_neg h1]
      by_cases h2 : k < j ∧ j < n
      · rw [if_pos h2, if_pos (by omega)]
      · rw [if_neg h2, if_neg (by omega)]
theorem ov_put (hb : k ≠ b) (j : Nat) : upE (upE (stt g C0 k n ci fs) b x) k (.inr (ci, fs')) j = upE (stt g C0 k n ci fs') b x j := by
  by_cases hj : j = k
  · subst hj; rw [upE_s, upE_o hb, stt_k]
  · rw [upE_o hj]
    by_cases h2 : j = b
    · subst h2; rw [upE_s, upE_s]
    · rw [upE_o h2, upE_o h2, ← stt_put (fs := fs) (fs' := fs'), upE_o hj]
theorem ov_set (j : Nat) : upE (upE (stt g C0 k n ci fs) b x) b x' j = upE (stt g C0 k n ci fs) b x' j := by
  by_cases hj : j = b
  · subst hj; rw [upE_s, upE_s]
  · rw [upE_o hj, upE_o hj, upE_o hj]
theorem ov_arr (hk : k < n) (hb : b < n) (hx : y = ent g M0 n) (j : Nat) : upE (upE (stt g C0 k n ci fs) b x) n y j = upE (stt g C0 k (n + 1) ci fs) b x j := by
  by_cases hj : j = n
  · subst hj
    rw [upE_s, upE_o (by omega), stt_in hk (by omega), hx]
  · rw [upE_o hj]
    by_cases h2 : j = b
    · subst h2; rw [upE_s, upE_s]
    · rw [upE_o h2, upE_o h2, ← stt_new (g := g) (C0 := C0) (ci := ci) (fs := fs) hk hx j, upE_o hj]
theorem ov_call {n' : Nat} (hk : k < n) (hb : b < n) (hn : n ≤ n') (j : Nat) (hj : j < n') : fin g (upE (upE (stt g C0 k n ci fs) b x) n y) n n' j = upE (stt g C0 k n' ci fs) b x j := by
  by_cases h2 : j = b
  · subst h2
    unfold fin
    rw [if_neg (by omega), upE_o (by omega), upE_s, upE_s]
  · rw [upE_o h2]
    rcases stt_call (g := g) (C0 := C0) (ci := ci) (fs := fs) (x := y) hk hn j with h | h
    · rw [← h]
      unfold fin
      by_cases h3 : n ≤ j ∧ j < n'
      · rw [if_pos h3, if_pos h3]
      · rw [if_neg h3, if_neg h3, upE_o (k := n) (by omega), upE_o h2, upE_o (k := n) (by omega)]
    · omega
theorem ov_fin (hk : k < b) (hb : b < n) (j : Nat) : upE (stt g C0 k n ci fs) b (ent g M0 b) j = stt g C0 k n ci fs j := by
  by_cases hj : j = b
  · subst hj; rw [upE_s, stt_in hk hb]
  · rw [upE_o hj]
end OVER
def wj (t : Nat) : Nat → Int32 := fun i => if i < t then wordsL.getD i 0 else 0
theorem wj_0 : wj 0 = fun _ => 0 := by funext i; simp [wj]
theorem wj_s {t : Nat} {v : Int32} (hv : wordsL.getD t 0 = v) : upd (wj t) t v = wj (t + 1) := by
  funext i
  unfold upd wj
  by_cases h : i = t
  · subst h
    rw [if_pos rfl, if_pos (by omega), hv]
  · rw [if_neg h]
    by_cases h2 : i < t
    · rw [if_pos h2, if_pos (by omega)]
    · rw [if_neg h2, if_neg (by omega)]
section OROWS
variable {g : G} {N0 : Nat} {μ ν : MI} {d nB pcE : Nat} {lE : List Value} {iE : Nat} {CE : Nat → va_E} {zE pc : Nat} {l st : List Value} {i : Nat} {C0 : Nat → va_E} {z : Nat} {k q b ci : Nat} {fs : List Value} {x : va_E}
theorem o_put {index nf j : Nat} {Cn : String} {T : u_T} {ty : Nat → FieldType} {fs' : List Value} {v : Value} {tj : FieldType} (hc : CL ci nf Cn T ty) (hj : j < nf) (hlink : Cond.fieldLink (mo μ) index (T j).1 (T j).2.1 (T j).2.2.1 ∈ tb) (hr : mr μ = none) (hdecl : (T j).1 = mo μ) (htj : ty j = tj) (hn : narrow tj v = v) (hfit : fits tj v = true) {pc' : Nat} (hd : DD (mc μ) pc (.putfield index) 3 pc') (hk : k < nB + i) (hb : k ≠ b) (hl : j < fs.length) (hs : fs.set j v = fs')
    (kk : Y g N0 μ d nB pcE lE iE CE zE pc' l st i (upE (stt g C0 k q ci fs') b x) z) : Y g N0 μ d nB pcE lE iE CE zE pc l (v :: .ref (ga g k) :: st) i (upE (stt g C0 k q ci fs) b x) z := by
  subst hs
  exact y_put hc hj hlink hr hdecl htj hn hfit hd hk (by rw [upE_o hb, stt_k]) hl (yCongr (fun j _ => ov_put hb j) kk)
theorem o_get {index nf j : Nat} {Cn : String} {T : u_T} {ty : Nat → FieldType} {v : Value} (hc : CL ci nf Cn T ty) (hj : j < nf) (hlink : Cond.fieldLink (mo μ) index (T j).1 (T j).2.1 (T j).2.2.1 ∈ tb) {pc' : Nat} (hd : DD (mc μ) pc (.getfield index) 3 pc') (hk : k < nB + i) (hb : k ≠ b) (hl : fs[j]? = some v)
    (kk : Y g N0 μ d nB pcE lE iE CE zE pc' l (v :: st) i (upE (stt g C0 k q ci fs) b x) z) : Y g N0 μ d nB pcE lE iE CE zE pc l (.ref (ga g k) :: st) i (upE (stt g C0 k q ci fs) b x) z := y_get hc hj hlink hd hk (by rw [upE_o hb, stt_k]) hl kk
theorem o_newi {N q' i' z' : Nat} {v : Int32} (hv : ¬ v < 0) (hN : v.toNatClampNeg = N) (hby : N * componentBytes .int ≤ 536870912) {pc' : Nat} (hd : DD (mc μ) pc (.newarray .int) 2 pc') (hq : nB + i = q) (hi : i + 1 = i') (hz : z + N = z') (hle : i' ≤ iE) (hlz : z' ≤ zE) (hk : k < q) (hb : b < q) (hkd : kd q = (20, N)) (hM : ∀ j, M0 q j = 0) (hq' : q + 1 = q') (harr : Cond.arrayClass .int ∈ tb)
    (kk : Y g N0 μ d nB pcE lE iE CE zE pc' l (.ref (ga g q) :: st) i' (upE (stt g C0 k q' ci fs) b x) z') : Y g N0 μ d nB pcE lE iE CE zE pc l (.int v :: st) i (upE (stt g C0 k q ci fs) b x) z := by
  subst hq'
  exact y_newa (ty := .int) (t := 0) harr rfl rfl (fun _ h => by cases h) rfl hv hN hby hd hq hi hz hle hlz (yCongr (fun j _ => ov_arr hk hb (ent_zero (c := 20) hkd (by decide) (by decide) hM) j) kk)
theorem o_newq {index N i' z' q' : Nat} {v : Int32} (hlink : Cond.classLink (mo μ) index RX9 ∈ tb) (hv : ¬ v < 0) (hN : v.toNatClampNeg = N) (hby : N * 4 ≤ 536870912) {pc' : Nat} (hd : DD (mc μ) pc (.anewarray index) 3 pc') (hq : nB + i = q) (hi : i + 1 = i') (hz : z + N = z') (hle : i' ≤ iE) (hlz : z' ≤ zE) (hk : k < q) (hq' : q + 1 = q')
    (kk : Y g N0 μ d nB pcE lE iE CE zE pc' l (.ref (ga g q) :: st) i' (upE (stt g C0 k q' ci fs) q (.inl (gc g 3, N, .inr (.inr (.inr (.inr (fun _ => none))))))) z') : Y g N0 μ d nB pcE lE iE CE zE pc l (.int v :: st) i (stt g C0 k q ci fs) z := by
  subst hq'
  exact y_newq hlink hv hN hby hd hq hi hz hle hlz (yCongr (fun j _ => ov_new hk j) kk)
theorem o_neww {N q' i' z' : Nat} {v : Int32} (hv : ¬ v < 0) (hN : v.toNatClampNeg = N) (hby : N * componentBytes .int ≤ 536870912) {pc' : Nat} (hd : DD (mc μ) pc (.newarray .int) 2 pc') (hq : nB + i = q) (hi : i + 1 = i') (hz : z + N = z') (hle : i' ≤ iE) (hlz : z' ≤ zE) (hk : k < q) (hq' : q + 1 = q') (harr : Cond.arrayClass .int ∈ tb)
    (kk : Y g N0 μ d nB pcE lE iE CE zE pc' l (.ref (ga g q) :: st) i' (upE (stt g C0 k q' ci fs) q (.inl (gc g 0, N, .inl (wj 0)))) z') : Y g N0 μ d nB pcE lE iE CE zE pc l (.int v :: st) i (stt g C0 k q ci fs) z := by
  subst hq'
  rw [wj_0] at kk
  exact y_newa (ty := .int) (t := 0) harr rfl rfl (fun _ h => by cases h) rfl hv hN hby hd hq hi hz hle hlz (yCongr (fun j _ => ov_new hk j) kk)
theorem o_word {n t t' : Nat} {j v : Int32} {pc' : Nat} (hd : DD (mc μ) pc (.iastore) 1 pc') (hb : b < nB + i) (hj : ¬ j < 0) (ht : j.toNatClampNeg = t) (hn : t < n) (hv : wordsL.getD t 0 = v) (ht' : t + 1 = t')
    (kk : Y g N0 μ d nB pcE lE iE CE zE pc' l st i (upE (stt g C0 k q ci fs) b (.inl (gc g 0, n, .inl (wj t')))) z) : Y g N0 μ d nB pcE lE iE CE zE pc l (.int v :: .int j :: .ref (ga g b) :: st) i (upE (stt g C0 k q ci fs) b (.inl (gc g 0, n, .inl (wj t)))) z := by
  subst ht'
  refine y_iast hd hb upE_s (fun h => ?_) (yCongr (fun j _ => ov_set j) ?_)
  · rcases h with h | h
    · exact hj h
    · omega
  · rw [ht, wj_s hv]
    exact kk
theorem o_aast {n t q' nf cj : Nat} {j : Int32} {f : Nat → Option Nat} {vs : List Value} {T : u_T} {pc' : Nat} (hd : DD (mc μ) pc (.aastore) 1 pc') (hb : b < nB + i) (hq : q' < nB + i) (hkq : k < q') (hqq : q' < q) (hbq : q' ≠ b) (he : ent g M0 q' = .inr (cj, vs)) (hcl : vwCl[cj]? = some (RX9, T, nf)) (hj : ¬ j < 0) (ht : j.toNatClampNeg = t) (hn : t < n)
    (kk : Y g N0 μ d nB pcE lE iE CE zE pc' l st i (upE (stt g C0 k q ci fs) b (.inl (gc g 3, n, .inr (.inr (.inr (.inr (va_up f t (some (ga g q'))))))))) z) : Y g N0 μ d nB pcE lE iE CE zE pc l (.ref (ga g q') :: .int j :: .ref (ga g b) :: st) i (upE (stt g C0 k q ci fs) b (.inl (gc g 3, n, .inr (.inr (.inr (.inr f)))))) z := by
  subst ht
  refine y_aast (ci := cj) (fs := vs) hd hb upE_s hq (by rw [upE_o hbq, stt_in hkq hqq, he]) hcl (fun h => ?_) (yCongr (fun j _ => ov_set j) kk)
  rcases h with h | h
  · exact hj h
  · omega
theorem o_callN {n x' zc index na i' z' q' : Nat} {bl : va_E} {As rest : List Value} (hc : Ctor g N0 ν n q (q + 1) x' zc bl As) (hn : n < d) (hm : MOK ν) (hr : mr ν = none) (hname : (my ν).name = "<init>") (hlink : (mo μ, index, my ν, RX11) ∈ nestI) (hinst : Cond.instanceMethod (my ν) ∈ tb) (hpar : (parseMethodDescriptor (my ν).desc).map (fun d => d.parameters.length) = some na) (hla : As.length = na) (hrest : (rest.map fun v => v.category).sum ≤ 8) {pc' : Nat} (hd : DD (mc μ) pc (.invokespecial index) 3 pc') (hst : st = As.reverse ++ .ref (ga g q) :: rest) (hq : nB + i = q + 1) (hi : i + x' = i') (hz : z + zc = z') (hle : i' ≤ iE) (hlz : z' ≤ zE) (hk : k < q) (hb : b < q) (hq' : nB + i' = q')
    (kk : Y g N0 μ d nB pcE lE iE CE zE pc' l rest i' (upE (stt g C0 k q' ci fs) b x) z') : Y g N0 μ d nB pcE lE iE CE zE pc l st i (upE (upE (stt g C0 k q ci fs) b x) q bl) z := by
  subst hq'
  exact y_callN hc hn hm hr hname hlink hinst hpar hla hrest hd hst hq hi hz hle hlz upE_s (yCongr (fun j hj => ov_call hk hb (by omega) j hj) kk)
/-- the cell b is what M0 says -/
theorem o_fin {cA : ClassId} {a a' : vp_A} (he : ent g M0 b = .inl (cA, a')) (ha : vp_cell cA a = vp_cell cA a') (hk : k < b) (hb : b < q) (hq : nB + i = q) (kk : Y g N0 μ d nB pcE lE iE CE zE pc l st i (stt g C0 k q ci fs) z) : Y g N0 μ d nB pcE lE iE CE zE pc l st i (upE (stt g C0 k q ci fs) b (.inl (cA, a))) z := by
  refine y_cell (by omega) upE_s ha (yCongr (fun j _ => ?_) kk)
  rw [ov_set, ← he, ov_fin hk hb]
end OROWS
