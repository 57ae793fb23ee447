/-! ===== fields, arrays, switches ===== -/
/-- field j of class ci (n fields), an int, by the pool's number -/
def FLI (own : String) (index ci n j : Nat) : Prop := ∃ (C : String) (T : u_T), vwCl[ci]? = some (C, T, n) ∧ (∀ w ∈ u_ws C T n, w ∈ tb) ∧ j < n ∧ ci < 20 ∧ Cond.fieldLink own index (T j).1 (T j).2.1 (T j).2.2.1 ∈ tb ∧ ro ci j = none
def FLR (own : String) (index ci n j o : Nat) : Prop := ∃ (C : String) (T : u_T), vwCl[ci]? = some (C, T, n) ∧ (∀ w ∈ u_ws C T n, w ∈ tb) ∧ j < n ∧ ci < 20 ∧ Cond.fieldLink own index (T j).1 (T j).2.1 (T j).2.2.1 ∈ tb ∧ ro ci j = some o
/-- the same, one that is written: not final, of a type -/
def FLW (own : String) (index ci n j : Nat) (ty : FieldType) : Prop := ∃ (C : String) (T : u_T) (ty0 : Nat → FieldType), vwCl[ci]? = some (C, T, n) ∧ (∀ w ∈ u_ws C T n, w ∈ tb) ∧ j < n ∧ ci < 20 ∧ Cond.fieldLink own index (T j).1 (T j).2.1 (T j).2.2.1 ∈ tb ∧ ro ci j = none ∧
  (∀ k, k < n → parseFieldDescriptor (T k).2.2.1 = some (ty0 k)) ∧ (∀ a, a < n → ∀ b, b < n → a ≠ b → (T a).2.1 ≠ (T b).2.1) ∧ (T j).2.2.2 = false ∧ ty0 j = ty
def rd (M : Mem) (k n : Nat) (i : Int32) : Option Int32 := if i < 0 ∨ n ≤ i.toNatClampNeg then none else some (M k i.toNatClampNeg)
def wr (M : Mem) (k n : Nat) (i v : Int32) : Option Mem := if i < 0 ∨ n ≤ i.toNatClampNeg then none else some (mu M k i.toNatClampNeg v)
def rdf (f : Nat → Int32) (n : Nat) (i : Int32) : Option Int32 := if i < 0 ∨ n ≤ i.toNatClampNeg then none else some (f i.toNatClampNeg)
def rdt (k n : Nat) (i : Int32) : Option Nat := if i < 0 ∨ n ≤ i.toNatClampNeg then none else some (k + rtL.getD i.toNatClampNeg 0)
def cpy (M : Mem) (k0 n0 k1 n1 : Nat) (sp dp n : Int32) : Option Mem := if sp < 0 ∨ dp < 0 ∨ n < 0 ∨ n0 < sp.toNatClampNeg + n.toNatClampNeg ∨ n1 < dp.toNatClampNeg + n.toNatClampNeg then none else some (mf M k1 (va_cpy (M k0) (M k1) sp.toNatClampNeg dp.toNatClampNeg n.toNatClampNeg))
def nzb (x : Int32) : Int32 := vp_nar .boolean x
section MEM
variable {g : G} {μ : MI} {d : Nat} {τ : Type} {rv : τ → List Value} {rm : τ → Mem} {pc : Nat} {l st : List Value} {M : Mem} {E : Option τ}
theorem fld_at {k n ci j : Nat} (hj : j < n) : ((List.range n).map (fld g M k ci))[j]? = some (fld g M k ci j) := by
  rw [List.getElem?_map, List.getElem?_range hj]; rfl
theorem r_getI {k ci n j index : Nat} {pc' : Nat} (hd : DD (mc μ) pc (.getfield index) 3 pc') (hf : FLI (mo μ) index ci n j) (hk : kd k = (ci, n)) (kk : V g μ d rv rm pc' l (.int (M k j) :: st) M E) : V g μ d rv rm pc l (.ref (ga g k) :: st) M E := by
  obtain ⟨hd, rfl⟩ := hd
  obtain ⟨C, T, hc, hin, hj, hci, hl, hro⟩ := hf
  intro p e R s m args below meth c H locs cells slots Q ls hA hP hS hL h1 h2 r hE hr
  refine va_get hA.1 hA.2.1 hA.2.2.2.2.1 hin hA.2.2.2.1 hA.2.2.2.2.2.2.2.1 hP k (by rw [wd_at g M (kd_lt hk (by omega)), ent_obj g M hk hci]) hc j hj (hA.2.2.2.2.1 _ hl) (fun _ h => h) (fld_at hj) hd ?_
  have : fld g M k ci j = .int (M k j) := by unfold fld; rw [hro]
  rw [this]
  exact kk p e R s m args below meth c H locs cells slots Q ls hA hP hS hL h1 h2 r hE hr
theorem r_getR {k ci n j o index k' : Nat} {pc' : Nat} (hd : DD (mc μ) pc (.getfield index) 3 pc') (hf : FLR (mo μ) index ci n j o) (hk : kd k = (ci, n)) (hk' : k + o = k') (kk : V g μ d rv rm pc' l (.ref (ga g k') :: st) M E) : V g μ d rv rm pc l (.ref (ga g k) :: st) M E := by
  obtain ⟨hd, rfl⟩ := hd
  obtain ⟨C, T, hc, hin, hj, hci, hl, hro⟩ := hf
  subst hk'
  intro p e R s m args below meth c H locs cells slots Q ls hA hP hS hL h1 h2 r hE hr
  refine va_get hA.1 hA.2.1 hA.2.2.2.2.1 hin hA.2.2.2.1 hA.2.2.2.2.2.2.2.1 hP k (by rw [wd_at g M (kd_lt hk (by omega)), ent_obj g M hk hci]) hc j hj (hA.2.2.2.2.1 _ hl) (fun _ h => h) (fld_at hj) hd ?_
  have : fld g M k ci j = .ref (ga g (k + o)) := by unfold fld; rw [hro]
  rw [this]
  exact kk p e R s m args below meth c H locs cells slots Q ls hA hP hS hL h1 h2 r hE hr
theorem r_put0 {k ci n j index : Nat} {v : Int32} {ty : FieldType} {pc' : Nat} (hd : DD (mc μ) pc (.putfield index) 3 pc') (hf : FLW (mo μ) index ci n j ty) (hk : kd k = (ci, n)) (hn : narrow ty (.int v) = .int v) (hfit : fits ty (.int v) = true) (kk : V g μ d rv rm pc' l st (mu M k j v) E) : V g μ d rv rm pc l (.int v :: .ref (ga g k) :: st) M E := by
  obtain ⟨hd, rfl⟩ := hd
  obtain ⟨C, T, ty0, hc, hin, hj, hci, hl, hro, hty, hnm, hfin, htj⟩ := hf
  intro p e R s m args below meth c H locs cells slots Q ls hA hP hS hL h1 h2 r hE hr
  refine va_put hA.1 hA.2.1 hA.2.2.2.2.1 hin ty0 hty hnm hA.2.2.2.1 hA.2.2.2.2.2.2.2.1 hP (wd_D hA.2.2.2.2.2.2.2.2.1 M) hS k (by rw [wd_at g M (kd_lt hk (by omega)), ent_obj g M hk hci]) hc j hj (hA.2.2.2.2.1 _ hl) (fun _ h => h) hfin (by rw [hty j hj, htj]) hn hfit (by simp; exact hj) hd (fun H1 locs1 hP1 _ hS1 => ?_)
  rw [wd_put g M hk hci hro] at hP1
  exact kk p e R s m args below meth c H1 locs1 cells slots Q ls hA hP1 hS1 hL h1 h2 r hE hr
theorem r_put {k ci n j index : Nat} {v : Int32} {F : Mem → Option τ} {pc' : Nat} (hd : DD (mc μ) pc (.putfield index) 3 pc') (hf : FLW (mo μ) index ci n j .int) (hk : kd k = (ci, n)) (kk : ∀ M' : Mem, V g μ d rv rm pc' l st M' (F M')) : V g μ d rv rm pc l (.int v :: .ref (ga g k) :: st) M (bnd (mu M k j v) F) :=
  r_put0 hd hf hk rfl rfl (kk _)
/-- a boolean field: 0 or 1 -/
theorem r_putZ {k ci n j index : Nat} {v : Int32} {F : Mem → Option τ} {pc' : Nat} (hd : DD (mc μ) pc (.putfield index) 3 pc') (hf : FLW (mo μ) index ci n j .boolean) (hk : kd k = (ci, n)) (kk : ∀ M' : Mem, V g μ d rv rm pc' l st M' (F M')) : V g μ d rv rm pc l (.int v :: .ref (ga g k) :: st) M (if v = 0 ∨ v = 1 then bnd (mu M k j v) F else none) := by
  by_cases h : v = 0 ∨ v = 1
  · rw [if_pos h]
    rcases h with h | h
    · subst h; exact r_put0 hd hf hk rfl rfl (kk _)
    · subst h; exact r_put0 hd hf hk rfl rfl (kk _)
  · rw [if_neg h]; exact vNone
theorem vp_inB {i : Int32} {n : Nat} (h : ¬ (i < 0 ∨ n ≤ i.toNatClampNeg)) : vp_in i n := h
theorem r_iald {k n : Nat} {i : Int32} {F : Int32 → Option τ} {pc' : Nat} (hd : DD (mc μ) pc (.iaload) 1 pc') (hk : kd k = (20, n)) (kk : ∀ v : Int32, V g μ d rv rm pc' l (.int v :: st) M (F v)) : V g μ d rv rm pc l (.int i :: .ref (ga g k) :: st) M ((rd M k n i).bind F) := by
  obtain ⟨hd, rfl⟩ := hd
  unfold rd
  by_cases h : i < 0 ∨ n ≤ i.toNatClampNeg
  · rw [if_pos h]; exact vNone
  · rw [if_neg h]
    intro p e R s m args below meth c H locs cells slots Q ls hA hP hS hL h1 h2 r hE hr
    exact va_iald hA.1 hA.2.1 hA.2.2.2.2.2.2.2.1 hP k 0 (by rw [wd_at g M (kd_lt hk (by omega)), ent_arr g M hk (by omega) (by omega)]) rfl (vp_inB h) hd (kk _ p e R s m args below meth c H locs cells slots Q ls hA hP hS hL h1 h2 r hE hr)
theorem r_bald {k n : Nat} {i : Int32} {F : Int32 → Option τ} {pc' : Nat} (hd : DD (mc μ) pc (.baload) 1 pc') (hk : kd k = (21, n)) (kk : ∀ v : Int32, V g μ d rv rm pc' l (.int v :: st) M (F v)) : V g μ d rv rm pc l (.int i :: .ref (ga g k) :: st) M ((rd M k n i).bind F) := by
  obtain ⟨hd, rfl⟩ := hd
  unfold rd
  by_cases h : i < 0 ∨ n ≤ i.toNatClampNeg
  · rw [if_pos h]; exact vNone
  · rw [if_neg h]
    intro p e R s m args below meth c H locs cells slots Q ls hA hP hS hL h1 h2 r hE hr
    exact va_bald hA.1 hA.2.1 hA.2.2.2.2.2.2.2.1 hP k 1 (by rw [wd_at g M (kd_lt hk (by omega)), ent_arr g M hk (by omega) (by omega)]) rfl (vp_inB h) hd (kk _ p e R s m args below meth c H locs cells slots Q ls hA hP hS hL h1 h2 r hE hr)
theorem r_zald {k n : Nat} {i : Int32} {F : Int32 → Option τ} {pc' : Nat} (hd : DD (mc μ) pc (.baload) 1 pc') (hk : kd k = (22, n)) (kk : ∀ v : Int32, V g μ d rv rm pc' l (.int v :: st) M (F v)) : V g μ d rv rm pc l (.int i :: .ref (ga g k) :: st) M ((rd M k n i).bind F) := by
  obtain ⟨hd, rfl⟩ := hd
  unfold rd
  by_cases h : i < 0 ∨ n ≤ i.toNatClampNeg
  · rw [if_pos h]; exact vNone
  · rw [if_neg h]
    intro p e R s m args below meth c H locs cells slots Q ls hA hP hS hL h1 h2 r hE hr
    exact va_zald hA.1 hA.2.1 hA.2.2.2.2.2.2.2.1 hP k 2 (by rw [wd_at g M (kd_lt hk (by omega)), ent_arr g M hk (by omega) (by omega)]) rfl (vp_inB h) hd (kk _ p e R s m args below meth c H locs cells slots Q ls hA hP hS hL h1 h2 r hE hr)
theorem r_iast {k n : Nat} {i v : Int32} {F : Mem → Option τ} {pc' : Nat} (hd : DD (mc μ) pc (.iastore) 1 pc') (hk : kd k = (20, n)) (kk : ∀ M' : Mem, V g μ d rv rm pc' l st M' (F M')) : V g μ d rv rm pc l (.int v :: .int i :: .ref (ga g k) :: st) M ((wr M k n i v).bind F) := by
  obtain ⟨hd, rfl⟩ := hd
  unfold wr
  by_cases h : i < 0 ∨ n ≤ i.toNatClampNeg
  · rw [if_pos h]; exact vNone
  · rw [if_neg h]
    intro p e R s m args below meth c H locs cells slots Q ls hA hP hS hL h1 h2 r hE hr
    refine va_iast hA.1 hA.2.1 hA.2.2.2.2.2.2.2.1 hP (wd_D hA.2.2.2.2.2.2.2.2.1 M) hS k 0 (by rw [wd_at g M (kd_lt hk (by omega)), ent_arr g M hk (by omega) (by omega)]) rfl (vp_inB h) hd (fun H1 locs1 hP1 _ hS1 => ?_)
    rw [wd_arr g M hk (by omega) (by omega)] at hP1
    exact kk _ p e R s m args below meth c H1 locs1 cells slots Q ls hA hP1 hS1 hL h1 h2 r hE hr
theorem r_bast {k n : Nat} {i v : Int32} {F : Mem → Option τ} {pc' : Nat} (hd : DD (mc μ) pc (.bastore) 1 pc') (hk : kd k = (21, n)) (kk : ∀ M' : Mem, V g μ d rv rm pc' l st M' (F M')) : V g μ d rv rm pc l (.int v :: .int i :: .ref (ga g k) :: st) M ((wr M k n i (ji2b v)).bind F) := by
  obtain ⟨hd, rfl⟩ := hd
  unfold wr
  by_cases h : i < 0 ∨ n ≤ i.toNatClampNeg
  · rw [if_pos h]; exact vNone
  · rw [if_neg h]
    intro p e R s m args below meth c H locs cells slots Q ls hA hP hS hL h1 h2 r hE hr
    refine va_bast hA.1 hA.2.1 hA.2.2.2.2.2.2.2.1 hP (wd_D hA.2.2.2.2.2.2.2.2.1 M) hS k 1 (by rw [wd_at g M (kd_lt hk (by omega)), ent_arr g M hk (by omega) (by omega)]) rfl (vp_inB h) hd (fun H1 locs1 hP1 _ hS1 => ?_)
    rw [wd_arr g M hk (by omega) (by omega)] at hP1
    exact kk _ p e R s m args below meth c H1 locs1 cells slots Q ls hA hP1 hS1 hL h1 h2 r hE hr
theorem r_zast {k n : Nat} {i v : Int32} {F : Mem → Option τ} {pc' : Nat} (hd : DD (mc μ) pc (.bastore) 1 pc') (hk : kd k = (22, n)) (kk : ∀ M' : Mem, V g μ d rv rm pc' l st M' (F M')) : V g μ d rv rm pc l (.int v :: .int i :: .ref (ga g k) :: st) M ((wr M k n i (nzb v)).bind F) := by
  obtain ⟨hd, rfl⟩ := hd
  unfold wr
  by_cases h : i < 0 ∨ n ≤ i.toNatClampNeg
  · rw [if_pos h]; exact vNone
  · rw [if_neg h]
    intro p e R s m args below meth c H locs cells slots Q ls hA hP hS hL h1 h2 r hE hr
    refine va_zast hA.1 hA.2.1 hA.2.2.2.2.2.2.2.1 hP (wd_D hA.2.2.2.2.2.2.2.2.1 M) hS k 2 (by rw [wd_at g M (kd_lt hk (by omega)), ent_arr g M hk (by omega) (by omega)]) rfl (vp_inB h) hd (fun H1 locs1 hP1 _ hS1 => ?_)
    rw [wd_arr g M hk (by omega) (by omega)] at hP1
    exact kk _ p e R s m args below meth c H1 locs1 cells slots Q ls hA hP1 hS1 hL h1 h2 r hE hr
theorem r_aald {k n : Nat} {i : Int32} {F : Nat → Option τ} {pc' : Nat} (hd : DD (mc μ) pc (.aaload) 1 pc') (hk : kd k = (23, n)) (kk : ∀ q : Nat, V g μ d rv rm pc' l (.ref (ga g q) :: st) M (F q)) : V g μ d rv rm pc l (.int i :: .ref (ga g k) :: st) M ((rdt k n i).bind F) := by
  obtain ⟨hd, rfl⟩ := hd
  unfold rdt
  by_cases h : i < 0 ∨ n ≤ i.toNatClampNeg
  · rw [if_pos h]; exact vNone
  · rw [if_neg h]
    intro p e R s m args below meth c H locs cells slots Q ls hA hP hS hL h1 h2 r hE hr
    exact va_aldq (f := fun i => some (ga g (k + rtL.getD i 0))) hA.1 hA.2.1 hA.2.2.2.2.2.2.2.1 hP k 3 (by rw [wd_at g M (kd_lt hk (by omega)), ent_ref g M hk]) rfl (vp_inB h) hd (kk _ p e R s m args below meth c H locs cells slots Q ls hA hP hS hL h1 h2 r hE hr)
theorem r_alen {k n c0 : Nat} {v : Int32} {pc' : Nat} (hd : DD (mc μ) pc (.arraylength) 1 pc') (hk : kd k = (c0, n)) (h20 : 20 ≤ c0) (h23 : c0 < 23) (hv : Int32.ofNat n = v) (kk : V g μ d rv rm pc' l (.int v :: st) M E) : V g μ d rv rm pc l (.ref (ga g k) :: st) M E := by
  obtain ⟨hd, rfl⟩ := hd
  intro p e R s m args below meth c H locs cells slots Q ls hA hP hS hL h1 h2 r hE hr
  have ht : ∃ ty, (tysL g)[c0 - 20]? = some (gc g (c0 - 20), ty) := by
    rcases (show c0 = 20 ∨ c0 = 21 ∨ c0 = 22 by omega) with rfl | rfl | rfl <;> exact ⟨_, rfl⟩
  obtain ⟨ty, ht⟩ := ht
  exact va_alen hA.1 hA.2.1 hA.2.2.2.2.2.2.2.1 hP k (c0 - 20) (by rw [wd_at g M (kd_lt hk (by omega)), ent_arr g M hk (by omega) (by omega)]) ht hv hd (kk p e R s m args below meth c H locs cells slots Q ls hA hP hS hL h1 h2 r hE hr)
end MEM
