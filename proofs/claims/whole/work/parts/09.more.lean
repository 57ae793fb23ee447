/-! ===== Math, arraycopy, constants, strings, switches ===== -/
section MORE
variable {g : G} {μ ν : MI} {d n : Nat} {τ : Type} {rv : τ → List Value} {rm : τ → Mem} {pc : Nat} {l st rest : List Value} {M : Mem} {E : Option τ}
theorem r_max {index : Nat} {x y : Int32} (hn : 1 ≤ d) (hrest : (st.map fun v => v.category).sum ≤ 8) (hlink : Cond.methodLink (mo μ) index Lib.Math.max.name ∈ tb) (hstat : Cond.static Lib.Math.max.name ∈ tb) (hini : Cond.initialized "java/lang/Math" ∈ tb) (hcode : Cond.code Lib.Math.max.name Lib.Math.max.code 2 (some .int) ∈ tb) {pc' : Nat} (hd : DD (mc μ) pc (.invokestatic index) 3 pc') (k : V g μ d rv rm pc' l (.int (jmax x y) :: st) M E) : V g μ d rv rm pc l (.int y :: .int x :: st) M E := by
  obtain ⟨hd, rfl⟩ := hd
  intro p e R s m args below meth c H locs cells slots Q ls hA hP hS hL h1 h2 r hE hr
  have ht := hA.2.2.2.2.1
  have hrm := hA.2.2.2.2.2.2.2.2.2.2
  exact va_mmax hA.1 hA.2.1 (hA.2.2.1.trans hL.1.symm) hA.2.2.2.1 (ht _ hlink) (ht _ hstat) (ht _ hini) (ht _ hcode) (by omega) (by omega) h1 h2 hd (k p e R s m args below meth c H locs cells slots Q ls hA hP hS hL h1 h2 r hE hr)
theorem r_min {index : Nat} {x y : Int32} (hn : 1 ≤ d) (hrest : (st.map fun v => v.category).sum ≤ 8) (hlink : Cond.methodLink (mo μ) index Lib.Math.min.name ∈ tb) (hstat : Cond.static Lib.Math.min.name ∈ tb) (hini : Cond.initialized "java/lang/Math" ∈ tb) (hcode : Cond.code Lib.Math.min.name Lib.Math.min.code 2 (some .int) ∈ tb) {pc' : Nat} (hd : DD (mc μ) pc (.invokestatic index) 3 pc') (k : V g μ d rv rm pc' l (.int (jmin x y) :: st) M E) : V g μ d rv rm pc l (.int y :: .int x :: st) M E := by
  obtain ⟨hd, rfl⟩ := hd
  intro p e R s m args below meth c H locs cells slots Q ls hA hP hS hL h1 h2 r hE hr
  have ht := hA.2.2.2.2.1
  have hrm := hA.2.2.2.2.2.2.2.2.2.2
  exact va_mmin hA.1 hA.2.1 (hA.2.2.1.trans hL.1.symm) hA.2.2.2.1 (ht _ hlink) (ht _ hstat) (ht _ hini) (ht _ hcode) (by omega) (by omega) h1 h2 hd (k p e R s m args below meth c H locs cells slots Q ls hA hP hS hL h1 h2 r hE hr)
theorem r_cpy {index k0 n0 k1 n1 : Nat} {sp dp nn : Int32} {F : Mem → Option τ} (hn : 1 ≤ d) (hrest : (st.map fun v => v.category).sum ≤ 8) (hlink : Cond.methodLink (mo μ) index arraycopyName ∈ tb) (hnat : Cond.native arraycopyName ∈ tb) (hstat : Cond.static arraycopyName ∈ tb) (hini : Cond.initialized "java/lang/System" ∈ tb) {pc' : Nat} (hd : DD (mc μ) pc (.invokestatic index) 3 pc') (hk0 : kd k0 = (20, n0)) (hk1 : kd k1 = (20, n1)) (kk : ∀ M' : Mem, V g μ d rv rm pc' l st M' (F M')) : V g μ d rv rm pc l (.int nn :: .int dp :: .ref (ga g k1) :: .int sp :: .ref (ga g k0) :: st) M ((cpy M k0 n0 k1 n1 sp dp nn).bind F) := by
  obtain ⟨hd, rfl⟩ := hd
  unfold cpy
  by_cases h : sp < 0 ∨ dp < 0 ∨ nn < 0 ∨ n0 < sp.toNatClampNeg + nn.toNatClampNeg ∨ n1 < dp.toNatClampNeg + nn.toNatClampNeg
  · rw [if_pos h]; exact vNone
  · rw [if_neg h]
    simp only [not_or, Nat.not_lt] at h
    obtain ⟨a1, a2, a3, a4, a5⟩ := h
    intro p e R s m args below meth c H locs cells slots Q ls hA hP hS hL h1 h2 r hE hr
    have ht := hA.2.2.2.2.1
    have hrm := hA.2.2.2.2.2.2.2.2.2.2
    have hnw : nativeFrameWords "java/lang/System" "arraycopy" 5 = 7 := by decide +kernel
    refine va_copyi hA.1 hA.2.1 (hA.2.2.1.trans hL.1.symm) hA.2.2.2.1 (ht _ hlink) (ht _ hnat) (ht _ hstat) (ht _ hini) hA.2.2.2.2.2.2.2.1 hP (wd_D hA.2.2.2.2.2.2.2.2.1 M) hS k0 k1 0 0 (ty := .int) (by rw [wd_at g M (kd_lt hk0 (by omega)), ent_arr g M hk0 (by omega) (by omega)]) (by rw [wd_at g M (kd_lt hk1 (by omega)), ent_arr g M hk1 (by omega) (by omega)]) rfl rfl rfl a1 a2 a3 a4 a5 (fun i _ => rfl) (by omega) (by rw [hnw]; omega) hd (fun H1 locs1 hP1 _ hS1 => ?_)
    rw [wd_arr g M hk1 (by omega) (by omega)] at hP1
    exact kk _ p e R s m args below meth c H1 locs1 cells slots Q ls hA hP1 hS1 hL h1 h2 r hE hr
/-! constants of the classes -/
theorem r_straight {index : Nat} (hlink : Cond.fieldLink (mo μ) index RX10 "STRAIGHT" "[I" ∈ tb) {pc' : Nat} (hd : DD (mc μ) pc (.getstatic index) 3 pc') (k : V g μ d rv rm pc' l (.ref (gt g) :: st) M E) : V g μ d rv rm pc l st M E := by
  obtain ⟨hd, rfl⟩ := hd
  intro p e R s m args below meth c H locs cells slots Q ls hA hP hS hL h1 h2 r hE hr
  exact va_gets hA.1 hA.2.1 hA.2.2.2.2.2.2.2.2.2.1.2.2.2.1.1 hS hA.2.2.2.1 (hA.2.2.2.2.1 _ hlink) (fun _ h => h) hd (k p e R s m args below meth c H locs cells slots Q ls hA hP hS hL h1 h2 r hE hr)
theorem r_stald {i : Int32} {F : Int32 → Option τ} {pc' : Nat} (hd : DD (mc μ) pc (.iaload) 1 pc') (kk : ∀ v : Int32, V g μ d rv rm pc' l (.int v :: st) M (F v)) : V g μ d rv rm pc l (.int i :: .ref (gt g) :: st) M ((rdf (fun j => stL.getD j 0) 24 i).bind F) := by
  obtain ⟨hd, rfl⟩ := hd
  unfold rdf
  by_cases h : i < 0 ∨ 24 ≤ i.toNatClampNeg
  · rw [if_pos h]; exact vNone
  · rw [if_neg h]
    intro p e R s m args below meth c H locs cells slots Q ls hA hP hS hL h1 h2 r hE hr
    exact va_ti hA.1 hA.2.1 hA.2.2.2.2.2.2.2.2.2.1.2.2.2.1.2 hS (vp_inB h) rfl hd (kk _ p e R s m args below meth c H locs cells slots Q ls hA hP hS hL h1 h2 r hE hr)
theorem r_compact {index : Nat} (hlink : Cond.fieldLink (mo μ) index "java/lang/String" "COMPACT_STRINGS" "Z" ∈ tb) {pc' : Nat} (hd : DD (mc μ) pc (.getstatic index) 3 pc') (k : V g μ d rv rm pc' l (.int 1 :: st) M E) : V g μ d rv rm pc l st M E := by
  obtain ⟨hd, rfl⟩ := hd
  intro p e R s m args below meth c H locs cells slots Q ls hA hP hS hL h1 h2 r hE hr
  exact va_gets hA.1 hA.2.1 hA.2.2.2.2.2.2.2.2.2.1.2.2.2.2.1 hS hA.2.2.2.1 (hA.2.2.2.2.1 _ hlink) (fun _ h => h) hd (k p e R s m args below meth c H locs cells slots Q ls hA hP hS hL h1 h2 r hE hr)
theorem r_sioobe {index : Nat} (hlink : Cond.fieldLink (mo μ) index "jdk/internal/util/Preconditions" "SIOOBE_FORMATTER" "Ljava/util/function/BiFunction;" ∈ tb) {pc' : Nat} (hd : DD (mc μ) pc (.getstatic index) 3 pc') (k : (gz g = .null ∨ ∃ t : Nat, gz g = .ref t) → V g μ d rv rm pc' l (gz g :: st) M E) : V g μ d rv rm pc l st M E := by
  obtain ⟨hd, rfl⟩ := hd
  intro p e R s m args below meth c H locs cells slots Q ls hA hP hS hL h1 h2 r hE hr
  exact va_gets hA.1 hA.2.1 hA.2.2.2.2.2.2.2.2.2.1.2.2.2.2.2.1.1 hS hA.2.2.2.1 (hA.2.2.2.2.1 _ hlink) (fun _ h => h) hd (k hA.2.2.2.2.2.2.2.2.2.1.2.2.2.2.2.1.2 p e R s m args below meth c H locs cells slots Q ls hA hP hS hL h1 h2 r hE hr)
/-! strings: gs g i the text's object, gv g i its bytes -/
theorem r_ldcS {index i : Nat} {tx : String} (hw : (mo μ, index, tx, i) ∈ strL) {pc' : Nat} (hd : DD (mc μ) pc (.ldc index) 2 pc') (k : V g μ d rv rm pc' l (.ref (gs g i) :: st) M E) : V g μ d rv rm pc l st M E := by
  obtain ⟨hd, rfl⟩ := hd
  intro p e R s m args below meth c H locs cells slots Q ls hA hP hS hL h1 h2 r hE hr
  exact va_ldcS hA.1 hA.2.1 hA.2.2.2.1 (hA.2.2.2.2.2.2.2.2.2.1.2.1 _ hw) hd (k p e R s m args below meth c H locs cells slots Q ls hA hP hS hL h1 h2 r hE hr)
theorem r_sval {index i : Nat} (hi : i < strN) (hlink : Cond.fieldLink (mo μ) index "java/lang/String" "value" "[B" ∈ tb) {pc' : Nat} (hd : DD (mc μ) pc (.getfield index) 3 pc') (k : V g μ d rv rm pc' l (.ref (gv g i) :: st) M E) : V g μ d rv rm pc l (.ref (gs g i) :: st) M E := by
  obtain ⟨hd, rfl⟩ := hd
  intro p e R s m args below meth c H locs cells slots Q ls hA hP hS hL h1 h2 r hE hr
  exact vk_getf hA.1 hA.2.1 (hA.2.2.2.2.2.2.2.2.2.1.2.2.1 i hi).2.1 hS hA.2.2.2.1 (hA.2.2.2.2.1 _ hlink) (fun _ h => h) hd (k p e R s m args below meth c H locs cells slots Q ls hA hP hS hL h1 h2 r hE hr)
theorem r_scod {index i : Nat} (hi : i < strN) (hlink : Cond.fieldLink (mo μ) index "java/lang/String" "coder" "B" ∈ tb) {pc' : Nat} (hd : DD (mc μ) pc (.getfield index) 3 pc') (k : V g μ d rv rm pc' l (.int 0 :: st) M E) : V g μ d rv rm pc l (.ref (gs g i) :: st) M E := by
  obtain ⟨hd, rfl⟩ := hd
  intro p e R s m args below meth c H locs cells slots Q ls hA hP hS hL h1 h2 r hE hr
  exact vk_getf hA.1 hA.2.1 (hA.2.2.2.2.2.2.2.2.2.1.2.2.1 i hi).2.2.1 hS hA.2.2.2.1 (hA.2.2.2.2.1 _ hlink) (fun _ h => h) hd (k p e R s m args below meth c H locs cells slots Q ls hA hP hS hL h1 h2 r hE hr)
theorem r_slen {i : Nat} (hi : i < strN) {pc' : Nat} (hd : DD (mc μ) pc (.arraylength) 1 pc') (k : V g μ d rv rm pc' l (.int (nI (slen i)) :: st) M E) : V g μ d rv rm pc l (.ref (gv g i) :: st) M E := by
  obtain ⟨hd, rfl⟩ := hd
  intro p e R s m args below meth c H locs cells slots Q ls hA hP hS hL h1 h2 r hE hr
  exact va_tlen hA.1 hA.2.1 (hA.2.2.2.2.2.2.2.2.2.1.2.2.1 i hi).2.2.2 hS rfl hd (k p e R s m args below meth c H locs cells slots Q ls hA hP hS hL h1 h2 r hE hr)
theorem r_sald {i : Nat} {j : Int32} {F : Int32 → Option τ} (hi : i < strN) {pc' : Nat} (hd : DD (mc μ) pc (.baload) 1 pc') (kk : ∀ v : Int32, V g μ d rv rm pc' l (.int v :: st) M (F v)) : V g μ d rv rm pc l (.int j :: .ref (gv g i) :: st) M ((rdf (sbyt i) (slen i) j).bind F) := by
  obtain ⟨hd, rfl⟩ := hd
  unfold rdf
  by_cases h : j < 0 ∨ slen i ≤ j.toNatClampNeg
  · rw [if_pos h]; exact vNone
  · rw [if_neg h]
    intro p e R s m args below meth c H locs cells slots Q ls hA hP hS hL h1 h2 r hE hr
    exact va_tb hA.1 hA.2.1 (hA.2.2.2.2.2.2.2.2.2.1.2.2.1 i hi).2.2.2 hS (vp_inB h) rfl hd (kk _ p e R s m args below meth c H locs cells slots Q ls hA hP hS hL h1 h2 r hE hr)
theorem r_xld {i : Int32} {F : Int32 → Option τ} {pc' : Nat} (hd : DD (mc μ) pc .iaload 1 pc') (kk : ∀ v : Int32, V g μ d rv rm pc' l (.int v :: st) M (F v)) : V g μ d rv rm pc l (.int i :: .ref (gb g) :: st) M ((rdf (gx g) (gL g) i).bind F) := by
  obtain ⟨hd, rfl⟩ := hd
  unfold rdf
  by_cases h : i < 0 ∨ gL g ≤ i.toNatClampNeg
  · rw [if_pos h]; exact vNone
  · rw [if_neg h]
    intro p e R s m args below meth c H locs cells slots Q ls hA hP hS hL h1 h2 r hE hr
    obtain ⟨a1, a2, a3⟩ := hA.2.2.2.2.2.2.2.2.2.1.2.2.2.2.2.2
    exact va_sld hA.1 hA.2.1 a1 a2 a3 hS (vp_inB h) hd (kk _ p e R s m args below meth c H locs cells slots Q ls hA hP hS hL h1 h2 r hE hr)
theorem r_xlen {pc' : Nat} (hd : DD (mc μ) pc .arraylength 1 pc') (k : V g μ d rv rm pc' l (.int (nI (gL g)) :: st) M E) : V g μ d rv rm pc l (.ref (gb g) :: st) M E := by
  obtain ⟨hd, rfl⟩ := hd
  intro p e R s m args below meth c H locs cells slots Q ls hA hP hS hL h1 h2 r hE hr
  obtain ⟨a1, a2, a3⟩ := hA.2.2.2.2.2.2.2.2.2.1.2.2.2.2.2.2
  exact va_slen hA.1 hA.2.1 a1 a2 a3 hS hd (k p e R s m args below meth c H locs cells slots Q ls hA hP hS hL h1 h2 r hE hr)
theorem call_VS {index i na : Nat} {As : List Value} (hi : i < strN) (hn : n < d) (hm : MOK ν) {pc' : Nat} (hd : DD (mc μ) pc (.invokevirtual index) 3 pc') (hlink : Cond.methodLink (mo μ) index (my ν) ∈ tb) (hinst : Cond.instanceMethod (my ν) ∈ tb) (hsel : Cond.selects "java/lang/String" (my ν) (my ν) ∈ tb) (hpar : (parseMethodDescriptor (my ν).desc).map (fun d => d.parameters.length) = some na) (hla : As.length = na) (hrest : (rest.map fun v => v.category).sum ≤ 8) (hst : st = As.reverse ++ .ref (gs g i) :: rest) :
    Call g μ d pc pc' ν n (.ref (gs g i) :: As) st rest M := by
  obtain ⟨hd, hp⟩ := hd
  refine ⟨hp, ?_⟩
  intro p e R s m args below meth c H locs cells slots ls Qc hA hP hS hls h1 h2 hM
  have ht := hA.2.2.2.2.1
  have cw : CallW R s args (mo μ) "java/lang/String" index (my ν) (mc ν) (ml ν) (mr ν) (ws ν) (rmx n) 0 0 na := ⟨callB_of na ht (GoodIn_ws hm) rfl rfl rfl (ht _ hm.2.2.2.1) (ht _ hlink) ⟨hm.2.2.2.2.1.1, hm.2.2.2.2.1.2, hpar⟩ (room_ok hA.2.2.2.2.2.2.2.2.2.2 hn hm.2.2.2.2.2), ht _ hinst, ht _ hsel⟩
  have hO := (hA.2.2.2.2.2.2.2.2.2.1.2.2.1 i hi).1.kept (H1 := H) (fun a h1 h2 => hS.2.1 a h1 h2)
  obtain ⟨cell, o1, o2, o3, -⟩ := hO
  exact va_runV ⟨hA.1, hA.2.1, hA.2.2.1, hA.2.2.2.1, ht⟩ hM cw ⟨Pre_blind _ _ _, ⟨cell, o1, o2, o3⟩, fun U hU hW => pre_ok hA hP hS hU hW⟩ rfl hla hls hst (lv_room hrest) hd ⟨h1, h2⟩
end MORE
/-! ===== switches ===== -/
def swt {α : Type} (x : Int32) : Int32 → List α → α → α
  | _, [], dv => dv
  | lo, e :: es, dv => if x = lo then e else swt x (lo + 1) es dv
def swl {α : Type} (x : Int32) : List (Int32 × α) → α → α
  | [], dv => dv
  | q :: qs, dv => if x = q.1 then q.2 else swl x qs dv
theorem swt_in {α : Type} {x : Int32} {dv : α} : ∀ (es : List α) (lo : Int32) (j : Nat), x.toInt = lo.toInt + j → j < es.length → lo.toInt + es.length < 2 ^ 31 → swt x lo es dv = es.getD j dv
  | [], lo, j, _, hj, _ => absurd hj (Nat.not_lt_zero j)
  | e :: es, lo, 0, hx, _, _ => by
    have : x = lo := Int32.toInt_inj.mp (by simpa using hx)
    simp [swt, this]
  | e :: es, lo, j + 1, hx, hj, hb => by
    have hne : ¬ x = lo := fun h => by rw [h] at hx; omega
    simp only [List.length_cons] at hj hb
    have h1 : (lo + 1).toInt = lo.toInt + 1 := by
      have := lo.le_toInt
      have e1 : (1 : Int32).toInt = 1 := by decide
      rw [Int32.toInt_add, e1]
      refine Int.bmod_eq_of_le ?_ ?_ <;> omega
    show (if x = lo then e else swt x (lo + 1) es dv) = (e :: es).getD (j + 1) dv
    rw [if_neg hne, swt_in es (lo + 1) j (by rw [h1]; omega) (by omega) (by rw [h1]; omega), List.getD_cons_succ]
theorem swt_out {α : Type} {x : Int32} {dv : α} : ∀ (es : List α) (lo : Int32), (x.toInt < lo.toInt ∨ lo.toInt + es.length ≤ x.toInt) → lo.toInt + es.length < 2 ^ 31 → swt x lo es dv = dv
  | [], lo, _, _ => rfl
  | e :: es, lo, hx, hb => by
    simp only [List.length_cons] at hx hb
    have hne : ¬ x = lo := fun h => by rw [h] at hx; omega
    have h1 : (lo + 1).toInt = lo.toInt + 1 := by
      have := lo.le_toInt
      have e1 : (1 : Int32).toInt = 1 := by decide
      rw [Int32.toInt_add, e1]
      refine Int.bmod_eq_of_le ?_ ?_ <;> omega
    show (if x = lo then e else swt x (lo + 1) es dv) = dv
    rw [if_neg hne, swt_out es (lo + 1) (by rw [h1]; omega) (by rw [h1]; omega)]
section SW
variable {g : G} {μ : MI} {d : Nat} {τ : Type} {rv : τ → List Value} {rm : τ → Mem} {pc : Nat} {l st : List Value} {M : Mem}
theorem r_tsw {dflt lo hi : Int} {offs : Array Int} {len td n : Nat} {x lo32 : Int32} {Es : List (Option τ)} {Ed : Option τ} {tg : List Nat} {pc' : Nat} (hd : DD (mc μ) pc (.tableswitch dflt lo hi offs) len pc') (hn : Es.length = n) (hlo : lo32.toInt = lo) (hhi : hi = lo + n - 1) (hb : lo + n < 2 ^ 31) (hsz : offs.size = n) (htg : ∀ j, j < n → (pc : Int) + offs.getD j 0 = (tg.getD j 0 : Nat)) (htd : (pc : Int) + dflt = (td : Nat))
    (kk : ∀ j, j < n → V g μ d rv rm (tg.getD j 0) l st M (Es.getD j Ed)) (kd : V g μ d rv rm td l st M Ed) : V g μ d rv rm pc l (.int x :: st) M (swt x lo32 Es Ed) := by
  obtain ⟨hd, -⟩ := hd
  subst hlo
  subst hn
  by_cases hx : x.toInt < lo32.toInt ∨ hi < x.toInt
  · rw [swt_out Es lo32 (by omega) (by omega)]
    intro p e R s m args below meth c H locs cells slots Q ls hA hP hS hL h1 h2 r hE hr
    exact lv_tableOut hA.1 hA.2.1 hd hx htd (kd p e R s m args below meth c H locs cells slots Q ls hA hP hS hL h1 h2 r hE hr)
  · have hj : (x.toInt - lo32.toInt).toNat < Es.length := by omega
    rw [swt_in Es lo32 (x.toInt - lo32.toInt).toNat (by omega) hj (by omega)]
    have ho : offs[(x.toInt - lo32.toInt).toNat]? = some (offs.getD (x.toInt - lo32.toInt).toNat 0) := by
      rw [Array.getD_eq_getD_getElem?]
      have : (x.toInt - lo32.toInt).toNat < offs.size := by omega
      rw [Array.getElem?_eq_getElem this]
      rfl
    intro p e R s m args below meth c H locs cells slots Q ls hA hP hS hL h1 h2 r hE hr
    exact lv_tableIn hA.1 hA.2.1 hd (by omega) (by omega) ho (htg _ hj) (kk _ hj p e R s m args below meth c H locs cells slots Q ls hA hP hS hL h1 h2 r hE hr)
end SW
/-! ===== bundles ===== -/
def CVB (ν : MI) (na ci nf : Nat) : Prop := MOK ν ∧ Cond.instanceMethod (my ν) ∈ tb ∧ Cond.selects (mo ν) (my ν) (my ν) ∈ tb ∧ (parseMethodDescriptor (my ν).desc).map (fun d => d.parameters.length) = some na ∧ ci < 20 ∧ ∃ T : u_T, vwCl[ci]? = some (mo ν, T, nf)
def CSB (ν : MI) (na : Nat) : Prop := MOK ν ∧ Cond.static (my ν) ∈ tb ∧ (parseMethodDescriptor (my ν).desc).map (fun d => d.parameters.length) = some na
section BUN
variable {g : G} {μ ν : MI} {d n : Nat} {τ : Type} {rv : τ → List Value} {rm : τ → Mem} {pc pc' : Nat} {l st rest : List Value} {M : Mem} {E : Option τ}
theorem cl_V {index k ci nf na : Nat} (As : List Value) (hb : CVB ν na ci nf) (hn : n < d) (hd : DD (mc μ) pc (.invokevirtual index) 3 pc') (hlink : Cond.methodLink (mo μ) index (my ν) ∈ tb) (hk : kd k = (ci, nf)) (hla : As.length = na) (hrest : (rest.map fun v => v.category).sum ≤ 8) (hst : st = As.reverse ++ .ref (ga g k) :: rest) : Call g μ d pc pc' ν n (.ref (ga g k) :: As) st rest M := by
  obtain ⟨h1, h2, h3, h4, h5, T, h6⟩ := hb
  exact call_V hn h1 hd hlink h2 h3 rfl h4 hla hk h5 h6 hrest hst
theorem cl_S {index na : Nat} (As : List Value) (hb : CSB ν na) (hn : n < d) (hd : DD (mc μ) pc (.invokestatic index) 3 pc') (hlink : Cond.methodLink (mo μ) index (my ν) ∈ tb) (hla : As.length = na) (hrest : (rest.map fun v => v.category).sum ≤ 8) (hst : st = As.reverse ++ rest) : Call g μ d pc pc' ν n As st rest M := call_S hn hb.1 hd hlink hb.2.1 hb.2.2 hla hrest hst
theorem cl_SN {index na : Nat} {host : String} (As : List Value) (hb : CSB ν na) (hn : n < d) (hd : DD (mc μ) pc (.invokestatic index) 3 pc') (hlink : (mo μ, index, my ν, host) ∈ nestL) (hla : As.length = na) (hrest : (rest.map fun v => v.category).sum ≤ 8) (hst : st = As.reverse ++ rest) : Call g μ d pc pc' ν n As st rest M := call_SN hn hb.1 hd hlink hb.2.1 hb.2.2 hla hrest hst
theorem r_putL {k ci nf j index : Nat} {v : Int32} {ty : FieldType} {F : Mem → Option τ} (hd : DD (mc μ) pc (.putfield index) 3 pc') (hf : FLW (mo μ) index ci nf j ty) (hk : kd k = (ci, nf)) (hn : narrow ty (.int v) = .int v) (hfit : fits ty (.int v) = true) (kk : ∀ M' : Mem, V g μ d rv rm pc' l st M' (F M')) : V g μ d rv rm pc l (.int v :: .ref (ga g k) :: st) M (bnd (mu M k j v) F) := r_put0 hd hf hk hn hfit (kk _)
theorem eK {c : Prop} [Decidable c] {E1 : Option τ} (k : c → V g μ d rv rm pc l st M E1) : V g μ d rv rm pc l st M (if c then E1 else none) := by
  by_cases h : c
  · rw [if_pos h]; exact k h
  · rw [if_neg h]; exact vNone
theorem eJ {α : Type} {T : α} {B : α → Option τ} (P : α → Prop) (hT : P T) (hB : ∀ J, P J → V g μ d rv rm pc l st M (B J)) : V g μ d rv rm pc l st M (jn T B) := hB T hT
theorem eJT {α : Type} {T : α} {B : α → τ} (P : α → Prop) (hT : P T) (hB : ∀ J, P J → V g μ d rv rm pc l st M (some (B J))) : V g μ d rv rm pc l st M (some (jn T B)) := hB T hT
theorem r_lsw {dflt off : Int} {ps : Array (Int × Int)} {len tgt : Nat} {x : Int32} (hd : DD (mc μ) pc (.lookupswitch dflt ps) len pc') (hp : (ps.toList.zip (ps.toList.drop 1)).all (fun (a, next) => a.1 < next.1) = true) (ho : Op.lookupswitch.offset ps.toList dflt x.toInt = off) (ht : (pc : Int) + off = (tgt : Int)) (k : V g μ d rv rm tgt l st M E) : V g μ d rv rm pc l (.int x :: st) M E := by
  obtain ⟨hd, -⟩ := hd
  intro p e R s m args below meth c H locs cells slots Q ls hA hP hS hL h1 h2 r hE hr
  exact lv_lookup hA.1 hA.2.1 hd hp ho ht (k p e R s m args below meth c H locs cells slots Q ls hA hP hS hL h1 h2 r hE hr)
/-- an answer of a boolean method that is not a constant -/
theorem vRetZ {r : τ} {v : Int32} (hv : rv r = [.int v]) (hm : rm r = M) (ht : mr μ = some .boolean) (hd : DD (mc μ) pc .ireturn 1 pc') : V g μ d rv rm pc l [.int v] M (if v = 0 ∨ v = 1 then some r else none) := by
  by_cases h : v = 0 ∨ v = 1
  · rw [if_pos h]
    refine vRet hv hm ?_ hd
    unfold nrw
    rw [ht]
    rcases h with h | h <;> subst h <;> rfl
  · rw [if_neg h]; exact vNone
theorem vRetB {r : τ} {v : Int32} (hv : rv r = [.int v]) (hm : rm r = M) (ht : mr μ = some .boolean) (h : v = 0 ∨ v = 1) (hd : DD (mc μ) pc .ireturn 1 pc') : V g μ d rv rm pc l [.int v] M (some r) := by
  refine vRet hv hm ?_ hd
  unfold nrw
  rw [ht]
  rcases h with h | h <;> subst h <;> rfl
end BUN
abbrev rvI : Int32 → List Value := fun r => [.int r]
abbrev rvN (g : G) : Nat → List Value := fun r => [.ref (ga g r)]
abbrev rvW : Int32 × Mem → List Value := fun r => [.int r.1]
abbrev rmW : Int32 × Mem → Mem := fun r => r.2
abbrev rvU : Mem → List Value := fun _ => []
abbrev rmU : Mem → Mem := fun r => r
abbrev rmP {α : Type} (M : Mem) : α → Mem := fun _ => M
def FU : Nat := 100000
def RU : Nat := 30
def schr (w : Nat) (i : Int32) : Option Int32 := (rdf (sbyt w) (slen w) i).bind fun v => some (ji2c (v &&& 255))
def jlcmp (x y : Int64) : Int32 := lg_cmp x y
theorem r_lcmp {g : G} {μ : MI} {d : Nat} {τ : Type} {rv : τ → List Value} {rm : τ → Mem} {pc pc' : Nat} {l st : List Value} {M : Mem} {E : Option τ} {x y : Int64} (hd : DD (mc μ) pc .lcmp 1 pc') (k : V g μ d rv rm pc' l (.int (jlcmp x y) :: st) M E) : V g μ d rv rm pc l (.long y :: .long x :: st) M E := by
  obtain ⟨hd, rfl⟩ := hd
  intro p e R s m args below meth c H locs cells slots Q ls hA hP hS hL h1 h2 r hE hr
  exact W.lcmp hA.1 hA.2.1 hd (k p e R s m args below meth c H locs cells slots Q ls hA hP hS hL h1 h2 r hE hr)
