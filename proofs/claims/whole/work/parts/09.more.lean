/-! ===== Math, arraycopy, constants, strings, switches ===== -/
section MORE
variable {g : G} {μ ν : MI} {d n : Nat} {τ : Type} {rv : τ → List Value} {rm : τ → Mem} {pc : Nat} {l st rest : List Value} {M : Mem} {E : Option τ}
theorem r_max {index : Nat} {x y : Int32} (hn : 1 ≤ d) (hrest : (st.map fun v => v.category).sum ≤ 8) (hlink : Cond.methodLink (mo μ) index Lib.Math.max.name ∈ tb) (hstat : Cond.static Lib.Math.max.name ∈ tb) (hini : Cond.initialized "java/lang/Math" ∈ tb) (hcode : Cond.code Lib.Math.max.name Lib.Math.max.code 2 (some .int) ∈ tb) (hd : decode (mc μ) pc = .ok (.invokestatic index, 3)) (k : V g μ d rv rm (pc + 3) l (.int (jmax x y) :: st) M E) : V g μ d rv rm pc l (.int y :: .int x :: st) M E := by
  intro p e R s m args below meth c H locs cells slots Q ls hA hP hS hL h1 h2 r hE hr
  have ht := hA.2.2.2.2.1
  have hrm := hA.2.2.2.2.2.2.2.2.2.2
  exact va_mmax hA.1 hA.2.1 (hA.2.2.1.trans hL.1.symm) hA.2.2.2.1 (ht _ hlink) (ht _ hstat) (ht _ hini) (ht _ hcode) (by omega) (by omega) h1 h2 hd (k p e R s m args below meth c H locs cells slots Q ls hA hP hS hL h1 h2 r hE hr)
theorem r_min {index : Nat} {x y : Int32} (hn : 1 ≤ d) (hrest : (st.map fun v => v.category).sum ≤ 8) (hlink : Cond.methodLink (mo μ) index Lib.Math.min.name ∈ tb) (hstat : Cond.static Lib.Math.min.name ∈ tb) (hini : Cond.initialized "java/lang/Math" ∈ tb) (hcode : Cond.code Lib.Math.min.name Lib.Math.min.code 2 (some .int) ∈ tb) (hd : decode (mc μ) pc = .ok (.invokestatic index, 3)) (k : V g μ d rv rm (pc + 3) l (.int (jmin x y) :: st) M E) : V g μ d rv rm pc l (.int y :: .int x :: st) M E := by
  intro p e R s m args below meth c H locs cells slots Q ls hA hP hS hL h1 h2 r hE hr
  have ht := hA.2.2.2.2.1
  have hrm := hA.2.2.2.2.2.2.2.2.2.2
  exact va_mmin hA.1 hA.2.1 (hA.2.2.1.trans hL.1.symm) hA.2.2.2.1 (ht _ hlink) (ht _ hstat) (ht _ hini) (ht _ hcode) (by omega) (by omega) h1 h2 hd (k p e R s m args below meth c H locs cells slots Q ls hA hP hS hL h1 h2 r hE hr)
theorem r_cpy {index k0 n0 k1 n1 : Nat} {sp dp nn : Int32} {F : Mem → Option τ} (hn : 1 ≤ d) (hrest : (st.map fun v => v.category).sum ≤ 8) (hlink : Cond.methodLink (mo μ) index arraycopyName ∈ tb) (hnat : Cond.native arraycopyName ∈ tb) (hstat : Cond.static arraycopyName ∈ tb) (hini : Cond.initialized "java/lang/System" ∈ tb) (hd : decode (mc μ) pc = .ok (.invokestatic index, 3)) (hk0 : kd k0 = (20, n0)) (hk1 : kd k1 = (20, n1)) (kk : ∀ M' : Mem, V g μ d rv rm (pc + 3) l st M' (F M')) : V g μ d rv rm pc l (.int nn :: .int dp :: .ref (ga g k1) :: .int sp :: .ref (ga g k0) :: st) M ((cpy M k0 n0 k1 n1 sp dp nn).bind F) := by
  unfold cpy
  by_cases h : sp < 0 ∨ dp < 0 ∨ nn < 0 ∨ n0 < sp.toNatClampNeg + nn.toNatClampNeg ∨ n1 < dp.toNatClampNeg + nn.toNatClampNeg
  · rw [if_pos h]; exact vNone
  · rw [if_neg h]
    simp only [not_or, Nat.not_lt] at h
    obtain ⟨a1, a2, a3, a4, a5⟩ := h
    intro p e R s m args below meth c H locs cells slots Q ls hA hP hS hL h1 h2 r hE hr
    have ht := hA.2.2.2.2.1
    have hrm := hA.2.2.2.2.2.2.2.2.2.2
    have hnw : nativeFrameWords "java/lang/System" "arraycopy" 5 = 7 := by decide +kernel
    refine va_copyi hA.1 hA.2.1 (hA.2.2.1.trans hL.1.symm) hA.2.2.2.1 (ht _ hlink) (ht _ hnat) (ht _ hstat) (ht _ hini) hA.2.2.2.2.2.2.2.1 hP (wd_D hA.2.2.2.2.2.2.2.2.1 M) hS k0 k1 0 0 (ty := .int) (by rw [wd_at g M (kd_lt hk0 (by omega)), ent_arr g M hk0 (by omega) (by omega)]) (by rw [wd_at g M (kd_lt hk1 (by omega)), ent_arr g M hk1 (by omega) (by omega)]) rfl rfl rfl a1 a2 a3 a4 a5 (fun i _ => rfl) (by omega) (by rw [hnw]; omega) hd (fun H1 locs1 hP1 _ hS1 => ?_)
    rw [wd_arr g M hk1 (by omega) (by omega)] at hP1
    exact kk _ p e R s m args below meth c H1 locs1 cells slots Q ls hA hP1 hS1 hL h1 h2 r hE hr
/-! constants of the classes -/
theorem r_straight {index : Nat} (hlink : Cond.fieldLink (mo μ) index RX10 "STRAIGHT" "[I" ∈ tb) (hd : decode (mc μ) pc = .ok (.getstatic index, 3)) (k : V g μ d rv rm (pc + 3) l (.ref (gt g) :: st) M E) : V g μ d rv rm pc l st M E := by
  intro p e R s m args below meth c H locs cells slots Q ls hA hP hS hL h1 h2 r hE hr
  exact va_gets hA.1 hA.2.1 hA.2.2.2.2.2.2.2.2.2.1.2.2.2.1.1 hS hA.2.2.2.1 (hA.2.2.2.2.1 _ hlink) (fun _ h => h) hd (k p e R s m args below meth c H locs cells slots Q ls hA hP hS hL h1 h2 r hE hr)
theorem r_stald {i : Int32} {F : Int32 → Option τ} (hd : decode (mc μ) pc = .ok (.iaload, 1)) (kk : ∀ v : Int32, V g μ d rv rm (pc + 1) l (.int v :: st) M (F v)) : V g μ d rv rm pc l (.int i :: .ref (gt g) :: st) M ((rdf (fun j => stL.getD j 0) 24 i).bind F) := by
  unfold rdf
  by_cases h : i < 0 ∨ 24 ≤ i.toNatClampNeg
  · rw [if_pos h]; exact vNone
  · rw [if_neg h]
    intro p e R s m args below meth c H locs cells slots Q ls hA hP hS hL h1 h2 r hE hr
    exact va_ti hA.1 hA.2.1 hA.2.2.2.2.2.2.2.2.2.1.2.2.2.1.2 hS (vp_inB h) rfl hd (kk _ p e R s m args below meth c H locs cells slots Q ls hA hP hS hL h1 h2 r hE hr)
theorem r_compact {index : Nat} (hlink : Cond.fieldLink (mo μ) index "java/lang/String" "COMPACT_STRINGS" "Z" ∈ tb) (hd : decode (mc μ) pc = .ok (.getstatic index, 3)) (k : V g μ d rv rm (pc + 3) l (.int 1 :: st) M E) : V g μ d rv rm pc l st M E := by
  intro p e R s m args below meth c H locs cells slots Q ls hA hP hS hL h1 h2 r hE hr
  exact va_gets hA.1 hA.2.1 hA.2.2.2.2.2.2.2.2.2.1.2.2.2.2.1 hS hA.2.2.2.1 (hA.2.2.2.2.1 _ hlink) (fun _ h => h) hd (k p e R s m args below meth c H locs cells slots Q ls hA hP hS hL h1 h2 r hE hr)
theorem r_sioobe {index : Nat} (hlink : Cond.fieldLink (mo μ) index "jdk/internal/util/Preconditions" "SIOOBE_FORMATTER" "Ljava/util/function/BiFunction;" ∈ tb) (hd : decode (mc μ) pc = .ok (.getstatic index, 3)) (k : (gz g = .null ∨ ∃ t : Nat, gz g = .ref t) → V g μ d rv rm (pc + 3) l (gz g :: st) M E) : V g μ d rv rm pc l st M E := by
  intro p e R s m args below meth c H locs cells slots Q ls hA hP hS hL h1 h2 r hE hr
  exact va_gets hA.1 hA.2.1 hA.2.2.2.2.2.2.2.2.2.1.2.2.2.2.2.1 hS hA.2.2.2.1 (hA.2.2.2.2.1 _ hlink) (fun _ h => h) hd (k hA.2.2.2.2.2.2.2.2.2.1.2.2.2.2.2.2 p e R s m args below meth c H locs cells slots Q ls hA hP hS hL h1 h2 r hE hr)
/-! strings: gs g i the text's object, gv g i its bytes -/
theorem r_ldcS {index i : Nat} {tx : String} (hw : (mo μ, index, tx, i) ∈ strL) (hd : decode (mc μ) pc = .ok (.ldc index, 2)) (k : V g μ d rv rm (pc + 2) l (.ref (gs g i) :: st) M E) : V g μ d rv rm pc l st M E := by
  intro p e R s m args below meth c H locs cells slots Q ls hA hP hS hL h1 h2 r hE hr
  exact va_ldcS hA.1 hA.2.1 hA.2.2.2.1 (hA.2.2.2.2.2.2.2.2.2.1.2.1 _ hw) hd (k p e R s m args below meth c H locs cells slots Q ls hA hP hS hL h1 h2 r hE hr)
theorem r_sval {index i : Nat} (hi : i < strN) (hlink : Cond.fieldLink (mo μ) index "java/lang/String" "value" "[B" ∈ tb) (hd : decode (mc μ) pc = .ok (.getfield index, 3)) (k : V g μ d rv rm (pc + 3) l (.ref (gv g i) :: st) M E) : V g μ d rv rm pc l (.ref (gs g i) :: st) M E := by
  intro p e R s m args below meth c H locs cells slots Q ls hA hP hS hL h1 h2 r hE hr
  exact vk_getf hA.1 hA.2.1 (hA.2.2.2.2.2.2.2.2.2.1.2.2.1 i hi).2.1 hS hA.2.2.2.1 (hA.2.2.2.2.1 _ hlink) (fun _ h => h) hd (k p e R s m args below meth c H locs cells slots Q ls hA hP hS hL h1 h2 r hE hr)
theorem r_scod {index i : Nat} (hi : i < strN) (hlink : Cond.fieldLink (mo μ) index "java/lang/String" "coder" "B" ∈ tb) (hd : decode (mc μ) pc = .ok (.getfield index, 3)) (k : V g μ d rv rm (pc + 3) l (.int 0 :: st) M E) : V g μ d rv rm pc l (.ref (gs g i) :: st) M E := by
  intro p e R s m args below meth c H locs cells slots Q ls hA hP hS hL h1 h2 r hE hr
  exact vk_getf hA.1 hA.2.1 (hA.2.2.2.2.2.2.2.2.2.1.2.2.1 i hi).2.2.1 hS hA.2.2.2.1 (hA.2.2.2.2.1 _ hlink) (fun _ h => h) hd (k p e R s m args below meth c H locs cells slots Q ls hA hP hS hL h1 h2 r hE hr)
theorem r_slen {i : Nat} (hi : i < strN) (hd : decode (mc μ) pc = .ok (.arraylength, 1)) (k : V g μ d rv rm (pc + 1) l (.int (nI (slen i)) :: st) M E) : V g μ d rv rm pc l (.ref (gv g i) :: st) M E := by
  intro p e R s m args below meth c H locs cells slots Q ls hA hP hS hL h1 h2 r hE hr
  exact va_tlen hA.1 hA.2.1 (hA.2.2.2.2.2.2.2.2.2.1.2.2.1 i hi).2.2.2 hS rfl hd (k p e R s m args below meth c H locs cells slots Q ls hA hP hS hL h1 h2 r hE hr)
theorem r_sald {i : Nat} {j : Int32} {F : Int32 → Option τ} (hi : i < strN) (hd : decode (mc μ) pc = .ok (.baload, 1)) (kk : ∀ v : Int32, V g μ d rv rm (pc + 1) l (.int v :: st) M (F v)) : V g μ d rv rm pc l (.int j :: .ref (gv g i) :: st) M ((rdf (sbyt i) (slen i) j).bind F) := by
  unfold rdf
  by_cases h : j < 0 ∨ slen i ≤ j.toNatClampNeg
  · rw [if_pos h]; exact vNone
  · rw [if_neg h]
    intro p e R s m args below meth c H locs cells slots Q ls hA hP hS hL h1 h2 r hE hr
    exact va_tb hA.1 hA.2.1 (hA.2.2.2.2.2.2.2.2.2.1.2.2.1 i hi).2.2.2 hS (vp_inB h) rfl hd (kk _ p e R s m args below meth c H locs cells slots Q ls hA hP hS hL h1 h2 r hE hr)
theorem call_VS {index i na : Nat} {As : List Value} (hi : i < strN) (hn : n < d) (hm : MOK ν) (hd : decode (mc μ) pc = .ok (.invokevirtual index, 3)) (hlink : Cond.methodLink (mo μ) index (my ν) ∈ tb) (hinst : Cond.instanceMethod (my ν) ∈ tb) (hsel : Cond.selects "java/lang/String" (my ν) (my ν) ∈ tb) (hpar : (parseMethodDescriptor (my ν).desc).map (fun d => d.parameters.length) = some na) (hla : As.length = na) (hrest : (rest.map fun v => v.category).sum ≤ 8) (hst : st = As.reverse ++ .ref (gs g i) :: rest) :
    Call g μ d pc ν n (.ref (gs g i) :: As) st rest M := by
  intro p e R s m args below meth c H locs cells slots ls Qc hA hP hS hls h1 h2 hM
  have ht := hA.2.2.2.2.1
  have cw : CallW R s args (mo μ) "java/lang/String" index (my ν) (mc ν) (ml ν) (mr ν) (ws ν) (rmx n) 0 0 na := ⟨callB_of na ht (GoodIn_ws hm) rfl rfl rfl (ht _ hm.2.2.2.1) (ht _ hlink) ⟨hm.2.2.2.2.1.1, hm.2.2.2.2.1.2, hpar⟩ (room_ok hA.2.2.2.2.2.2.2.2.2.2 hn hm.2.2.2.2.2), ht _ hinst, ht _ hsel⟩
  have hO := (hA.2.2.2.2.2.2.2.2.2.1.2.2.1 i hi).1.kept (H1 := H) (fun a h1 h2 => hS.2.1 a h1 h2)
  obtain ⟨cell, o1, o2, o3, -⟩ := hO
  exact va_runV ⟨hA.1, hA.2.1, hA.2.2.1, hA.2.2.2.1, ht⟩ hM cw ⟨Pre_blind _ _ _, ⟨cell, o1, o2, o3⟩, fun U hU hW => pre_ok hA hP hS hU hW⟩ rfl hla hls hst (lv_room hrest) hd ⟨h1, h2⟩
end MORE
/-! ===== switches ===== -/
def swt {α : Type} (x : Int32) : Int32 → List α → α → α
  | _, [], dv => dv
  | lo, e :: es, dv => if x = lo then e else swt x (lo + 1) es dv
def swl {α : Type} (x : Int32) : List (Int32 × α) → α → α
  | [], dv => dv
  | q :: qs, dv => if x = q.1 then q.2 else swl x qs dv
theorem swt_in {α : Type} {x : Int32} {dv : α} : ∀ (es : List α) (lo : Int32) (j : Nat), x.toInt = lo.toInt + j → j < es.length → lo.toInt + es.length < 2 ^ 31 → swt x lo es dv = es.getD j dv
  | [], lo, j, _, hj, _ => absurd hj (Nat.not_lt_zero j)
  | e :: es, lo, 0, hx, _, _ => by
    have : x = lo := Int32.toInt_inj.mp (by simpa using hx)
    simp [swt, this]
  | e :: es, lo, j + 1, hx, hj, hb => by
    have hne : ¬ x = lo := fun h => by rw [h] at hx; omega
    simp only [List.length_cons] at hj hb
    have h1 : (lo + 1).toInt = lo.toInt + 1 := by
      have := lo.le_toInt
      have e1 : (1 : Int32).toInt = 1 := by decide
      rw [Int32.toInt_add, e1]
      refine Int.bmod_eq_of_le ?_ ?_ <;> omega
    show (if x = lo then e else swt x (lo + 1) es dv) = (e :: es).getD (j + 1) dv
    rw [if_neg hne, swt_in es (lo + 1) j (by rw [h1]; omega) (by omega) (by rw [h1]; omega), List.getD_cons_succ]
theorem swt_out {α : Type} {x : Int32} {dv : α} : ∀ (es : List α) (lo : Int32), (x.toInt < lo.toInt ∨ lo.toInt + es.length ≤ x.toInt) → lo.toInt + es.length < 2 ^ 31 → swt x lo es dv = dv
  | [], lo, _, _ => rfl
  | e :: es, lo, hx, hb => by
    simp only [List.length_cons] at hx hb
    have hne : ¬ x = lo := fun h => by rw [h] at hx; omega
    have h1 : (lo + 1).toInt = lo.toInt + 1 := by
      have := lo.le_toInt
      have e1 : (1 : Int32).toInt = 1 := by decide
      rw [Int32.toInt_add, e1]
      refine Int.bmod_eq_of_le ?_ ?_ <;> omega
    show (if x = lo then e else swt x (lo + 1) es dv) = dv
    rw [if_neg hne, swt_out es (lo + 1) (by rw [h1]; omega) (by rw [h1]; omega)]
section SW
variable {g : G} {μ : MI} {d : Nat} {τ : Type} {rv : τ → List Value} {rm : τ → Mem} {pc : Nat} {l st : List Value} {M : Mem}
theorem r_tsw {dflt lo hi : Int} {offs : Array Int} {len td : Nat} {x lo32 : Int32} {Es : List (Option τ)} {Ed : Option τ} {tg : List Nat} (hd : decode (mc μ) pc = .ok (.tableswitch dflt lo hi offs, len)) (hlo : lo32.toInt = lo) (hhi : hi = lo + Es.length - 1) (hb : lo + Es.length < 2 ^ 31) (htg : ∀ j, j < Es.length → ∃ off, offs[j]? = some off ∧ (pc : Int) + off = (tg.getD j 0 : Nat)) (htd : (pc : Int) + dflt = (td : Nat))
    (kk : ∀ j, j < Es.length → V g μ d rv rm (tg.getD j 0) l st M (Es.getD j Ed)) (kd : V g μ d rv rm td l st M Ed) : V g μ d rv rm pc l (.int x :: st) M (swt x lo32 Es Ed) := by
  subst hlo
  by_cases hx : x.toInt < lo32.toInt ∨ hi < x.toInt
  · rw [swt_out Es lo32 (by omega) (by omega)]
    intro p e R s m args below meth c H locs cells slots Q ls hA hP hS hL h1 h2 r hE hr
    exact lv_tableOut hA.1 hA.2.1 hd hx htd (kd p e R s m args below meth c H locs cells slots Q ls hA hP hS hL h1 h2 r hE hr)
  · have hj : (x.toInt - lo32.toInt).toNat < Es.length := by omega
    rw [swt_in Es lo32 (x.toInt - lo32.toInt).toNat (by omega) hj (by omega)]
    obtain ⟨off, ho, ht⟩ := htg _ hj
    intro p e R s m args below meth c H locs cells slots Q ls hA hP hS hL h1 h2 r hE hr
    exact lv_tableIn hA.1 hA.2.1 hd (by omega) (by omega) ho ht (kk _ hj p e R s m args below meth c H locs cells slots Q ls hA hP hS hL h1 h2 r hE hr)
end SW
