/-! ===== the constructors: the cells come one behind another, cell k at N0 + k ===== -/
def upE (C : Nat → va_E) (k : Nat) (x : va_E) : Nat → va_E := fun i => if i = k then x else C i
def wl (g : G) (n : Nat) (C : Nat → va_E) : va_W := (List.range n).map (fun k => (ga g k, C k))
def Str (g : G) (N0 : Nat) : Prop := (∀ k, ga g k = N0 + k) ∧ ∀ q, gw g q ↔ N0 ≤ q
def nestI : List (String × Nat × MethodName × String) := [(RX11, 11, yX0_init, RX11), (RX0, 11, yX9_init, RX11), (RX0, 29, yX1_init, RX11), (RX0, 45, yX10_init, RX11), (RX6, 21, yX9_init, RX11), (RX11, 28, yX9_init, RX11), (RX11, 35, yX8_init, RX11), (RX11, 42, yX2_init, RX11), (RX2, 11, yX1_init, RX11), (RX11, 49, yX4_init, RX11), (RX11, 56, yX5_init, RX11)]
def Kc (s : State) : Prop := (∀ q ∈ nestI, va_Nw (.methodLinkNest q.1 q.2.1 q.2.2.1 q.2.2.2) s) ∧ va_AO RX9 s
theorem Kc_go {s U : State} (h : Kc s) (hW : s.WarmedH U.vm) : Kc U := ⟨fun q hq => (h.1 q hq).warmM hW, h.2.moved hW.alike⟩
theorem Kc_calling {U : State} {f : JFrame} {mk : MethodId} {a : Array Value} (h : Kc U) : Kc (U.calling f mk a) := ⟨fun q hq => (h.1 q hq).same rfl rfl, h.2.moved (Vm.Alike.refl _)⟩
theorem W_sized {p : Program} {l : Launch} {e : Env} {R : Room} {s : State} {m : MethodId} {args : Array Value} {below : List Frame} {meth : Method} {c : Code} {H : Heap} {locs : List Loc} {cells slots : Nat} {Q : State → Prop} {f : JFrame} (h : H.size ≤ s.heap.size + cells → W p l e R s m args below meth c H locs cells slots Q f) : W p l e R s m args below meth c H locs cells slots Q f :=
  fun T hT X => h (by rw [← hT]; exact X.heapSize) T hT X
section WL
variable {g : G} {n k : Nat} {C C2 : Nat → va_E} {x : va_E} {N0 : Nat}
theorem wl_at (h : k < n) : (wl g n C)[k]? = some (ga g k, C k) := by
  unfold wl
  rw [List.getElem?_map, List.getElem?_range h]
  rfl
theorem wl_len : (wl g n C).length = n := by simp [wl]
theorem wl_of {q : Nat × va_E} (h : (wl g n C)[k]? = some q) : k < n ∧ q = (ga g k, C k) := by
  have h1 : k < n := by rw [← wl_len (g := g) (n := n) (C := C)]; exact (List.getElem?_eq_some_iff.mp h).1
  rw [wl_at h1] at h
  exact ⟨h1, (Option.some.inj h).symm⟩
theorem wl_congr (h : ∀ i, i < n → C i = C2 i) : wl g n C = wl g n C2 := List.map_congr_left (fun k hk => by rw [h k (List.mem_range.mp hk)])
theorem upE_s : upE C k x k = x := if_pos rfl
theorem upE_o {i : Nat} (h : i ≠ k) : upE C k x i = C i := if_neg h
theorem wl_push : wl g n C ++ [(ga g n, x)] = wl g (n + 1) (upE C n x) := by
  unfold wl
  rw [List.range_succ, List.map_append]
  congr 1
  · exact List.map_congr_left (fun k hk => by rw [upE_o (Nat.ne_of_lt (List.mem_range.mp hk))])
  · simp [upE]
theorem wl_set (h : k < n) : (wl g n C).set k (ga g k, x) = wl g n (upE C k x) := by
  apply List.ext_getElem?
  intro i
  rcases Nat.lt_or_ge i n with hi | hi
  · rw [wl_at hi]
    by_cases hik : i = k
    · subst hik
      rw [List.getElem?_set_self (by rw [wl_len]; exact hi), upE_s]
    · rw [List.getElem?_set_ne (fun h => hik h.symm), wl_at hi, upE_o hik]
  · rw [List.getElem?_eq_none (by rw [List.length_set, wl_len]; exact hi), List.getElem?_eq_none (by rw [wl_len]; exact hi)]
theorem wl_D (hs : Str g N0) : va_D (gw g) (wl g n C) := by
  refine ⟨fun i j p q hi hj hpq => ?_, fun k q hk => ?_⟩
  · obtain ⟨-, rfl⟩ := wl_of hi
    obtain ⟨-, rfl⟩ := wl_of hj
    have : ga g i = ga g j := hpq
    rw [hs.1, hs.1] at this
    omega
  · obtain ⟨-, rfl⟩ := wl_of hk
    exact (hs.2 _).mpr (by rw [hs.1]; omega)
theorem wl_lt {D : va_G} {cl : List vw_C} {H : Heap} (h : va_P D cl (wl g n C) H) (hk : k < n) : ga g k < H.size := (h k _ (wl_at hk)).lt
/-- a new cell that is apart from the others, where no more than n + 1 can be, is the next -/
theorem wl_next {D : va_G} {cl : List vw_C} {H : Heap} {q : Nat} (hs : Str g N0) (hP : va_P D cl (wl g n C ++ [(q, x)]) H) (hD : va_D (gw g) (wl g n C ++ [(q, x)])) (hz : H.size ≤ N0 + n + 1) : q = ga g n := by
  have hl : (wl g n C ++ [(q, x)])[n]? = some (q, x) := by
    rw [List.getElem?_append_right (by rw [wl_len]; exact Nat.le_refl _), wl_len]
    simp
  have h1 : q < H.size := (hP n _ hl).lt
  have h2 : N0 ≤ q := (hs.2 q).mp (hD.2 n _ hl)
  rw [hs.1]
  rcases Nat.lt_or_ge q (N0 + n) with h3 | h3
  · exfalso
    have h4 : (wl g n C ++ [(q, x)])[q - N0]? = some (ga g (q - N0), C (q - N0)) := by
      rw [List.getElem?_append_left (by rw [wl_len]; omega), wl_at (by omega)]
    have := hD.1 _ _ _ _ h4 hl (by rw [hs.1]; show N0 + (q - N0) = q; omega)
    omega
  · omega
end WL
def AtY (g : G) (N0 : Nat) (μ : MI) (d nB : Nat) (p : Program) (R : Room) (s : State) (m : MethodId) (args : Array Value) (meth : Method) (c : Code) : Prop :=
  At g μ d p R s m args meth c ∧ Str g N0 ∧ Kc s ∧ s.heap.size = N0 + nB ∧ (mr μ = none → meth.name = "<init>")
/-- from pc, with nB + i cells of contents C, to pcE with nB + iE cells of contents CE; z slots so far -/
def Y (g : G) (N0 : Nat) (μ : MI) (d nB pcE : Nat) (lE : List Value) (iE : Nat) (CE : Nat → va_E) (zE : Nat) (pc : Nat) (l st : List Value) (i : Nat) (C : Nat → va_E) (z : Nat) : Prop :=
  ∀ (p : Program) (e : Env) (R : Room) (s : State) (m : MethodId) (args : Array Value) (below : List Frame) (meth : Method) (c : Code) (H : Heap) (locs : List Loc) (Q : State → Prop) (ls : Array Slot),
  AtY g N0 μ d nB p R s m args meth c → va_P g.1 vwCl (wl g (nB + i) C) H → va_S (gw g) s.heap H locs → Lr ls (ml μ) l → iE ≤ R.cells → zE ≤ R.slots →
  (∀ (ls' : Array Slot) (H' : Heap) (locs' : List Loc), va_P g.1 vwCl (wl g (nB + iE) CE) H' → va_S (gw g) s.heap H' locs' → Lr ls' (ml μ) lE → W p (gl g) e R s m args below meth c H' locs' iE zE Q (F0 m pcE ls' [])) →
  W p (gl g) e R s m args below meth c H locs i z Q (F0 m pc ls st)
section CONS
variable {g : G} {N0 : Nat} {μ : MI} {d nB pcE : Nat} {lE : List Value} {iE : Nat} {CE : Nat → va_E} {zE pc : Nat} {l st : List Value} {i : Nat} {C : Nat → va_E} {z : Nat}
theorem yEnd (hs : Sb lE l) (hC : ∀ j, j < nB + iE → C j = CE j) : Y g N0 μ d nB pcE lE iE CE zE pcE l [] iE C zE := by
  intro p e R s m args below meth c H locs Q ls hA hP hS hL h1 h2 kE
  rw [wl_congr hC] at hP
  exact kE ls H locs hP hS (Lr_sub hL hs)
theorem yCongr {C2 : Nat → va_E} (hC : ∀ j, j < nB + i → C j = C2 j) (k : Y g N0 μ d nB pcE lE iE CE zE pc l st i C2 z) : Y g N0 μ d nB pcE lE iE CE zE pc l st i C z := by
  intro p e R s m args below meth c H locs Q ls hA hP hS hL h1 h2 kE
  rw [wl_congr hC] at hP
  exact k p e R s m args below meth c H locs Q ls hA hP hS hL h1 h2 kE
theorem y_iconst {n : Int} {v : Int32} (hv : Int32.ofInt n = v) {pc' : Nat} (hd : DD (mc μ) pc (.iconst n) 1 pc') (k : Y g N0 μ d nB pcE lE iE CE zE pc' l (.int v :: st) i C z) : Y g N0 μ d nB pcE lE iE CE zE pc l st i C z := by
  obtain ⟨hd, rfl⟩ := hd
  intro p e R s m args below meth c H locs Q ls hA hP hS hL h1 h2 kE
  exact lv_iconst hA.1.1 hA.1.2.1 hd hv (k p e R s m args below meth c H locs Q ls hA hP hS hL h1 h2 kE)
theorem y_bipush {n : Int} {v : Int32} (hv : (Int8.ofInt n).toInt32 = v) {pc' : Nat} (hd : DD (mc μ) pc (.bipush n) 2 pc') (k : Y g N0 μ d nB pcE lE iE CE zE pc' l (.int v :: st) i C z) : Y g N0 μ d nB pcE lE iE CE zE pc l st i C z := by
  obtain ⟨hd, rfl⟩ := hd
  intro p e R s m args below meth c H locs Q ls hA hP hS hL h1 h2 kE
  exact lv_bipush hA.1.1 hA.1.2.1 hd hv (k p e R s m args below meth c H locs Q ls hA hP hS hL h1 h2 kE)
theorem y_sipush {n : Int} {v : Int32} (hv : (Int16.ofInt n).toInt32 = v) {pc' : Nat} (hd : DD (mc μ) pc (.sipush n) 3 pc') (k : Y g N0 μ d nB pcE lE iE CE zE pc' l (.int v :: st) i C z) : Y g N0 μ d nB pcE lE iE CE zE pc l st i C z := by
  obtain ⟨hd, rfl⟩ := hd
  intro p e R s m args below meth c H locs Q ls hA hP hS hL h1 h2 kE
  exact lv_sipush hA.1.1 hA.1.2.1 hd hv (k p e R s m args below meth c H locs Q ls hA hP hS hL h1 h2 kE)
theorem y_iload_n {q : Fin 4} {j : Nat} {x : Int32} {pc' : Nat} (hd : DD (mc μ) pc (.iload_n q) 1 pc') (hi : (q : Nat) = j) (hl : l[j]? = some (.int x)) (k : Y g N0 μ d nB pcE lE iE CE zE pc' l (.int x :: st) i C z) : Y g N0 μ d nB pcE lE iE CE zE pc l st i C z := by
  obtain ⟨hd, rfl⟩ := hd
  intro p e R s m args below meth c H locs Q ls hA hP hS hL h1 h2 kE
  exact lv_iload_n hA.1.1 hA.1.2.1 hd hi (Lr_at hL hl (by intro h; cases h)) (k p e R s m args below meth c H locs Q ls hA hP hS hL h1 h2 kE)
theorem y_iload {j : Nat} {x : Int32} {pc' : Nat} (hd : DD (mc μ) pc (.iload j) 2 pc') (hl : l[j]? = some (.int x)) (k : Y g N0 μ d nB pcE lE iE CE zE pc' l (.int x :: st) i C z) : Y g N0 μ d nB pcE lE iE CE zE pc l st i C z := by
  obtain ⟨hd, rfl⟩ := hd
  intro p e R s m args below meth c H locs Q ls hA hP hS hL h1 h2 kE
  exact lv_iload hA.1.1 hA.1.2.1 hd (Lr_at hL hl (by intro h; cases h)) (k p e R s m args below meth c H locs Q ls hA hP hS hL h1 h2 kE)
theorem y_aload_n {q : Fin 4} {j : Nat} {x : Nat} {pc' : Nat} (hd : DD (mc μ) pc (.aload_n q) 1 pc') (hi : (q : Nat) = j) (hl : l[j]? = some (.ref x)) (k : Y g N0 μ d nB pcE lE iE CE zE pc' l (.ref x :: st) i C z) : Y g N0 μ d nB pcE lE iE CE zE pc l st i C z := by
  obtain ⟨hd, rfl⟩ := hd
  intro p e R s m args below meth c H locs Q ls hA hP hS hL h1 h2 kE
  exact lv_aload_n hA.1.1 hA.1.2.1 hd hi (Lr_at hL hl (by intro h; cases h)) (k p e R s m args below meth c H locs Q ls hA hP hS hL h1 h2 kE)
theorem y_istore_n {q : Fin 4} {j : Nat} {x : Int32} {l' : List Value} {pc' : Nat} (hd : DD (mc μ) pc (.istore_n q) 1 pc') (hi : (q : Nat) = j) (hn : j < ml μ) (ho : okS l j = true) (hl : l.set j (.int x) = l') (k : Y g N0 μ d nB pcE lE iE CE zE pc' l' st i C z) : Y g N0 μ d nB pcE lE iE CE zE pc l (.int x :: st) i C z := by
  obtain ⟨hd, rfl⟩ := hd
  intro p e R s m args below meth c H locs Q ls hA hP hS hL h1 h2 kE
  exact lv_istore_n hA.1.1 hA.1.2.1 hd hi (Lr_has hL) hn rfl (fun ls' h => k p e R s m args below meth c H locs Q ls' hA hP hS (hl ▸ Lr_set ho h) h1 h2 kE)
theorem y_astore_n {q : Fin 4} {j : Nat} {x : Nat} {l' : List Value} {pc' : Nat} (hd : DD (mc μ) pc (.astore_n q) 1 pc') (hi : (q : Nat) = j) (hn : j < ml μ) (ho : okS l j = true) (hl : l.set j (.ref x) = l') (k : Y g N0 μ d nB pcE lE iE CE zE pc' l' st i C z) : Y g N0 μ d nB pcE lE iE CE zE pc l (.ref x :: st) i C z := by
  obtain ⟨hd, rfl⟩ := hd
  intro p e R s m args below meth c H locs Q ls hA hP hS hL h1 h2 kE
  exact lv_astore_n hA.1.1 hA.1.2.1 hd hi (Lr_has hL) hn rfl (fun ls' h => k p e R s m args below meth c H locs Q ls' hA hP hS (hl ▸ Lr_set ho h) h1 h2 kE)
theorem y_iinc {j : Nat} {n : Int} {x v : Int32} {l' : List Value} {pc' : Nat} (hd : DD (mc μ) pc (.iinc j n) 3 pc') (hx : l[j]? = some (.int x)) (hv : x + Int32.ofInt n = v) (hn : j < ml μ) (ho : okS l j = true) (hl : l.set j (.int v) = l') (k : Y g N0 μ d nB pcE lE iE CE zE pc' l' st i C z) : Y g N0 μ d nB pcE lE iE CE zE pc l st i C z := by
  obtain ⟨hd, rfl⟩ := hd
  intro p e R s m args below meth c H locs Q ls hA hP hS hL h1 h2 kE
  obtain ⟨q, hq⟩ := List.getElem?_of_mem (lvl_mem hx (by intro h; cases h))
  exact lv_iinc hA.1.1 hA.1.2.1 hd (Lr_has hL) hq hv hn rfl (fun ls' h => k p e R s m args below meth c H locs Q ls' hA hP hS (hl ▸ Lr_set ho h) h1 h2 kE)
theorem y_dup {a : Value} {pc' : Nat} (hd : DD (mc μ) pc (.dup) 1 pc') (ha : a.category = 1) (k : Y g N0 μ d nB pcE lE iE CE zE pc' l (a :: a :: st) i C z) : Y g N0 μ d nB pcE lE iE CE zE pc l (a :: st) i C z := by
  obtain ⟨hd, rfl⟩ := hd
  intro p e R s m args below meth c H locs Q ls hA hP hS hL h1 h2 kE
  exact lv_dup hA.1.1 hA.1.2.1 hd ha (k p e R s m args below meth c H locs Q ls hA hP hS hL h1 h2 kE)
theorem y_icmp_ge {x y : Int32} {off : Int} {tgt : Nat} {pc' : Nat} (hd : DB (mc μ) pc (.if_icmp .ge off) 3 pc' off tgt) (kt : y ≤ x → Y g N0 μ d nB pcE lE iE CE zE tgt l st i C z) (kf : ¬ y ≤ x → Y g N0 μ d nB pcE lE iE CE zE pc' l st i C z) : Y g N0 μ d nB pcE lE iE CE zE pc l (.int y :: .int x :: st) i C z := by
  obtain ⟨hd, rfl, ht⟩ := hd
  intro p e R s m args below meth c H locs Q ls hA hP hS hL h1 h2 kE
  exact lv_icmp_ge hA.1.1 hA.1.2.1 hd ht (fun h => kt h p e R s m args below meth c H locs Q ls hA hP hS hL h1 h2 kE) (fun h => kf h p e R s m args below meth c H locs Q ls hA hP hS hL h1 h2 kE)
theorem y_goto {off : Int} {tgt : Nat} {pc' : Nat} (hd : DB (mc μ) pc (.goto off) 3 pc' off tgt) (k : Y g N0 μ d nB pcE lE iE CE zE tgt l st i C z) : Y g N0 μ d nB pcE lE iE CE zE pc l st i C z := by
  obtain ⟨hd, -, ht⟩ := hd
  intro p e R s m args below meth c H locs Q ls hA hP hS hL h1 h2 kE
  exact lv_goto hA.1.1 hA.1.2.1 hd ht (k p e R s m args below meth c H locs Q ls hA hP hS hL h1 h2 kE)
theorem y_objInit {index x : Nat} (hn : 1 ≤ d) (hlink : Cond.methodLink (mo μ) index Lib.objectInit ∈ tb) (hinst : Cond.instanceMethod Lib.objectInit ∈ tb) (hcode : Cond.code Lib.objectInit ⟨#[0xb1]⟩ 1 none ∈ tb) {pc' : Nat} (hd : DD (mc μ) pc (.invokespecial index) 3 pc') (k : Y g N0 μ d nB pcE lE iE CE zE pc' l [] i C z) : Y g N0 μ d nB pcE lE iE CE zE pc l [.ref x] i C z := by
  obtain ⟨hd, rfl⟩ := hd
  intro p e R s m args below meth c H locs Q ls hA hP hS hL h1 h2 kE
  have ht := hA.1.2.2.2.2.1
  have hrm := hA.1.2.2.2.2.2.2.2.2.2.2
  refine W.objInit hA.1.1 hA.1.2.1 hA.1.2.2.2.1 (ht _ hlink) (ht _ hinst) (ht _ hcode) rfl (hL.1.trans hA.1.2.2.1.symm) rfl hd (by omega) (by show 2 * 0 + 0 + 12 ≤ R.locals; omega) ?_
  exact k p e R s m args below meth c H locs Q ls hA hP hS hL h1 h2 kE
theorem y_max {index : Nat} {x y v : Int32} (hn : 1 ≤ d) (hrest : (st.map fun v => v.category).sum ≤ 8) (hlink : Cond.methodLink (mo μ) index Lib.Math.max.name ∈ tb) (hstat : Cond.static Lib.Math.max.name ∈ tb) (hini : Cond.initialized "java/lang/Math" ∈ tb) (hcode : Cond.code Lib.Math.max.name Lib.Math.max.code 2 (some .int) ∈ tb) {pc' : Nat} (hd : DD (mc μ) pc (.invokestatic index) 3 pc') (hle : i ≤ iE) (hlz : z ≤ zE) (hv : jmax x y = v) (k : Y g N0 μ d nB pcE lE iE CE zE pc' l (.int v :: st) i C z) : Y g N0 μ d nB pcE lE iE CE zE pc l (.int y :: .int x :: st) i C z := by
  obtain ⟨hd, rfl⟩ := hd
  subst hv
  intro p e R s m args below meth c H locs Q ls hA hP hS hL h1 h2 kE
  have ht := hA.1.2.2.2.2.1
  have hrm := hA.1.2.2.2.2.2.2.2.2.2.2
  exact va_mmax hA.1.1 hA.1.2.1 (hA.1.2.2.1.trans hL.1.symm) hA.1.2.2.2.1 (ht _ hlink) (ht _ hstat) (ht _ hini) (ht _ hcode) (by omega) (by omega) (Nat.le_trans hle h1) (Nat.le_trans hlz h2) hd (k p e R s m args below meth c H locs Q ls hA hP hS hL h1 h2 kE)
/-- what a class's rows are: its place among the classes, its words, its types -/
def CL (ci nf : Nat) (C : String) (T : u_T) (ty : Nat → FieldType) : Prop := vwCl[ci]? = some (C, T, nf) ∧ (∀ w ∈ u_ws C T nf, w ∈ tb) ∧ (∀ k, k < nf → parseFieldDescriptor (T k).2.2.1 = some (ty k)) ∧ (∀ a, a < nf → ∀ b, b < nf → a ≠ b → (T a).2.1 ≠ (T b).2.1) ∧ Cond.instantiable C nf ∈ tb ∧ Cond.initialized C ∈ tb
theorem y_new {index ci nf q i' z' : Nat} {Cn : String} {T : u_T} {ty : Nat → FieldType} {bl : List Value} (hc : CL ci nf Cn T ty) (hlink : Cond.classLink (mo μ) index Cn ∈ tb) (hbl : ∀ j, j < nf → defaultValue (ty j) = vp_V bl j) {pc' : Nat} (hd : DD (mc μ) pc (.new index) 3 pc') (hq : nB + i = q) (hi : i + 1 = i') (hz : z + nf = z') (hle : i' ≤ iE) (hlz : z' ≤ zE)
    (k : Y g N0 μ d nB pcE lE iE CE zE pc' l (.ref (ga g q) :: st) i' (upE C q (.inr (ci, bl))) z') : Y g N0 μ d nB pcE lE iE CE zE pc l st i C z := by
  obtain ⟨hd, rfl⟩ := hd
  subst hq; subst hi; subst hz
  obtain ⟨c1, c2, c3, c4, c5, c6⟩ := hc
  intro p e R s m args below meth c H locs Q ls hA hP hS hL h1 h2 kE
  have ht := hA.1.2.2.2.2.1
  refine va_new (fs := bl) hA.1.1 hA.1.2.1 ht c2 ty c3 hA.1.2.2.2.1 (ht _ hlink) (ht _ c5) (ht _ c6) hA.1.2.2.2.2.2.2.2.1 hP (wl_D hA.2.1) hS (fun q h => (hA.2.1.2 q).mpr (by rw [hA.2.2.2.1] at h; omega)) c1 hbl (Nat.le_trans hle h1) (Nat.le_trans hlz h2) hd (fun q H1 hP1 hD1 hS1 => ?_)
  refine W_sized (fun hz1 => ?_)
  have hq : q = ga g (nB + i) := wl_next hA.2.1 hP1 hD1 (by rw [hA.2.2.2.1] at hz1; omega)
  subst hq
  rw [wl_push] at hP1
  exact k p e R s m args below meth c H1 locs Q ls hA hP1 hS1 hL h1 h2 kE
theorem y_newa {atype : ArrayType} {ty : FieldType} {t N q i' z' : Nat} {v : Int32} (harr : Cond.arrayClass ty ∈ tb) (hty : newarray.typeOf atype = ty) (htys : (tysL g)[t]? = some (gc g t, ty)) (hp : ∀ C, ty ≠ .object C) (hdef : defaultValue ty = .int 0) (hv : ¬ v < 0) (hN : v.toNatClampNeg = N) (hby : N * componentBytes ty ≤ 536870912) {pc' : Nat} (hd : DD (mc μ) pc (.newarray atype) 2 pc') (hq : nB + i = q) (hi : i + 1 = i') (hz : z + N = z') (hle : i' ≤ iE) (hlz : z' ≤ zE)
    (k : Y g N0 μ d nB pcE lE iE CE zE pc' l (.ref (ga g q) :: st) i' (upE C q (.inl (gc g t, N, .inl (fun _ => 0)))) z') : Y g N0 μ d nB pcE lE iE CE zE pc l (.int v :: st) i C z := by
  obtain ⟨hd, rfl⟩ := hd
  subst hq; subst hi; subst hz; subst hty
  intro p e R s m args below meth c H locs Q ls hA hP hS hL h1 h2 kE
  have ht := hA.1.2.2.2.2.1
  have hK := hA.1.2.2.2.2.2.2.2.1
  refine va_newa (atype := atype) (a0 := (N, .inl (fun _ => 0))) hA.1.1 hA.1.2.1 (ht _ harr) rfl hK hP (wl_D hA.2.1) hS (fun q h => (hA.2.1.2 q).mpr (by rw [hA.2.2.2.1] at h; omega)) (fun cA => by rw [vp_cell_i, hdef]) hv hN hby (Nat.le_trans hle h1) (Nat.le_trans hlz h2) hd (fun q cA H1 hK1 hP1 hD1 hS1 => ?_)
  refine W_sized (fun hz1 => ?_)
  have hq : q = ga g (nB + i) := wl_next hA.2.1 hP1 hD1 (by rw [hA.2.2.2.1] at hz1; omega)
  subst hq
  have e1 := (hK1.2 (tysL g).length (cA, newarray.typeOf atype) (by simp)).2
  have e2 := (hK.2 t _ htys).2
  have hcA : cA = gc g t := by
    revert e1 e2 hp
    generalize newarray.typeOf atype = ty
    intro hp e1 e2
    cases ty with
    | object C => exact absurd rfl (hp C)
    | _ => exact Option.some.inj (Eq.trans (Eq.symm e1) e2)
  subst hcA
  rw [wl_push] at hP1
  exact k p e R s m args below meth c H1 locs Q ls hA hP1 hS1 hL h1 h2 kE
theorem y_newq {index N q i' z' : Nat} {v : Int32} (hlink : Cond.classLink (mo μ) index RX9 ∈ tb) (hv : ¬ v < 0) (hN : v.toNatClampNeg = N) (hby : N * 4 ≤ 536870912) {pc' : Nat} (hd : DD (mc μ) pc (.anewarray index) 3 pc') (hq : nB + i = q) (hi : i + 1 = i') (hz : z + N = z') (hle : i' ≤ iE) (hlz : z' ≤ zE)
    (k : Y g N0 μ d nB pcE lE iE CE zE pc' l (.ref (ga g q) :: st) i' (upE C q (.inl (gc g 3, N, .inr (.inr (.inr (.inr (fun _ => none))))))) z') : Y g N0 μ d nB pcE lE iE CE zE pc l (.int v :: st) i C z := by
  obtain ⟨hd, rfl⟩ := hd
  subst hq; subst hi; subst hz
  intro p e R s m args below meth c H locs Q ls hA hP hS hL h1 h2 kE
  have ht := hA.1.2.2.2.2.1
  have hK := hA.1.2.2.2.2.2.2.2.1
  refine va_newq hA.1.1 hA.1.2.1 hA.1.2.2.2.1 (ht _ hlink) hA.2.2.1.2 hK hP (wl_D hA.2.1) hS (fun q h => (hA.2.1.2 q).mpr (by rw [hA.2.2.2.1] at h; omega)) hv hN hby (Nat.le_trans hle h1) (Nat.le_trans hlz h2) hd (fun q cA H1 hK1 hP1 hD1 hS1 => ?_)
  refine W_sized (fun hz1 => ?_)
  have hq : q = ga g (nB + i) := wl_next hA.2.1 hP1 hD1 (by rw [hA.2.2.2.1] at hz1; omega)
  subst hq
  obtain ⟨_, _, _, _, _, e1⟩ := (hK1.2 (tysL g).length (cA, .object RX9) (by simp)).2
  obtain ⟨_, _, _, _, _, e2⟩ := (hK.2 3 (gc g 3, .object RX9) rfl).2
  have hcA : cA = gc g 3 := Option.some.inj (Eq.trans (Eq.symm e1) e2)
  subst hcA
  rw [wl_push] at hP1
  exact k p e R s m args below meth c H1 locs Q ls hA hP1 hS1 hL h1 h2 kE
theorem y_put {index ci nf j k : Nat} {Cn : String} {T : u_T} {ty : Nat → FieldType} {fs : List Value} {v : Value} {tj : FieldType} (hc : CL ci nf Cn T ty) (hj : j < nf) (hlink : Cond.fieldLink (mo μ) index (T j).1 (T j).2.1 (T j).2.2.1 ∈ tb) (hr : mr μ = none) (hdecl : (T j).1 = mo μ) (htj : ty j = tj) (hn : narrow tj v = v) (hfit : fits tj v = true) {pc' : Nat} (hd : DD (mc μ) pc (.putfield index) 3 pc') (hk : k < nB + i) (hC : C k = .inr (ci, fs)) (hl : j < fs.length)
    (kk : Y g N0 μ d nB pcE lE iE CE zE pc' l st i (upE C k (.inr (ci, fs.set j v))) z) : Y g N0 μ d nB pcE lE iE CE zE pc l (v :: .ref (ga g k) :: st) i C z := by
  obtain ⟨hd, rfl⟩ := hd
  obtain ⟨c1, c2, c3, c4, c5, c6⟩ := hc
  intro p e R s m args below meth c H locs Q ls hA hP hS hL h1 h2 kE
  have ht := hA.1.2.2.2.2.1
  have hK := hA.1.2.2.2.2.2.2.2.1
  have he : (wl g (nB + i) C)[k]? = some (ga g k, .inr (ci, fs)) := by rw [wl_at hk, hC]
  have hty : parseFieldDescriptor (T j).2.2.1 = some tj := by rw [c3 j hj, htj]
  cases hfin : (T j).2.2.2 with
  | true =>
    refine va_putF hA.1.1 hA.1.2.1 ht c2 ty c3 c4 hA.1.2.2.2.1 hK hP (wl_D hA.2.1) hS k he c1 j hj (ht _ hlink) (fun _ h => h) hfin (hA.2.2.2.2 hr) hdecl hty hn hfit hl hd (fun H1 locs1 hP1 _ hS1 => ?_)
    rw [wl_set hk] at hP1
    exact kk p e R s m args below meth c H1 locs1 Q ls hA hP1 hS1 hL h1 h2 kE
  | false =>
    refine va_put hA.1.1 hA.1.2.1 ht c2 ty c3 c4 hA.1.2.2.2.1 hK hP (wl_D hA.2.1) hS k he c1 j hj (ht _ hlink) (fun _ h => h) hfin hty hn hfit hl hd (fun H1 locs1 hP1 _ hS1 => ?_)
    rw [wl_set hk] at hP1
    exact kk p e R s m args below meth c H1 locs1 Q ls hA hP1 hS1 hL h1 h2 kE
theorem y_get {index ci nf j k : Nat} {Cn : String} {T : u_T} {ty : Nat → FieldType} {fs : List Value} {v : Value} (hc : CL ci nf Cn T ty) (hj : j < nf) (hlink : Cond.fieldLink (mo μ) index (T j).1 (T j).2.1 (T j).2.2.1 ∈ tb) {pc' : Nat} (hd : DD (mc μ) pc (.getfield index) 3 pc') (hk : k < nB + i) (hC : C k = .inr (ci, fs)) (hl : fs[j]? = some v)
    (kk : Y g N0 μ d nB pcE lE iE CE zE pc' l (v :: st) i C z) : Y g N0 μ d nB pcE lE iE CE zE pc l (.ref (ga g k) :: st) i C z := by
  obtain ⟨hd, rfl⟩ := hd
  obtain ⟨c1, c2, c3, c4, c5, c6⟩ := hc
  intro p e R s m args below meth c H locs Q ls hA hP hS hL h1 h2 kE
  have ht := hA.1.2.2.2.2.1
  have hK := hA.1.2.2.2.2.2.2.2.1
  exact va_get hA.1.1 hA.1.2.1 ht c2 hA.1.2.2.2.1 hK hP k (by rw [wl_at hk, hC]) c1 j hj (ht _ hlink) (fun _ h => h) hl hd (kk p e R s m args below meth c H locs Q ls hA hP hS hL h1 h2 kE)
theorem y_iast {b n : Nat} {j v : Int32} {f : Nat → Int32} {pc' : Nat} (hd : DD (mc μ) pc (.iastore) 1 pc') (hb : b < nB + i) (hC : C b = .inl (gc g 0, n, .inl f)) (hj : ¬ (j < 0 ∨ n ≤ j.toNatClampNeg))
    (kk : Y g N0 μ d nB pcE lE iE CE zE pc' l st i (upE C b (.inl (gc g 0, n, .inl (upd f j.toNatClampNeg v)))) z) : Y g N0 μ d nB pcE lE iE CE zE pc l (.int v :: .int j :: .ref (ga g b) :: st) i C z := by
  obtain ⟨hd, rfl⟩ := hd
  intro p e R s m args below meth c H locs Q ls hA hP hS hL h1 h2 kE
  have hK := hA.1.2.2.2.2.2.2.2.1
  refine va_iast hA.1.1 hA.1.2.1 hK hP (wl_D hA.2.1) hS b 0 (by rw [wl_at hb, hC]) rfl (vp_inB hj) hd (fun H1 locs1 hP1 _ hS1 => ?_)
  rw [wl_set hb] at hP1
  exact kk p e R s m args below meth c H1 locs1 Q ls hA hP1 hS1 hL h1 h2 kE
theorem y_aast {b n q ci nf : Nat} {j : Int32} {f : Nat → Option Nat} {fs : List Value} {T : u_T} {pc' : Nat} (hd : DD (mc μ) pc (.aastore) 1 pc') (hb : b < nB + i) (hC : C b = .inl (gc g 3, n, .inr (.inr (.inr (.inr f))))) (hq : q < nB + i) (hQ : C q = .inr (ci, fs)) (hcl : vwCl[ci]? = some (RX9, T, nf)) (hj : ¬ (j < 0 ∨ n ≤ j.toNatClampNeg))
    (kk : Y g N0 μ d nB pcE lE iE CE zE pc' l st i (upE C b (.inl (gc g 3, n, .inr (.inr (.inr (.inr (va_up f j.toNatClampNeg (some (ga g q))))))))) z) : Y g N0 μ d nB pcE lE iE CE zE pc l (.ref (ga g q) :: .int j :: .ref (ga g b) :: st) i C z := by
  obtain ⟨hd, rfl⟩ := hd
  intro p e R s m args below meth c H locs Q ls hA hP hS hL h1 h2 kE
  have hK := hA.1.2.2.2.2.2.2.2.1
  refine va_astq hA.1.1 hA.1.2.1 hK hP (wl_D hA.2.1) hS b 3 q ci (r := (RX9, T, nf)) (by rw [wl_at hb, hC]) rfl (by rw [wl_at hq, hQ]) hcl (vp_inB hj) hd (fun H1 locs1 hP1 _ hS1 => ?_)
  rw [wl_set hb] at hP1
  exact kk p e R s m args below meth c H1 locs1 Q ls hA hP1 hS1 hL h1 h2 kE
/-- an array's contents are looked at within its length alone -/
theorem y_cell {b : Nat} {cA : ClassId} {a a' : vp_A} (hb : b < nB + i) (hC : C b = .inl (cA, a)) (ha : vp_cell cA a = vp_cell cA a') (kk : Y g N0 μ d nB pcE lE iE CE zE pc l st i (upE C b (.inl (cA, a'))) z) : Y g N0 μ d nB pcE lE iE CE zE pc l st i C z := by
  intro p e R s m args below meth c H locs Q ls hA hP hS hL h1 h2 kE
  refine kk p e R s m args below meth c H locs Q ls hA (fun k q hq => ?_) hS hL h1 h2 kE
  obtain ⟨hk, rfl⟩ := wl_of hq
  have h0 := hP k _ (wl_at hk)
  by_cases hkb : k = b
  · subst hkb
    rw [hC] at h0
    rw [upE_s]
    show H[ga g k]? = some (vp_cell cA a')
    rw [← ha]
    exact h0
  · rw [upE_o hkb]
    exact h0
end CONS
