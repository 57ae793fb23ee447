/-! ===== the judgement V: at pc, with locals l, stack st and memory M the method goes on to what E says ===== -/
def Lr (ls : Array Slot) (nL : Nat) (l : List Value) : Prop := ls.size = nL ∧ lv_wf ls ∧ ∀ (i : Nat) (v : Value), l[i]? = some v → v ≠ .null → ls[i]? = some (.val v)
def riOf (vs : List Value) : Instr := match vs with
  | [] => .return_
  | .int _ :: _ => .ireturn
  | _ => .areturn
def nrw (t : Option FieldType) (vs : List Value) : Prop := match t, vs with
  | some ty, .int v :: _ => narrow ty (.int v) = .int v
  | _, _ => True
def DD (c : ByteArray) (pc : Nat) (i : Instr) (n pc' : Nat) : Prop := decode c pc = .ok (i, n) ∧ pc + n = pc'
def DB (c : ByteArray) (pc : Nat) (i : Instr) (n pc' : Nat) (off : Int) (tgt : Nat) : Prop := decode c pc = .ok (i, n) ∧ pc + n = pc' ∧ (pc : Int) + off = (tgt : Int)
def At (g : G) (μ : MI) (d : Nat) (p : Program) (R : Room) (s : State) (m : MethodId) (args : Array Value) (meth : Method) (c : Code) : Prop :=
  p.tables.exec = Jvm.exec ∧ c.code = mc μ ∧ c.maxLocals = ml μ ∧ s.vm.findClass (mo μ) = some m.cls ∧ (∀ w ∈ tb, w.before args s = true) ∧ meth.sig.returnType = mr μ ∧ meth.locks = false ∧ va_K g.1 vwCl (tysL g) s ∧ Inj g ∧ Kst g s ∧ (d ≤ R.frames ∧ 64 * d ≤ R.locals)
def V (g : G) (μ : MI) (d : Nat) {τ : Type} (rv : τ → List Value) (rm : τ → Mem) (pc : Nat) (l st : List Value) (M : Mem) (E : Option τ) : Prop :=
  ∀ (p : Program) (e : Env) (R : Room) (s : State) (m : MethodId) (args : Array Value) (below : List Frame) (meth : Method) (c : Code) (H : Heap) (locs : List Loc) (cells slots : Nat) (Q : State → Prop) (ls : Array Slot),
  At g μ d p R s m args meth c → va_P g.1 vwCl (wd g M) H → va_S (gw g) s.heap H locs → Lr ls (ml μ) l → cells ≤ R.cells → slots ≤ R.slots →
  ∀ r, E = some r → (∀ (pc' : Nat) (ls' : Array Slot) (H' : Heap) (locs' : List Loc), va_P g.1 vwCl (wd g (rm r)) H' → va_S (gw g) s.heap H' locs' → decode (mc μ) pc' = .ok (riOf (rv r), 1) → nrw (mr μ) (rv r) → W p (gl g) e R s m args below meth c H' locs' cells slots Q (F0 m pc' ls' (rv r))) →
  W p (gl g) e R s m args below meth c H locs cells slots Q (F0 m pc ls st)
/-! locals -/
theorem Lr_at {ls : Array Slot} {nL : Nat} {l : List Value} (h : Lr ls nL l) {i : Nat} {v : Value} (hi : l[i]? = some v) (hn : v ≠ .null) : ls[i]? = some (.val v) := h.2.2 i v hi hn
def lv1 (j : Nat) : Option Value → Option (Nat × Value)
  | some .null => none
  | some v => some (j, v)
  | none => none
def lvl (l : List Value) : List (Nat × Value) := (List.range l.length).filterMap (fun j => lv1 j l[j]?)
theorem lvl_mem {l : List Value} {i : Nat} {v : Value} (hi : l[i]? = some v) (hn : v ≠ .null) : (i, v) ∈ lvl l := by
  unfold lvl
  refine List.mem_filterMap.mpr ⟨i, List.mem_range.mpr (List.getElem?_eq_some_iff.mp hi).1, ?_⟩
  rw [hi]
  cases v <;> first | rfl | exact absurd rfl hn
theorem lvl_of {l : List Value} {i : Nat} {v : Value} (h : (i, v) ∈ lvl l) : l[i]? = some v ∧ v ≠ .null := by
  unfold lvl at h
  obtain ⟨j, -, hj⟩ := List.mem_filterMap.mp h
  cases hl : l[j]? with
  | none => rw [hl] at hj; cases hj
  | some w =>
    rw [hl] at hj
    cases w <;> first | (cases hj; done) | (injection hj with hj; injection hj with h1 h2; subst h1; subst h2; exact ⟨hl, by intro h; cases h⟩)
theorem Lr_has {ls : Array Slot} {nL : Nat} {l : List Value} (h : Lr ls nL l) : lv_has ls nL (lvl l) := ⟨h.1, h.2.1, fun q hq => h.2.2 q.1 q.2 (lvl_of hq).1 (lvl_of hq).2⟩
/-- the place ahead of i holds no long -/
def okS (l : List Value) (i : Nat) : Bool := match i with
  | 0 => true
  | j + 1 => (l.getD j .null).category != 2
theorem okS_spec {l : List Value} {i j : Nat} {v : Value} (h : okS l i = true) (hj : j + 1 = i) (hv : l[j]? = some v) : v.category ≠ 2 := by
  subst hj
  have h : ((l.getD j .null).category != 2) = true := h
  rw [List.getD_eq_getElem?_getD, hv] at h
  simpa using h
theorem Lr_set {ls' : Array Slot} {nL : Nat} {l : List Value} {i : Nat} {v : Value} (hp : okS l i = true) (h : lv_has ls' nL ((i, v) :: (lvl l).filter (fun q => !(q.1 == i) && !(q.1 + 1 == i && q.2.category == 2)))) : Lr ls' nL (l.set i v) := by
  refine ⟨h.1, h.2.1, fun j w hj hw => ?_⟩
  by_cases hij : j = i
  · subst hij
    rcases Nat.lt_or_ge j l.length with q | q
    · rw [List.getElem?_set_self q] at hj
      cases hj
      exact h.2.2 (j, v) List.mem_cons_self
    · rw [List.getElem?_eq_none (by rw [List.length_set]; exact q)] at hj
      cases hj
  · rw [List.getElem?_set_ne (fun h => hij h.symm)] at hj
    refine h.2.2 (j, w) (List.mem_cons_of_mem _ (List.mem_filter.mpr ⟨lvl_mem hj hw, ?_⟩))
    have h1 : (j == i) = false := by simp [hij]
    simp only [h1, Bool.not_false, Bool.true_and]
    by_cases h2 : j + 1 = i
    · have := okS_spec hp h2 hj
      simp [this]
    · simp [h2]
theorem Lr_setl {ls' : Array Slot} {nL : Nat} {l : List Value} {i : Nat} {v : Value} (hp : okS l i = true) (h : lv_has ls' nL ((i, v) :: (lvl l).filter (fun q => !(q.1 == i) && (!(q.1 == i + 1) && !(q.1 + 1 == i && q.2.category == 2))))) : Lr ls' nL ((l.set i v).set (i + 1) .null) := by
  refine ⟨h.1, h.2.1, fun j w hj hw => ?_⟩
  by_cases hi1 : j = i + 1
  · subst hi1
    rcases Nat.lt_or_ge (i + 1) (l.set i v).length with q | q
    · rw [List.getElem?_set_self q] at hj
      cases hj
      exact absurd rfl hw
    · rw [List.getElem?_eq_none (by rw [List.length_set]; exact q)] at hj
      cases hj
  · rw [List.getElem?_set_ne (fun h => hi1 h.symm)] at hj
    by_cases hij : j = i
    · subst hij
      rcases Nat.lt_or_ge j l.length with q | q
      · rw [List.getElem?_set_self q] at hj
        cases hj
        exact h.2.2 (j, v) List.mem_cons_self
      · rw [List.getElem?_eq_none (by rw [List.length_set]; exact q)] at hj
        cases hj
    · rw [List.getElem?_set_ne (fun h => hij h.symm)] at hj
      refine h.2.2 (j, w) (List.mem_cons_of_mem _ (List.mem_filter.mpr ⟨lvl_mem hj hw, ?_⟩))
      have h1 : (j == i) = false := by simp [hij]
      have h3 : (j == i + 1) = false := by simp [hi1]
      simp only [h1, h3, Bool.not_false, Bool.true_and]
      by_cases h2 : j + 1 = i
      · have := okS_spec hp h2 hj
        simp [this]
      · simp [h2]
def Sb : List Value → List Value → Prop
  | [], _ => True
  | v :: vs, w :: ws => (v = .null ∨ v = w) ∧ Sb vs ws
  | _ :: _, [] => False
theorem Sb_at : ∀ {l' l : List Value}, Sb l' l → ∀ (i : Nat) (v : Value), l'[i]? = some v → v ≠ .null → l[i]? = some v
  | [], _, _, i, v, hv, _ => by simp at hv
  | v0 :: vs, w :: ws, h, 0, v, hv, hn => by
    simp only [List.getElem?_cons_zero, Option.some.injEq] at hv ⊢
    subst hv
    rcases h.1 with q | q
    · exact absurd q hn
    · exact q.symm
  | v0 :: vs, w :: ws, h, i + 1, v, hv, hn => by
    rw [List.getElem?_cons_succ] at hv ⊢
    exact Sb_at h.2 i v hv hn
  | _ :: _, [], h, _, _, _, _ => h.elim
theorem Lr_sub {ls : Array Slot} {nL : Nat} {l l' : List Value} (h : Lr ls nL l) (hs : Sb l' l) : Lr ls nL l' := ⟨h.1, h.2.1, fun i v hv hn => h.2.2 i v (Sb_at hs i v hv hn) hn⟩
section ROWS
variable {g : G} {μ : MI} {d : Nat} {τ : Type} {rv : τ → List Value} {rm : τ → Mem} {pc : Nat} {l st : List Value} {M : Mem} {E : Option τ}
theorem vNone : V g μ d rv rm pc l st M none := by
  intro p e R s m args below meth c H locs cells slots Q ls hA hP hS hL h1 h2 r hE
  cases hE
theorem vSub {l' : List Value} (hs : Sb l' l) (k : V g μ d rv rm pc l' st M E) : V g μ d rv rm pc l st M E := by
  intro p e R s m args below meth c H locs cells slots Q ls hA hP hS hL h1 h2 r hE hr
  exact k p e R s m args below meth c H locs cells slots Q ls hA hP hS (Lr_sub hL hs) h1 h2 r hE hr
theorem vRet {r : τ} (hv : rv r = st) (hm : rm r = M) (hn : nrw (mr μ) st) {pc' : Nat} (hd : DD (mc μ) pc (riOf st) 1 pc') : V g μ d rv rm pc l st M (some r) := by
  obtain ⟨hd, -⟩ := hd
  intro p e R s m args below meth c H locs cells slots Q ls hA hP hS hL h1 h2 r' hE hr
  cases hE
  subst hv; subst hm
  exact hr pc ls H locs hP hS hd hn
/-! what E is, by the way that is gone -/
theorem eT {c : Prop} [Decidable c] {E1 E2 : Option τ} (h : c) (k : V g μ d rv rm pc l st M E1) : V g μ d rv rm pc l st M (if c then E1 else E2) := by rw [if_pos h]; exact k
theorem eF {c : Prop} [Decidable c] {E1 E2 : Option τ} (h : ¬ c) (k : V g μ d rv rm pc l st M E2) : V g μ d rv rm pc l st M (if c then E1 else E2) := by rw [if_neg h]; exact k
theorem eTT {c : Prop} [Decidable c] {e1 e2 : τ} (h : c) (k : V g μ d rv rm pc l st M (some e1)) : V g μ d rv rm pc l st M (some (if c then e1 else e2)) := by rw [if_pos h]; exact k
theorem eFT {c : Prop} [Decidable c] {e1 e2 : τ} (h : ¬ c) (k : V g μ d rv rm pc l st M (some e2)) : V g μ d rv rm pc l st M (some (if c then e1 else e2)) := by rw [if_neg h]; exact k
theorem eB {σ : Type} {O : Option σ} {x : σ} {F : σ → Option τ} (h : O = some x) (k : V g μ d rv rm pc l st M (F x)) : V g μ d rv rm pc l st M (O.bind F) := by rw [h]; exact k
end ROWS
def bnd {α β : Type} (e : α) (f : α → β) : β := f e
def jn {α β : Type} (e : α) (f : α → β) : β := f e
def jrem (x y : Int32) : Int32 := x - x / y * y
def jshl (x y : Int32) : Int32 := x <<< (y &&& 31)
def jshr (x y : Int32) : Int32 := x >>> (y &&& 31)
def jushr (x y : Int32) : Int32 := (x.toUInt32 >>> (y.toUInt32 &&& Int32.toUInt32 31)).toInt32
def jlshl (x : Int64) (y : Int32) : Int64 := x <<< (y.toInt64 &&& 63)
def jlushr (x : Int64) (y : Int32) : Int64 := (x.toUInt64 >>> (y.toInt64.toUInt64 &&& Int64.toUInt64 63)).toInt64
def ji2b (x : Int32) : Int32 := x.toInt8.toInt32
def ji2c (x : Int32) : Int32 := (x.toUInt32 % 65536).toInt32
def jmax (x y : Int32) : Int32 := if x < y then y else x
def jmin (x y : Int32) : Int32 := if y < x then y else x
