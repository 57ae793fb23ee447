section INS
variable {g : G} {μ : MI} {d : Nat} {τ : Type} {rv : τ → List Value} {rm : τ → Mem} {pc : Nat} {l st : List Value} {M : Mem} {E : Option τ}
theorem r_iconst {n : Int} {v : Int32} (hv : Int32.ofInt n = v) {pc' : Nat} (hd : DD (mc μ) pc (.iconst n) 1 pc') (k : V g μ d rv rm pc' l (.int v :: st) M E) : V g μ d rv rm pc l st M E := by
  obtain ⟨hd, rfl⟩ := hd
  intro p e R s m args below meth c H locs cells slots Q ls hA hP hS hL h1 h2 r hE hr
  exact lv_iconst hA.1 hA.2.1 hd hv (k p e R s m args below meth c H locs cells slots Q ls hA hP hS hL h1 h2 r hE hr)
theorem r_bipush {n : Int} {v : Int32} (hv : (Int8.ofInt n).toInt32 = v) {pc' : Nat} (hd : DD (mc μ) pc (.bipush n) 2 pc') (k : V g μ d rv rm pc' l (.int v :: st) M E) : V g μ d rv rm pc l st M E := by
  obtain ⟨hd, rfl⟩ := hd
  intro p e R s m args below meth c H locs cells slots Q ls hA hP hS hL h1 h2 r hE hr
  exact lv_bipush hA.1 hA.2.1 hd hv (k p e R s m args below meth c H locs cells slots Q ls hA hP hS hL h1 h2 r hE hr)
theorem r_sipush {n : Int} {v : Int32} (hv : (Int16.ofInt n).toInt32 = v) {pc' : Nat} (hd : DD (mc μ) pc (.sipush n) 3 pc') (k : V g μ d rv rm pc' l (.int v :: st) M E) : V g μ d rv rm pc l st M E := by
  obtain ⟨hd, rfl⟩ := hd
  intro p e R s m args below meth c H locs cells slots Q ls hA hP hS hL h1 h2 r hE hr
  exact lv_sipush hA.1 hA.2.1 hd hv (k p e R s m args below meth c H locs cells slots Q ls hA hP hS hL h1 h2 r hE hr)
theorem r_ldc {i : Nat} {v : Int32} (hw : Cond.constant (mo μ) i v ∈ tb) {pc' : Nat} (hd : DD (mc μ) pc (.ldc i) 2 pc') (k : V g μ d rv rm pc' l (.int v :: st) M E) : V g μ d rv rm pc l st M E := by
  obtain ⟨hd, rfl⟩ := hd
  intro p e R s m args below meth c H locs cells slots Q ls hA hP hS hL h1 h2 r hE hr
  exact lv_ldc hA.1 hA.2.1 hA.2.2.2.1 (hA.2.2.2.2.1 _ hw) hd (k p e R s m args below meth c H locs cells slots Q ls hA hP hS hL h1 h2 r hE hr)
theorem r_ldcw {i : Nat} {v : Int32} (hw : Cond.constant (mo μ) i v ∈ tb) {pc' : Nat} (hd : DD (mc μ) pc (.ldc_w i) 3 pc') (k : V g μ d rv rm pc' l (.int v :: st) M E) : V g μ d rv rm pc l st M E := by
  obtain ⟨hd, rfl⟩ := hd
  intro p e R s m args below meth c H locs cells slots Q ls hA hP hS hL h1 h2 r hE hr
  exact lv_ldcw hA.1 hA.2.1 hA.2.2.2.1 (hA.2.2.2.2.1 _ hw) hd (k p e R s m args below meth c H locs cells slots Q ls hA hP hS hL h1 h2 r hE hr)
theorem r_ldc2 {i : Nat} {v : Int64} (hw : Cond.constantLong (mo μ) i v ∈ tb) {pc' : Nat} (hd : DD (mc μ) pc (.ldc2_w i) 3 pc') (k : V g μ d rv rm pc' l (.long v :: st) M E) : V g μ d rv rm pc l st M E := by
  obtain ⟨hd, rfl⟩ := hd
  intro p e R s m args below meth c H locs cells slots Q ls hA hP hS hL h1 h2 r hE hr
  exact lv_ldc2 hA.1 hA.2.1 hA.2.2.2.1 (hA.2.2.2.2.1 _ hw) hd (k p e R s m args below meth c H locs cells slots Q ls hA hP hS hL h1 h2 r hE hr)
theorem r_lconst {n : Fin 2} {v : Int64} (hv : Int64.ofNat (n : Nat) = v) {pc' : Nat} (hd : DD (mc μ) pc (.lconst n) 1 pc') (k : V g μ d rv rm pc' l (.long v :: st) M E) : V g μ d rv rm pc l st M E := by
  obtain ⟨hd, rfl⟩ := hd
  intro p e R s m args below meth c H locs cells slots Q ls hA hP hS hL h1 h2 r hE hr
  exact lv_lconst hA.1 hA.2.1 hd hv (k p e R s m args below meth c H locs cells slots Q ls hA hP hS hL h1 h2 r hE hr)
theorem r_iload_n {q : Fin 4} {i : Nat} {x : Int32} {pc' : Nat} (hd : DD (mc μ) pc (.iload_n q) 1 pc') (hi : (q : Nat) = i) (hl : l[i]? = some (.int x)) (k : V g μ d rv rm pc' l (.int x :: st) M E) : V g μ d rv rm pc l st M E := by
  obtain ⟨hd, rfl⟩ := hd
  intro p e R s m args below meth c H locs cells slots Q ls hA hP hS hL h1 h2 r hE hr
  exact lv_iload_n hA.1 hA.2.1 hd hi (Lr_at hL hl (by intro h; cases h)) (k p e R s m args below meth c H locs cells slots Q ls hA hP hS hL h1 h2 r hE hr)
theorem r_iload {i : Nat} {x : Int32} {pc' : Nat} (hd : DD (mc μ) pc (.iload i) 2 pc') (hl : l[i]? = some (.int x)) (k : V g μ d rv rm pc' l (.int x :: st) M E) : V g μ d rv rm pc l st M E := by
  obtain ⟨hd, rfl⟩ := hd
  intro p e R s m args below meth c H locs cells slots Q ls hA hP hS hL h1 h2 r hE hr
  exact lv_iload hA.1 hA.2.1 hd (Lr_at hL hl (by intro h; cases h)) (k p e R s m args below meth c H locs cells slots Q ls hA hP hS hL h1 h2 r hE hr)
theorem r_aload_n {q : Fin 4} {i : Nat} {x : Nat} {pc' : Nat} (hd : DD (mc μ) pc (.aload_n q) 1 pc') (hi : (q : Nat) = i) (hl : l[i]? = some (.ref x)) (k : V g μ d rv rm pc' l (.ref x :: st) M E) : V g μ d rv rm pc l st M E := by
  obtain ⟨hd, rfl⟩ := hd
  intro p e R s m args below meth c H locs cells slots Q ls hA hP hS hL h1 h2 r hE hr
  exact lv_aload_n hA.1 hA.2.1 hd hi (Lr_at hL hl (by intro h; cases h)) (k p e R s m args below meth c H locs cells slots Q ls hA hP hS hL h1 h2 r hE hr)
theorem r_aload {i : Nat} {x : Nat} {pc' : Nat} (hd : DD (mc μ) pc (.aload i) 2 pc') (hl : l[i]? = some (.ref x)) (k : V g μ d rv rm pc' l (.ref x :: st) M E) : V g μ d rv rm pc l st M E := by
  obtain ⟨hd, rfl⟩ := hd
  intro p e R s m args below meth c H locs cells slots Q ls hA hP hS hL h1 h2 r hE hr
  exact lv_aload hA.1 hA.2.1 hd (Lr_at hL hl (by intro h; cases h)) (k p e R s m args below meth c H locs cells slots Q ls hA hP hS hL h1 h2 r hE hr)
theorem r_lload_n {q : Fin 4} {i : Nat} {x : Int64} {pc' : Nat} (hd : DD (mc μ) pc (.lload_n q) 1 pc') (hi : (q : Nat) = i) (hl : l[i]? = some (.long x)) (k : V g μ d rv rm pc' l (.long x :: st) M E) : V g μ d rv rm pc l st M E := by
  obtain ⟨hd, rfl⟩ := hd
  intro p e R s m args below meth c H locs cells slots Q ls hA hP hS hL h1 h2 r hE hr
  exact lv_lload_n hA.1 hA.2.1 hd hi (Lr_at hL hl (by intro h; cases h)) (k p e R s m args below meth c H locs cells slots Q ls hA hP hS hL h1 h2 r hE hr)
theorem r_lload {i : Nat} {x : Int64} {pc' : Nat} (hd : DD (mc μ) pc (.lload i) 2 pc') (hl : l[i]? = some (.long x)) (k : V g μ d rv rm pc' l (.long x :: st) M E) : V g μ d rv rm pc l st M E := by
  obtain ⟨hd, rfl⟩ := hd
  intro p e R s m args below meth c H locs cells slots Q ls hA hP hS hL h1 h2 r hE hr
  exact lv_lload hA.1 hA.2.1 hd (Lr_at hL hl (by intro h; cases h)) (k p e R s m args below meth c H locs cells slots Q ls hA hP hS hL h1 h2 r hE hr)
theorem r_istore_n {q : Fin 4} {i : Nat} {x : Int32} {l' : List Value} {pc' : Nat} (hd : DD (mc μ) pc (.istore_n q) 1 pc') (hi : (q : Nat) = i) (hn : i < ml μ) (ho : okS l i = true) (hl : l.set i (.int x) = l') (k : V g μ d rv rm pc' l' st M E) : V g μ d rv rm pc l (.int x :: st) M E := by
  obtain ⟨hd, rfl⟩ := hd
  intro p e R s m args below meth c H locs cells slots Q ls hA hP hS hL h1 h2 r hE hr
  exact lv_istore_n hA.1 hA.2.1 hd hi (Lr_has hL) hn rfl (fun ls' h => k p e R s m args below meth c H locs cells slots Q ls' hA hP hS (hl ▸ Lr_set ho h) h1 h2 r hE hr)
theorem r_istore {i : Nat} {x : Int32} {l' : List Value} {pc' : Nat} (hd : DD (mc μ) pc (.istore i) 2 pc') (hn : i < ml μ) (ho : okS l i = true) (hl : l.set i (.int x) = l') (k : V g μ d rv rm pc' l' st M E) : V g μ d rv rm pc l (.int x :: st) M E := by
  obtain ⟨hd, rfl⟩ := hd
  intro p e R s m args below meth c H locs cells slots Q ls hA hP hS hL h1 h2 r hE hr
  exact lv_istore hA.1 hA.2.1 hd (Lr_has hL) hn rfl (fun ls' h => k p e R s m args below meth c H locs cells slots Q ls' hA hP hS (hl ▸ Lr_set ho h) h1 h2 r hE hr)
theorem r_astore_n {q : Fin 4} {i : Nat} {x : Nat} {l' : List Value} {pc' : Nat} (hd : DD (mc μ) pc (.astore_n q) 1 pc') (hi : (q : Nat) = i) (hn : i < ml μ) (ho : okS l i = true) (hl : l.set i (.ref x) = l') (k : V g μ d rv rm pc' l' st M E) : V g μ d rv rm pc l (.ref x :: st) M E := by
  obtain ⟨hd, rfl⟩ := hd
  intro p e R s m args below meth c H locs cells slots Q ls hA hP hS hL h1 h2 r hE hr
  exact lv_astore_n hA.1 hA.2.1 hd hi (Lr_has hL) hn rfl (fun ls' h => k p e R s m args below meth c H locs cells slots Q ls' hA hP hS (hl ▸ Lr_set ho h) h1 h2 r hE hr)
theorem r_astore {i : Nat} {x : Nat} {l' : List Value} {pc' : Nat} (hd : DD (mc μ) pc (.astore i) 2 pc') (hn : i < ml μ) (ho : okS l i = true) (hl : l.set i (.ref x) = l') (k : V g μ d rv rm pc' l' st M E) : V g μ d rv rm pc l (.ref x :: st) M E := by
  obtain ⟨hd, rfl⟩ := hd
  intro p e R s m args below meth c H locs cells slots Q ls hA hP hS hL h1 h2 r hE hr
  exact lv_astore hA.1 hA.2.1 hd (Lr_has hL) hn rfl (fun ls' h => k p e R s m args below meth c H locs cells slots Q ls' hA hP hS (hl ▸ Lr_set ho h) h1 h2 r hE hr)
theorem r_lstore_n {q : Fin 4} {i : Nat} {x : Int64} {l' : List Value} {pc' : Nat} (hd : DD (mc μ) pc (.lstore_n q) 1 pc') (hi : (q : Nat) = i) (hn : i + 1 < ml μ) (ho : okS l i = true) (hl : (l.set i (.long x)).set (i + 1) .null = l') (k : V g μ d rv rm pc' l' st M E) : V g μ d rv rm pc l (.long x :: st) M E := by
  obtain ⟨hd, rfl⟩ := hd
  intro p e R s m args below meth c H locs cells slots Q ls hA hP hS hL h1 h2 r hE hr
  exact lv_lstore_n hA.1 hA.2.1 hd hi (Lr_has hL) hn rfl (fun ls' h => k p e R s m args below meth c H locs cells slots Q ls' hA hP hS (hl ▸ Lr_setl ho h) h1 h2 r hE hr)
theorem r_lstore {i : Nat} {x : Int64} {l' : List Value} {pc' : Nat} (hd : DD (mc μ) pc (.lstore i) 2 pc') (hn : i + 1 < ml μ) (ho : okS l i = true) (hl : (l.set i (.long x)).set (i + 1) .null = l') (k : V g μ d rv rm pc' l' st M E) : V g μ d rv rm pc l (.long x :: st) M E := by
  obtain ⟨hd, rfl⟩ := hd
  intro p e R s m args below meth c H locs cells slots Q ls hA hP hS hL h1 h2 r hE hr
  exact lv_lstore hA.1 hA.2.1 hd (Lr_has hL) hn rfl (fun ls' h => k p e R s m args below meth c H locs cells slots Q ls' hA hP hS (hl ▸ Lr_setl ho h) h1 h2 r hE hr)
theorem r_iinc {i : Nat} {n : Int} {x v : Int32} {l' : List Value} {pc' : Nat} (hd : DD (mc μ) pc (.iinc i n) 3 pc') (hx : l[i]? = some (.int x)) (hv : x + Int32.ofInt n = v) (hn : i < ml μ) (ho : okS l i = true) (hl : l.set i (.int v) = l') (k : V g μ d rv rm pc' l' st M E) : V g μ d rv rm pc l st M E := by
  obtain ⟨hd, rfl⟩ := hd
  intro p e R s m args below meth c H locs cells slots Q ls hA hP hS hL h1 h2 r hE hr
  obtain ⟨q, hq⟩ := List.getElem?_of_mem (lvl_mem hx (by intro h; cases h))
  exact lv_iinc hA.1 hA.2.1 hd (Lr_has hL) hq hv hn rfl (fun ls' h => k p e R s m args below meth c H locs cells slots Q ls' hA hP hS (hl ▸ Lr_set ho h) h1 h2 r hE hr)
theorem r_iadd {x y : Int32} {pc' : Nat} (hd : DD (mc μ) pc (.iadd) 1 pc') (k : V g μ d rv rm pc' l (.int (x + y) :: st) M E) : V g μ d rv rm pc l (.int y :: .int x :: st) M E := by
  obtain ⟨hd, rfl⟩ := hd
  intro p e R s m args below meth c H locs cells slots Q ls hA hP hS hL h1 h2 r hE hr
  exact lv_iadd hA.1 hA.2.1 hd (k p e R s m args below meth c H locs cells slots Q ls hA hP hS hL h1 h2 r hE hr)
theorem r_isub {x y : Int32} {pc' : Nat} (hd : DD (mc μ) pc (.isub) 1 pc') (k : V g μ d rv rm pc' l (.int (x - y) :: st) M E) : V g μ d rv rm pc l (.int y :: .int x :: st) M E := by
  obtain ⟨hd, rfl⟩ := hd
  intro p e R s m args below meth c H locs cells slots Q ls hA hP hS hL h1 h2 r hE hr
  exact lv_isub hA.1 hA.2.1 hd (k p e R s m args below meth c H locs cells slots Q ls hA hP hS hL h1 h2 r hE hr)
theorem r_imul {x y : Int32} {pc' : Nat} (hd : DD (mc μ) pc (.imul) 1 pc') (k : V g μ d rv rm pc' l (.int (x * y) :: st) M E) : V g μ d rv rm pc l (.int y :: .int x :: st) M E := by
  obtain ⟨hd, rfl⟩ := hd
  intro p e R s m args below meth c H locs cells slots Q ls hA hP hS hL h1 h2 r hE hr
  exact lv_imul hA.1 hA.2.1 hd (k p e R s m args below meth c H locs cells slots Q ls hA hP hS hL h1 h2 r hE hr)
theorem r_iand {x y : Int32} {pc' : Nat} (hd : DD (mc μ) pc (.iand) 1 pc') (k : V g μ d rv rm pc' l (.int (x &&& y) :: st) M E) : V g μ d rv rm pc l (.int y :: .int x :: st) M E := by
  obtain ⟨hd, rfl⟩ := hd
  intro p e R s m args below meth c H locs cells slots Q ls hA hP hS hL h1 h2 r hE hr
  exact lv_iand hA.1 hA.2.1 hd (k p e R s m args below meth c H locs cells slots Q ls hA hP hS hL h1 h2 r hE hr)
theorem r_ior {x y : Int32} {pc' : Nat} (hd : DD (mc μ) pc (.ior) 1 pc') (k : V g μ d rv rm pc' l (.int (x ||| y) :: st) M E) : V g μ d rv rm pc l (.int y :: .int x :: st) M E := by
  obtain ⟨hd, rfl⟩ := hd
  intro p e R s m args below meth c H locs cells slots Q ls hA hP hS hL h1 h2 r hE hr
  exact lv_ior hA.1 hA.2.1 hd (k p e R s m args below meth c H locs cells slots Q ls hA hP hS hL h1 h2 r hE hr)
theorem r_ixor {x y : Int32} {pc' : Nat} (hd : DD (mc μ) pc (.ixor) 1 pc') (k : V g μ d rv rm pc' l (.int (x ^^^ y) :: st) M E) : V g μ d rv rm pc l (.int y :: .int x :: st) M E := by
  obtain ⟨hd, rfl⟩ := hd
  intro p e R s m args below meth c H locs cells slots Q ls hA hP hS hL h1 h2 r hE hr
  exact lv_ixor hA.1 hA.2.1 hd (k p e R s m args below meth c H locs cells slots Q ls hA hP hS hL h1 h2 r hE hr)
theorem r_ishl {x y : Int32} {pc' : Nat} (hd : DD (mc μ) pc (.ishl) 1 pc') (k : V g μ d rv rm pc' l (.int (jshl x y) :: st) M E) : V g μ d rv rm pc l (.int y :: .int x :: st) M E := by
  obtain ⟨hd, rfl⟩ := hd
  intro p e R s m args below meth c H locs cells slots Q ls hA hP hS hL h1 h2 r hE hr
  exact lv_ishl hA.1 hA.2.1 hd (k p e R s m args below meth c H locs cells slots Q ls hA hP hS hL h1 h2 r hE hr)
theorem r_ishr {x y : Int32} {pc' : Nat} (hd : DD (mc μ) pc (.ishr) 1 pc') (k : V g μ d rv rm pc' l (.int (jshr x y) :: st) M E) : V g μ d rv rm pc l (.int y :: .int x :: st) M E := by
  obtain ⟨hd, rfl⟩ := hd
  intro p e R s m args below meth c H locs cells slots Q ls hA hP hS hL h1 h2 r hE hr
  exact lv_ishr hA.1 hA.2.1 hd (k p e R s m args below meth c H locs cells slots Q ls hA hP hS hL h1 h2 r hE hr)
theorem r_iushr {x y : Int32} {pc' : Nat} (hd : DD (mc μ) pc (.iushr) 1 pc') (k : V g μ d rv rm pc' l (.int (jushr x y) :: st) M E) : V g μ d rv rm pc l (.int y :: .int x :: st) M E := by
  obtain ⟨hd, rfl⟩ := hd
  intro p e R s m args below meth c H locs cells slots Q ls hA hP hS hL h1 h2 r hE hr
  exact lv_iushr hA.1 hA.2.1 hd rfl (k p e R s m args below meth c H locs cells slots Q ls hA hP hS hL h1 h2 r hE hr)
theorem r_idiv {x y : Int32} {pc' : Nat} (hd : DD (mc μ) pc (.idiv) 1 pc') (hne : ¬ y = 0) (k : V g μ d rv rm pc' l (.int (x / y) :: st) M E) : V g μ d rv rm pc l (.int y :: .int x :: st) M E := by
  obtain ⟨hd, rfl⟩ := hd
  intro p e R s m args below meth c H locs cells slots Q ls hA hP hS hL h1 h2 r hE hr
  exact lv_idiv hA.1 hA.2.1 hd hne (k p e R s m args below meth c H locs cells slots Q ls hA hP hS hL h1 h2 r hE hr)
theorem r_idivG {x y : Int32} {E1 : Option τ} {pc' : Nat} (hd : DD (mc μ) pc (.idiv) 1 pc') (k : V g μ d rv rm pc' l (.int (x / y) :: st) M E1) : V g μ d rv rm pc l (.int y :: .int x :: st) M (if y = 0 then none else E1) := by
  by_cases h : y = 0
  · rw [if_pos h]; exact vNone
  · rw [if_neg h]; exact r_idiv hd h k
theorem r_irem {x y : Int32} {pc' : Nat} (hd : DD (mc μ) pc (.irem) 1 pc') (hne : ¬ y = 0) (k : V g μ d rv rm pc' l (.int (jrem x y) :: st) M E) : V g μ d rv rm pc l (.int y :: .int x :: st) M E := by
  obtain ⟨hd, rfl⟩ := hd
  intro p e R s m args below meth c H locs cells slots Q ls hA hP hS hL h1 h2 r hE hr
  exact lv_irem hA.1 hA.2.1 hd hne (k p e R s m args below meth c H locs cells slots Q ls hA hP hS hL h1 h2 r hE hr)
theorem r_iremG {x y : Int32} {E1 : Option τ} {pc' : Nat} (hd : DD (mc μ) pc (.irem) 1 pc') (k : V g μ d rv rm pc' l (.int (jrem x y) :: st) M E1) : V g μ d rv rm pc l (.int y :: .int x :: st) M (if y = 0 then none else E1) := by
  by_cases h : y = 0
  · rw [if_pos h]; exact vNone
  · rw [if_neg h]; exact r_irem hd h k
theorem r_ineg {x : Int32} {pc' : Nat} (hd : DD (mc μ) pc (.ineg) 1 pc') (k : V g μ d rv rm pc' l (.int (-x) :: st) M E) : V g μ d rv rm pc l (.int x :: st) M E := by
  obtain ⟨hd, rfl⟩ := hd
  intro p e R s m args below meth c H locs cells slots Q ls hA hP hS hL h1 h2 r hE hr
  exact lv_ineg hA.1 hA.2.1 hd (k p e R s m args below meth c H locs cells slots Q ls hA hP hS hL h1 h2 r hE hr)
theorem r_ladd {x y : Int64} {pc' : Nat} (hd : DD (mc μ) pc (.ladd) 1 pc') (k : V g μ d rv rm pc' l (.long (x + y) :: st) M E) : V g μ d rv rm pc l (.long y :: .long x :: st) M E := by
  obtain ⟨hd, rfl⟩ := hd
  intro p e R s m args below meth c H locs cells slots Q ls hA hP hS hL h1 h2 r hE hr
  exact lv_ladd hA.1 hA.2.1 hd (k p e R s m args below meth c H locs cells slots Q ls hA hP hS hL h1 h2 r hE hr)
theorem r_lsub {x y : Int64} {pc' : Nat} (hd : DD (mc μ) pc (.lsub) 1 pc') (k : V g μ d rv rm pc' l (.long (x - y) :: st) M E) : V g μ d rv rm pc l (.long y :: .long x :: st) M E := by
  obtain ⟨hd, rfl⟩ := hd
  intro p e R s m args below meth c H locs cells slots Q ls hA hP hS hL h1 h2 r hE hr
  exact lv_lsub hA.1 hA.2.1 hd (k p e R s m args below meth c H locs cells slots Q ls hA hP hS hL h1 h2 r hE hr)
theorem r_land {x y : Int64} {pc' : Nat} (hd : DD (mc μ) pc (.land) 1 pc') (k : V g μ d rv rm pc' l (.long (x &&& y) :: st) M E) : V g μ d rv rm pc l (.long y :: .long x :: st) M E := by
  obtain ⟨hd, rfl⟩ := hd
  intro p e R s m args below meth c H locs cells slots Q ls hA hP hS hL h1 h2 r hE hr
  exact lv_land hA.1 hA.2.1 hd (k p e R s m args below meth c H locs cells slots Q ls hA hP hS hL h1 h2 r hE hr)
theorem r_lor {x y : Int64} {pc' : Nat} (hd : DD (mc μ) pc (.lor) 1 pc') (k : V g μ d rv rm pc' l (.long (x ||| y) :: st) M E) : V g μ d rv rm pc l (.long y :: .long x :: st) M E := by
  obtain ⟨hd, rfl⟩ := hd
  intro p e R s m args below meth c H locs cells slots Q ls hA hP hS hL h1 h2 r hE hr
  exact lv_lor hA.1 hA.2.1 hd (k p e R s m args below meth c H locs cells slots Q ls hA hP hS hL h1 h2 r hE hr)
theorem r_lxor {x y : Int64} {pc' : Nat} (hd : DD (mc μ) pc (.lxor) 1 pc') (k : V g μ d rv rm pc' l (.long (x ^^^ y) :: st) M E) : V g μ d rv rm pc l (.long y :: .long x :: st) M E := by
  obtain ⟨hd, rfl⟩ := hd
  intro p e R s m args below meth c H locs cells slots Q ls hA hP hS hL h1 h2 r hE hr
  exact lv_lxor hA.1 hA.2.1 hd (k p e R s m args below meth c H locs cells slots Q ls hA hP hS hL h1 h2 r hE hr)
theorem r_lshl {x : Int64} {y : Int32} {pc' : Nat} (hd : DD (mc μ) pc (.lshl) 1 pc') (k : V g μ d rv rm pc' l (.long (jlshl x y) :: st) M E) : V g μ d rv rm pc l (.int y :: .long x :: st) M E := by
  obtain ⟨hd, rfl⟩ := hd
  intro p e R s m args below meth c H locs cells slots Q ls hA hP hS hL h1 h2 r hE hr
  exact lv_lshl hA.1 hA.2.1 hd rfl (k p e R s m args below meth c H locs cells slots Q ls hA hP hS hL h1 h2 r hE hr)
theorem r_lushr {x : Int64} {y : Int32} {pc' : Nat} (hd : DD (mc μ) pc (.lushr) 1 pc') (k : V g μ d rv rm pc' l (.long (jlushr x y) :: st) M E) : V g μ d rv rm pc l (.int y :: .long x :: st) M E := by
  obtain ⟨hd, rfl⟩ := hd
  intro p e R s m args below meth c H locs cells slots Q ls hA hP hS hL h1 h2 r hE hr
  exact lv_lushr hA.1 hA.2.1 hd rfl (k p e R s m args below meth c H locs cells slots Q ls hA hP hS hL h1 h2 r hE hr)
theorem r_l2i {x : Int64} {pc' : Nat} (hd : DD (mc μ) pc (.l2i) 1 pc') (k : V g μ d rv rm pc' l (.int x.toInt32 :: st) M E) : V g μ d rv rm pc l (.long x :: st) M E := by
  obtain ⟨hd, rfl⟩ := hd
  intro p e R s m args below meth c H locs cells slots Q ls hA hP hS hL h1 h2 r hE hr
  exact lv_l2i hA.1 hA.2.1 hd rfl (k p e R s m args below meth c H locs cells slots Q ls hA hP hS hL h1 h2 r hE hr)
theorem r_i2l {x : Int32} {pc' : Nat} (hd : DD (mc μ) pc (.i2l) 1 pc') (k : V g μ d rv rm pc' l (.long x.toInt64 :: st) M E) : V g μ d rv rm pc l (.int x :: st) M E := by
  obtain ⟨hd, rfl⟩ := hd
  intro p e R s m args below meth c H locs cells slots Q ls hA hP hS hL h1 h2 r hE hr
  exact lv_i2l hA.1 hA.2.1 hd rfl (k p e R s m args below meth c H locs cells slots Q ls hA hP hS hL h1 h2 r hE hr)
theorem r_i2b {x : Int32} {pc' : Nat} (hd : DD (mc μ) pc (.i2b) 1 pc') (k : V g μ d rv rm pc' l (.int (ji2b x) :: st) M E) : V g μ d rv rm pc l (.int x :: st) M E := by
  obtain ⟨hd, rfl⟩ := hd
  intro p e R s m args below meth c H locs cells slots Q ls hA hP hS hL h1 h2 r hE hr
  exact lv_i2b hA.1 hA.2.1 hd rfl (k p e R s m args below meth c H locs cells slots Q ls hA hP hS hL h1 h2 r hE hr)
theorem r_i2c {x : Int32} {pc' : Nat} (hd : DD (mc μ) pc (.i2c) 1 pc') (k : V g μ d rv rm pc' l (.int (ji2c x) :: st) M E) : V g μ d rv rm pc l (.int x :: st) M E := by
  obtain ⟨hd, rfl⟩ := hd
  intro p e R s m args below meth c H locs cells slots Q ls hA hP hS hL h1 h2 r hE hr
  exact lv_i2c hA.1 hA.2.1 hd rfl (k p e R s m args below meth c H locs cells slots Q ls hA hP hS hL h1 h2 r hE hr)
theorem r_dup {a : Value} {pc' : Nat} (hd : DD (mc μ) pc (.dup) 1 pc') (ha : a.category = 1) (k : V g μ d rv rm pc' l (a :: a :: st) M E) : V g μ d rv rm pc l (a :: st) M E := by
  obtain ⟨hd, rfl⟩ := hd
  intro p e R s m args below meth c H locs cells slots Q ls hA hP hS hL h1 h2 r hE hr
  exact lv_dup hA.1 hA.2.1 hd ha (k p e R s m args below meth c H locs cells slots Q ls hA hP hS hL h1 h2 r hE hr)
theorem r_pop {a : Value} {pc' : Nat} (hd : DD (mc μ) pc (.pop) 1 pc') (ha : a.category = 1) (k : V g μ d rv rm pc' l st M E) : V g μ d rv rm pc l (a :: st) M E := by
  obtain ⟨hd, rfl⟩ := hd
  intro p e R s m args below meth c H locs cells slots Q ls hA hP hS hL h1 h2 r hE hr
  exact lv_pop hA.1 hA.2.1 hd ha (k p e R s m args below meth c H locs cells slots Q ls hA hP hS hL h1 h2 r hE hr)
theorem r_dup_x1 {a b : Value} {pc' : Nat} (hd : DD (mc μ) pc (.dup_x1) 1 pc') (ha : a.category = 1) (hb : b.category = 1) (k : V g μ d rv rm pc' l (a :: b :: a :: st) M E) : V g μ d rv rm pc l (a :: b :: st) M E := by
  obtain ⟨hd, rfl⟩ := hd
  intro p e R s m args below meth c H locs cells slots Q ls hA hP hS hL h1 h2 r hE hr
  exact lv_dup_x1 hA.1 hA.2.1 hd ha hb (k p e R s m args below meth c H locs cells slots Q ls hA hP hS hL h1 h2 r hE hr)
theorem r_dup2 {a b : Value} {pc' : Nat} (hd : DD (mc μ) pc (.dup2) 1 pc') (ha : a.category = 1) (hb : b.category = 1) (k : V g μ d rv rm pc' l (a :: b :: a :: b :: st) M E) : V g μ d rv rm pc l (a :: b :: st) M E := by
  obtain ⟨hd, rfl⟩ := hd
  intro p e R s m args below meth c H locs cells slots Q ls hA hP hS hL h1 h2 r hE hr
  exact lv_dup2_11 hA.1 hA.2.1 hd ha hb (k p e R s m args below meth c H locs cells slots Q ls hA hP hS hL h1 h2 r hE hr)
theorem r_if_eq {x : Int32} {off : Int} {tgt : Nat} {pc' : Nat} (hd : DB (mc μ) pc (.ifCond .eq off) 3 pc' off tgt) (kt : x = 0 → V g μ d rv rm tgt l st M E) (kf : ¬ x = 0 → V g μ d rv rm pc' l st M E) : V g μ d rv rm pc l (.int x :: st) M E := by
  obtain ⟨hd, rfl, ht⟩ := hd
  intro p e R s m args below meth c H locs cells slots Q ls hA hP hS hL h1 h2 r hE hr
  exact lv_if_eq hA.1 hA.2.1 hd ht (fun h => kt h p e R s m args below meth c H locs cells slots Q ls hA hP hS hL h1 h2 r hE hr) (fun h => kf h p e R s m args below meth c H locs cells slots Q ls hA hP hS hL h1 h2 r hE hr)
theorem r_icmp_eq {x y : Int32} {off : Int} {tgt : Nat} {pc' : Nat} (hd : DB (mc μ) pc (.if_icmp .eq off) 3 pc' off tgt) (kt : x = y → V g μ d rv rm tgt l st M E) (kf : ¬ x = y → V g μ d rv rm pc' l st M E) : V g μ d rv rm pc l (.int y :: .int x :: st) M E := by
  obtain ⟨hd, rfl, ht⟩ := hd
  intro p e R s m args below meth c H locs cells slots Q ls hA hP hS hL h1 h2 r hE hr
  exact lv_icmp_eq hA.1 hA.2.1 hd ht (fun h => kt h p e R s m args below meth c H locs cells slots Q ls hA hP hS hL h1 h2 r hE hr) (fun h => kf h p e R s m args below meth c H locs cells slots Q ls hA hP hS hL h1 h2 r hE hr)
theorem r_if_ne {x : Int32} {off : Int} {tgt : Nat} {pc' : Nat} (hd : DB (mc μ) pc (.ifCond .ne off) 3 pc' off tgt) (kt : ¬ x = 0 → V g μ d rv rm tgt l st M E) (kf : x = 0 → V g μ d rv rm pc' l st M E) : V g μ d rv rm pc l (.int x :: st) M E := by
  obtain ⟨hd, rfl, ht⟩ := hd
  intro p e R s m args below meth c H locs cells slots Q ls hA hP hS hL h1 h2 r hE hr
  exact lv_if_ne hA.1 hA.2.1 hd ht (fun h => kt h p e R s m args below meth c H locs cells slots Q ls hA hP hS hL h1 h2 r hE hr) (fun h => kf h p e R s m args below meth c H locs cells slots Q ls hA hP hS hL h1 h2 r hE hr)
theorem r_icmp_ne {x y : Int32} {off : Int} {tgt : Nat} {pc' : Nat} (hd : DB (mc μ) pc (.if_icmp .ne off) 3 pc' off tgt) (kt : ¬ x = y → V g μ d rv rm tgt l st M E) (kf : x = y → V g μ d rv rm pc' l st M E) : V g μ d rv rm pc l (.int y :: .int x :: st) M E := by
  obtain ⟨hd, rfl, ht⟩ := hd
  intro p e R s m args below meth c H locs cells slots Q ls hA hP hS hL h1 h2 r hE hr
  exact lv_icmp_ne hA.1 hA.2.1 hd ht (fun h => kt h p e R s m args below meth c H locs cells slots Q ls hA hP hS hL h1 h2 r hE hr) (fun h => kf h p e R s m args below meth c H locs cells slots Q ls hA hP hS hL h1 h2 r hE hr)
theorem r_if_lt {x : Int32} {off : Int} {tgt : Nat} {pc' : Nat} (hd : DB (mc μ) pc (.ifCond .lt off) 3 pc' off tgt) (kt : x < 0 → V g μ d rv rm tgt l st M E) (kf : ¬ x < 0 → V g μ d rv rm pc' l st M E) : V g μ d rv rm pc l (.int x :: st) M E := by
  obtain ⟨hd, rfl, ht⟩ := hd
  intro p e R s m args below meth c H locs cells slots Q ls hA hP hS hL h1 h2 r hE hr
  exact lv_if_lt hA.1 hA.2.1 hd ht (fun h => kt h p e R s m args below meth c H locs cells slots Q ls hA hP hS hL h1 h2 r hE hr) (fun h => kf h p e R s m args below meth c H locs cells slots Q ls hA hP hS hL h1 h2 r hE hr)
theorem r_icmp_lt {x y : Int32} {off : Int} {tgt : Nat} {pc' : Nat} (hd : DB (mc μ) pc (.if_icmp .lt off) 3 pc' off tgt) (kt : x < y → V g μ d rv rm tgt l st M E) (kf : ¬ x < y → V g μ d rv rm pc' l st M E) : V g μ d rv rm pc l (.int y :: .int x :: st) M E := by
  obtain ⟨hd, rfl, ht⟩ := hd
  intro p e R s m args below meth c H locs cells slots Q ls hA hP hS hL h1 h2 r hE hr
  exact lv_icmp_lt hA.1 hA.2.1 hd ht (fun h => kt h p e R s m args below meth c H locs cells slots Q ls hA hP hS hL h1 h2 r hE hr) (fun h => kf h p e R s m args below meth c H locs cells slots Q ls hA hP hS hL h1 h2 r hE hr)
theorem r_if_ge {x : Int32} {off : Int} {tgt : Nat} {pc' : Nat} (hd : DB (mc μ) pc (.ifCond .ge off) 3 pc' off tgt) (kt : 0 ≤ x → V g μ d rv rm tgt l st M E) (kf : ¬ 0 ≤ x → V g μ d rv rm pc' l st M E) : V g μ d rv rm pc l (.int x :: st) M E := by
  obtain ⟨hd, rfl, ht⟩ := hd
  intro p e R s m args below meth c H locs cells slots Q ls hA hP hS hL h1 h2 r hE hr
  exact lv_if_ge hA.1 hA.2.1 hd ht (fun h => kt h p e R s m args below meth c H locs cells slots Q ls hA hP hS hL h1 h2 r hE hr) (fun h => kf h p e R s m args below meth c H locs cells slots Q ls hA hP hS hL h1 h2 r hE hr)
theorem r_icmp_ge {x y : Int32} {off : Int} {tgt : Nat} {pc' : Nat} (hd : DB (mc μ) pc (.if_icmp .ge off) 3 pc' off tgt) (kt : y ≤ x → V g μ d rv rm tgt l st M E) (kf : ¬ y ≤ x → V g μ d rv rm pc' l st M E) : V g μ d rv rm pc l (.int y :: .int x :: st) M E := by
  obtain ⟨hd, rfl, ht⟩ := hd
  intro p e R s m args below meth c H locs cells slots Q ls hA hP hS hL h1 h2 r hE hr
  exact lv_icmp_ge hA.1 hA.2.1 hd ht (fun h => kt h p e R s m args below meth c H locs cells slots Q ls hA hP hS hL h1 h2 r hE hr) (fun h => kf h p e R s m args below meth c H locs cells slots Q ls hA hP hS hL h1 h2 r hE hr)
theorem r_if_gt {x : Int32} {off : Int} {tgt : Nat} {pc' : Nat} (hd : DB (mc μ) pc (.ifCond .gt off) 3 pc' off tgt) (kt : 0 < x → V g μ d rv rm tgt l st M E) (kf : ¬ 0 < x → V g μ d rv rm pc' l st M E) : V g μ d rv rm pc l (.int x :: st) M E := by
  obtain ⟨hd, rfl, ht⟩ := hd
  intro p e R s m args below meth c H locs cells slots Q ls hA hP hS hL h1 h2 r hE hr
  exact lv_if_gt hA.1 hA.2.1 hd ht (fun h => kt h p e R s m args below meth c H locs cells slots Q ls hA hP hS hL h1 h2 r hE hr) (fun h => kf h p e R s m args below meth c H locs cells slots Q ls hA hP hS hL h1 h2 r hE hr)
theorem r_icmp_gt {x y : Int32} {off : Int} {tgt : Nat} {pc' : Nat} (hd : DB (mc μ) pc (.if_icmp .gt off) 3 pc' off tgt) (kt : y < x → V g μ d rv rm tgt l st M E) (kf : ¬ y < x → V g μ d rv rm pc' l st M E) : V g μ d rv rm pc l (.int y :: .int x :: st) M E := by
  obtain ⟨hd, rfl, ht⟩ := hd
  intro p e R s m args below meth c H locs cells slots Q ls hA hP hS hL h1 h2 r hE hr
  exact lv_icmp_gt hA.1 hA.2.1 hd ht (fun h => kt h p e R s m args below meth c H locs cells slots Q ls hA hP hS hL h1 h2 r hE hr) (fun h => kf h p e R s m args below meth c H locs cells slots Q ls hA hP hS hL h1 h2 r hE hr)
theorem r_if_le {x : Int32} {off : Int} {tgt : Nat} {pc' : Nat} (hd : DB (mc μ) pc (.ifCond .le off) 3 pc' off tgt) (kt : x ≤ 0 → V g μ d rv rm tgt l st M E) (kf : ¬ x ≤ 0 → V g μ d rv rm pc' l st M E) : V g μ d rv rm pc l (.int x :: st) M E := by
  obtain ⟨hd, rfl, ht⟩ := hd
  intro p e R s m args below meth c H locs cells slots Q ls hA hP hS hL h1 h2 r hE hr
  exact lv_if_le hA.1 hA.2.1 hd ht (fun h => kt h p e R s m args below meth c H locs cells slots Q ls hA hP hS hL h1 h2 r hE hr) (fun h => kf h p e R s m args below meth c H locs cells slots Q ls hA hP hS hL h1 h2 r hE hr)
theorem r_icmp_le {x y : Int32} {off : Int} {tgt : Nat} {pc' : Nat} (hd : DB (mc μ) pc (.if_icmp .le off) 3 pc' off tgt) (kt : x ≤ y → V g μ d rv rm tgt l st M E) (kf : ¬ x ≤ y → V g μ d rv rm pc' l st M E) : V g μ d rv rm pc l (.int y :: .int x :: st) M E := by
  obtain ⟨hd, rfl, ht⟩ := hd
  intro p e R s m args below meth c H locs cells slots Q ls hA hP hS hL h1 h2 r hE hr
  exact lv_icmp_le hA.1 hA.2.1 hd ht (fun h => kt h p e R s m args below meth c H locs cells slots Q ls hA hP hS hL h1 h2 r hE hr) (fun h => kf h p e R s m args below meth c H locs cells slots Q ls hA hP hS hL h1 h2 r hE hr)
theorem r_goto {off : Int} {tgt : Nat} {pc' : Nat} (hd : DB (mc μ) pc (.goto off) 3 pc' off tgt) (k : V g μ d rv rm tgt l st M E) : V g μ d rv rm pc l st M E := by
  obtain ⟨hd, rfl, ht⟩ := hd
  intro p e R s m args below meth c H locs cells slots Q ls hA hP hS hL h1 h2 r hE hr
  exact lv_goto hA.1 hA.2.1 hd ht (k p e R s m args below meth c H locs cells slots Q ls hA hP hS hL h1 h2 r hE hr)
theorem r_bndi {x : Int32} {F : Int32 → Option τ} (k : ∀ y : Int32, V g μ d rv rm pc l (.int y :: st) M (F y)) : V g μ d rv rm pc l (.int x :: st) M (bnd x F) := k x
theorem r_bndl {x : Int64} {F : Int64 → Option τ} (k : ∀ y : Int64, V g μ d rv rm pc l (.long y :: st) M (F y)) : V g μ d rv rm pc l (.long x :: st) M (bnd x F) := k x
theorem r_bndiT {x : Int32} {F : Int32 → τ} (k : ∀ y : Int32, V g μ d rv rm pc l (.int y :: st) M (some (F y))) : V g μ d rv rm pc l (.int x :: st) M (some (bnd x F)) := k x
theorem r_bndlT {x : Int64} {F : Int64 → τ} (k : ∀ y : Int64, V g μ d rv rm pc l (.long y :: st) M (some (F y))) : V g μ d rv rm pc l (.long x :: st) M (some (bnd x F)) := k x
end INS
