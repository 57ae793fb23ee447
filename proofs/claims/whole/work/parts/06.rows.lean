section INS
variable {g : G} {μ : MI} {d : Nat} {τ : Type} {rv : τ → List Value} {rm : τ → Mem} {pc : Nat} {l st : List Value} {M : Mem} {E : Option τ}
theorem r_iconst {n : Int} {v : Int32} (hv : Int32.ofInt n = v) (hd : decode (mc μ) pc = .ok (.iconst n, 1)) (k : V g μ d rv rm (pc + 1) l (.int v :: st) M E) : V g μ d rv rm pc l st M E := by
  intro p e R s m args below meth c H locs cells slots Q ls hA hP hS hL h1 h2 r hE hr
  exact lv_iconst hA.1 hA.2.1 hd hv (k p e R s m args below meth c H locs cells slots Q ls hA hP hS hL h1 h2 r hE hr)
theorem r_bipush {n : Int} {v : Int32} (hv : (Int8.ofInt n).toInt32 = v) (hd : decode (mc μ) pc = .ok (.bipush n, 2)) (k : V g μ d rv rm (pc + 2) l (.int v :: st) M E) : V g μ d rv rm pc l st M E := by
  intro p e R s m args below meth c H locs cells slots Q ls hA hP hS hL h1 h2 r hE hr
  exact lv_bipush hA.1 hA.2.1 hd hv (k p e R s m args below meth c H locs cells slots Q ls hA hP hS hL h1 h2 r hE hr)
theorem r_sipush {n : Int} {v : Int32} (hv : (Int16.ofInt n).toInt32 = v) (hd : decode (mc μ) pc = .ok (.sipush n, 3)) (k : V g μ d rv rm (pc + 3) l (.int v :: st) M E) : V g μ d rv rm pc l st M E := by
  intro p e R s m args below meth c H locs cells slots Q ls hA hP hS hL h1 h2 r hE hr
  exact lv_sipush hA.1 hA.2.1 hd hv (k p e R s m args below meth c H locs cells slots Q ls hA hP hS hL h1 h2 r hE hr)
theorem r_ldc {i : Nat} {v : Int32} (hw : Cond.constant (mo μ) i v ∈ tb) (hd : decode (mc μ) pc = .ok (.ldc i, 2)) (k : V g μ d rv rm (pc + 2) l (.int v :: st) M E) : V g μ d rv rm pc l st M E := by
  intro p e R s m args below meth c H locs cells slots Q ls hA hP hS hL h1 h2 r hE hr
  exact lv_ldc hA.1 hA.2.1 hA.2.2.2.1 (hA.2.2.2.2.1 _ hw) hd (k p e R s m args below meth c H locs cells slots Q ls hA hP hS hL h1 h2 r hE hr)
theorem r_ldcw {i : Nat} {v : Int32} (hw : Cond.constant (mo μ) i v ∈ tb) (hd : decode (mc μ) pc = .ok (.ldc_w i, 3)) (k : V g μ d rv rm (pc + 3) l (.int v :: st) M E) : V g μ d rv rm pc l st M E := by
  intro p e R s m args below meth c H locs cells slots Q ls hA hP hS hL h1 h2 r hE hr
  exact lv_ldcw hA.1 hA.2.1 hA.2.2.2.1 (hA.2.2.2.2.1 _ hw) hd (k p e R s m args below meth c H locs cells slots Q ls hA hP hS hL h1 h2 r hE hr)
theorem r_ldc2 {i : Nat} {v : Int64} (hw : Cond.constantLong (mo μ) i v ∈ tb) (hd : decode (mc μ) pc = .ok (.ldc2_w i, 3)) (k : V g μ d rv rm (pc + 3) l (.long v :: st) M E) : V g μ d rv rm pc l st M E := by
  intro p e R s m args below meth c H locs cells slots Q ls hA hP hS hL h1 h2 r hE hr
  exact lv_ldc2 hA.1 hA.2.1 hA.2.2.2.1 (hA.2.2.2.2.1 _ hw) hd (k p e R s m args below meth c H locs cells slots Q ls hA hP hS hL h1 h2 r hE hr)
theorem r_lconst {n : Fin 2} {v : Int64} (hv : Int64.ofNat (n : Nat) = v) (hd : decode (mc μ) pc = .ok (.lconst n, 1)) (k : V g μ d rv rm (pc + 1) l (.long v :: st) M E) : V g μ d rv rm pc l st M E := by
  intro p e R s m args below meth c H locs cells slots Q ls hA hP hS hL h1 h2 r hE hr
  exact lv_lconst hA.1 hA.2.1 hd hv (k p e R s m args below meth c H locs cells slots Q ls hA hP hS hL h1 h2 r hE hr)
theorem r_iload_n {q : Fin 4} {i : Nat} {x : Int32} (hd : decode (mc μ) pc = .ok (.iload_n q, 1)) (hi : (q : Nat) = i) (hl : l[i]? = some (.int x)) (k : V g μ d rv rm (pc + 1) l (.int x :: st) M E) : V g μ d rv rm pc l st M E := by
  intro p e R s m args below meth c H locs cells slots Q ls hA hP hS hL h1 h2 r hE hr
  exact lv_iload_n hA.1 hA.2.1 hd hi (Lr_at hL hl (by intro h; cases h)) (k p e R s m args below meth c H locs cells slots Q ls hA hP hS hL h1 h2 r hE hr)
theorem r_iload {i : Nat} {x : Int32} (hd : decode (mc μ) pc = .ok (.iload i, 2)) (hl : l[i]? = some (.int x)) (k : V g μ d rv rm (pc + 2) l (.int x :: st) M E) : V g μ d rv rm pc l st M E := by
  intro p e R s m args below meth c H locs cells slots Q ls hA hP hS hL h1 h2 r hE hr
  exact lv_iload hA.1 hA.2.1 hd (Lr_at hL hl (by intro h; cases h)) (k p e R s m args below meth c H locs cells slots Q ls hA hP hS hL h1 h2 r hE hr)
theorem r_aload_n {q : Fin 4} {i : Nat} {x : Nat} (hd : decode (mc μ) pc = .ok (.aload_n q, 1)) (hi : (q : Nat) = i) (hl : l[i]? = some (.ref x)) (k : V g μ d rv rm (pc + 1) l (.ref x :: st) M E) : V g μ d rv rm pc l st M E := by
  intro p e R s m args below meth c H locs cells slots Q ls hA hP hS hL h1 h2 r hE hr
  exact lv_aload_n hA.1 hA.2.1 hd hi (Lr_at hL hl (by intro h; cases h)) (k p e R s m args below meth c H locs cells slots Q ls hA hP hS hL h1 h2 r hE hr)
theorem r_aload {i : Nat} {x : Nat} (hd : decode (mc μ) pc = .ok (.aload i, 2)) (hl : l[i]? = some (.ref x)) (k : V g μ d rv rm (pc + 2) l (.ref x :: st) M E) : V g μ d rv rm pc l st M E := by
  intro p e R s m args below meth c H locs cells slots Q ls hA hP hS hL h1 h2 r hE hr
  exact lv_aload hA.1 hA.2.1 hd (Lr_at hL hl (by intro h; cases h)) (k p e R s m args below meth c H locs cells slots Q ls hA hP hS hL h1 h2 r hE hr)
theorem r_lload_n {q : Fin 4} {i : Nat} {x : Int64} (hd : decode (mc μ) pc = .ok (.lload_n q, 1)) (hi : (q : Nat) = i) (hl : l[i]? = some (.long x)) (k : V g μ d rv rm (pc + 1) l (.long x :: st) M E) : V g μ d rv rm pc l st M E := by
  intro p e R s m args below meth c H locs cells slots Q ls hA hP hS hL h1 h2 r hE hr
  exact lv_lload_n hA.1 hA.2.1 hd hi (Lr_at hL hl (by intro h; cases h)) (k p e R s m args below meth c H locs cells slots Q ls hA hP hS hL h1 h2 r hE hr)
theorem r_lload {i : Nat} {x : Int64} (hd : decode (mc μ) pc = .ok (.lload i, 2)) (hl : l[i]? = some (.long x)) (k : V g μ d rv rm (pc + 2) l (.long x :: st) M E) : V g μ d rv rm pc l st M E := by
  intro p e R s m args below meth c H locs cells slots Q ls hA hP hS hL h1 h2 r hE hr
  exact lv_lload hA.1 hA.2.1 hd (Lr_at hL hl (by intro h; cases h)) (k p e R s m args below meth c H locs cells slots Q ls hA hP hS hL h1 h2 r hE hr)
theorem r_istore_n {q : Fin 4} {i : Nat} {x : Int32} {l' : List Value} (hd : decode (mc μ) pc = .ok (.istore_n q, 1)) (hi : (q : Nat) = i) (hn : i < ml μ) (ho : okS l i = true) (hl : l.set i (.int x) = l') (k : V g μ d rv rm (pc + 1) l' st M E) : V g μ d rv rm pc l (.int x :: st) M E := by
  intro p e R s m args below meth c H locs cells slots Q ls hA hP hS hL h1 h2 r hE hr
  exact lv_istore_n hA.1 hA.2.1 hd hi (Lr_has hL) hn rfl (fun ls' h => k p e R s m args below meth c H locs cells slots Q ls' hA hP hS (hl ▸ Lr_set ho h) h1 h2 r hE hr)
theorem r_istore {i : Nat} {x : Int32} {l' : List Value} (hd : decode (mc μ) pc = .ok (.istore i, 2)) (hn : i < ml μ) (ho : okS l i = true) (hl : l.set i (.int x) = l') (k : V g μ d rv rm (pc + 2) l' st M E) : V g μ d rv rm pc l (.int x :: st) M E := by
  intro p e R s m args below meth c H locs cells slots Q ls hA hP hS hL h1 h2 r hE hr
  exact lv_istore hA.1 hA.2.1 hd (Lr_has hL) hn rfl (fun ls' h => k p e R s m args below meth c H locs cells slots Q ls' hA hP hS (hl ▸ Lr_set ho h) h1 h2 r hE hr)
theorem r_astore_n {q : Fin 4} {i : Nat} {x : Nat} {l' : List Value} (hd : decode (mc μ) pc = .ok (.astore_n q, 1)) (hi : (q : Nat) = i) (hn : i < ml μ) (ho : okS l i = true) (hl : l.set i (.ref x) = l') (k : V g μ d rv rm (pc + 1) l' st M E) : V g μ d rv rm pc l (.ref x :: st) M E := by
  intro p e R s m args below meth c H locs cells slots Q ls hA hP hS hL h1 h2 r hE hr
  exact lv_astore_n hA.1 hA.2.1 hd hi (Lr_has hL) hn rfl (fun ls' h => k p e R s m args below meth c H locs cells slots Q ls' hA hP hS (hl ▸ Lr_set ho h) h1 h2 r hE hr)
theorem r_astore {i : Nat} {x : Nat} {l' : List Value} (hd : decode (mc μ) pc = .ok (.astore i, 2)) (hn : i < ml μ) (ho : okS l i = true) (hl : l.set i (.ref x) = l') (k : V g μ d rv rm (pc + 2) l' st M E) : V g μ d rv rm pc l (.ref x :: st) M E := by
  intro p e R s m args below meth c H locs cells slots Q ls hA hP hS hL h1 h2 r hE hr
  exact lv_astore hA.1 hA.2.1 hd (Lr_has hL) hn rfl (fun ls' h => k p e R s m args below meth c H locs cells slots Q ls' hA hP hS (hl ▸ Lr_set ho h) h1 h2 r hE hr)
theorem r_lstore_n {q : Fin 4} {i : Nat} {x : Int64} {l' : List Value} (hd : decode (mc μ) pc = .ok (.lstore_n q, 1)) (hi : (q : Nat) = i) (hn : i + 1 < ml μ) (ho : okS l i = true) (hl : (l.set i (.long x)).set (i + 1) .null = l') (k : V g μ d rv rm (pc + 1) l' st M E) : V g μ d rv rm pc l (.long x :: st) M E := by
  intro p e R s m args below meth c H locs cells slots Q ls hA hP hS hL h1 h2 r hE hr
  exact lv_lstore_n hA.1 hA.2.1 hd hi (Lr_has hL) hn rfl (fun ls' h => k p e R s m args below meth c H locs cells slots Q ls' hA hP hS (hl ▸ Lr_setl ho h) h1 h2 r hE hr)
theorem r_lstore {i : Nat} {x : Int64} {l' : List Value} (hd : decode (mc μ) pc = .ok (.lstore i, 2)) (hn : i + 1 < ml μ) (ho : okS l i = true) (hl : (l.set i (.long x)).set (i + 1) .null = l') (k : V g μ d rv rm (pc + 2) l' st M E) : V g μ d rv rm pc l (.long x :: st) M E := by
  intro p e R s m args below meth c H locs cells slots Q ls hA hP hS hL h1 h2 r hE hr
  exact lv_lstore hA.1 hA.2.1 hd (Lr_has hL) hn rfl (fun ls' h => k p e R s m args below meth c H locs cells slots Q ls' hA hP hS (hl ▸ Lr_setl ho h) h1 h2 r hE hr)
theorem r_iinc {i : Nat} {n : Int} {x v : Int32} {l' : List Value} (hd : decode (mc μ) pc = .ok (.iinc i n, 3)) (hx : l[i]? = some (.int x)) (hv : x + Int32.ofInt n = v) (hn : i < ml μ) (ho : okS l i = true) (hl : l.set i (.int v) = l') (k : V g μ d rv rm (pc + 3) l' st M E) : V g μ d rv rm pc l st M E := by
  intro p e R s m args below meth c H locs cells slots Q ls hA hP hS hL h1 h2 r hE hr
  obtain ⟨q, hq⟩ := List.getElem?_of_mem (lvl_mem hx (by intro h; cases h))
  exact lv_iinc hA.1 hA.2.1 hd (Lr_has hL) hq hv hn rfl (fun ls' h => k p e R s m args below meth c H locs cells slots Q ls' hA hP hS (hl ▸ Lr_set ho h) h1 h2 r hE hr)
theorem r_iadd {x y : Int32} (hd : decode (mc μ) pc = .ok (.iadd, 1)) (k : V g μ d rv rm (pc + 1) l (.int (x + y) :: st) M E) : V g μ d rv rm pc l (.int y :: .int x :: st) M E := by
  intro p e R s m args below meth c H locs cells slots Q ls hA hP hS hL h1 h2 r hE hr
  exact lv_iadd hA.1 hA.2.1 hd (k p e R s m args below meth c H locs cells slots Q ls hA hP hS hL h1 h2 r hE hr)
theorem r_isub {x y : Int32} (hd : decode (mc μ) pc = .ok (.isub, 1)) (k : V g μ d rv rm (pc + 1) l (.int (x - y) :: st) M E) : V g μ d rv rm pc l (.int y :: .int x :: st) M E := by
  intro p e R s m args below meth c H locs cells slots Q ls hA hP hS hL h1 h2 r hE hr
  exact lv_isub hA.1 hA.2.1 hd (k p e R s m args below meth c H locs cells slots Q ls hA hP hS hL h1 h2 r hE hr)
theorem r_imul {x y : Int32} (hd : decode (mc μ) pc = .ok (.imul, 1)) (k : V g μ d rv rm (pc + 1) l (.int (x * y) :: st) M E) : V g μ d rv rm pc l (.int y :: .int x :: st) M E := by
  intro p e R s m args below meth c H locs cells slots Q ls hA hP hS hL h1 h2 r hE hr
  exact lv_imul hA.1 hA.2.1 hd (k p e R s m args below meth c H locs cells slots Q ls hA hP hS hL h1 h2 r hE hr)
theorem r_iand {x y : Int32} (hd : decode (mc μ) pc = .ok (.iand, 1)) (k : V g μ d rv rm (pc + 1) l (.int (x &&& y) :: st) M E) : V g μ d rv rm pc l (.int y :: .int x :: st) M E := by
  intro p e R s m args below meth c H locs cells slots Q ls hA hP hS hL h1 h2 r hE hr
  exact lv_iand hA.1 hA.2.1 hd (k p e R s m args below meth c H locs cells slots Q ls hA hP hS hL h1 h2 r hE hr)
theorem r_ior {x y : Int32} (hd : decode (mc μ) pc = .ok (.ior, 1)) (k : V g μ d rv rm (pc + 1) l (.int (x ||| y) :: st) M E) : V g μ d rv rm pc l (.int y :: .int x :: st) M E := by
  intro p e R s m args below meth c H locs cells slots Q ls hA hP hS hL h1 h2 r hE hr
  exact lv_ior hA.1 hA.2.1 hd (k p e R s m args below meth c H locs cells slots Q ls hA hP hS hL h1 h2 r hE hr)
theorem r_ixor {x y : Int32} (hd : decode (mc μ) pc = .ok (.ixor, 1)) (k : V g μ d rv rm (pc + 1) l (.int (x ^^^ y) :: st) M E) : V g μ d rv rm pc l (.int y :: .int x :: st) M E := by
  intro p e R s m args below meth c H locs cells slots Q ls hA hP hS hL h1 h2 r hE hr
  exact lv_ixor hA.1 hA.2.1 hd (k p e R s m args below meth c H locs cells slots Q ls hA hP hS hL h1 h2 r hE hr)
theorem r_ishl {x y : Int32} (hd : decode (mc μ) pc = .ok (.ishl, 1)) (k : V g μ d rv rm (pc + 1) l (.int (jshl x y) :: st) M E) : V g μ d rv rm pc l (.int y :: .int x :: st) M E := by
  intro p e R s m args below meth c H locs cells slots Q ls hA hP hS hL h1 h2 r hE hr
  exact lv_ishl hA.1 hA.2.1 hd (k p e R s m args below meth c H locs cells slots Q ls hA hP hS hL h1 h2 r hE hr)
theorem r_ishr {x y : Int32} (hd : decode (mc μ) pc = .ok (.ishr, 1)) (k : V g μ d rv rm (pc + 1) l (.int (jshr x y) :: st) M E) : V g μ d rv rm pc l (.int y :: .int x :: st) M E := by
  intro p e R s m args below meth c H locs cells slots Q ls hA hP hS hL h1 h2 r hE hr
  exact lv_ishr hA.1 hA.2.1 hd (k p e R s m args below meth c H locs cells slots Q ls hA hP hS hL h1 h2 r hE hr)
theorem r_iushr {x y : Int32} (hd : decode (mc μ) pc = .ok (.iushr, 1)) (k : V g μ d rv rm (pc + 1) l (.int (jushr x y) :: st) M E) : V g μ d rv rm pc l (.int y :: .int x :: st) M E := by
  intro p e R s m args below meth c H locs cells slots Q ls hA hP hS hL h1 h2 r hE hr
  exact lv_iushr hA.1 hA.2.1 hd rfl (k p e R s m args below meth c H locs cells slots Q ls hA hP hS hL h1 h2 r hE hr)
theorem r_idiv {x y : Int32} (hd : decode (mc μ) pc = .ok (.idiv, 1)) (hne : ¬ y = 0) (k : V g μ d rv rm (pc + 1) l (.int (x / y) :: st) M E) : V g μ d rv rm pc l (.int y :: .int x :: st) M E := by
  intro p e R s m args below meth c H locs cells slots Q ls hA hP hS hL h1 h2 r hE hr
  exact lv_idiv hA.1 hA.2.1 hd hne (k p e R s m args below meth c H locs cells slots Q ls hA hP hS hL h1 h2 r hE hr)
theorem r_idivG {x y : Int32} {E1 : Option τ} (hd : decode (mc μ) pc = .ok (.idiv, 1)) (k : V g μ d rv rm (pc + 1) l (.int (x / y) :: st) M E1) : V g μ d rv rm pc l (.int y :: .int x :: st) M (if y = 0 then none else E1) := by
  by_cases h : y = 0
  · rw [if_pos h]; exact vNone
  · rw [if_neg h]; exact r_idiv hd h k
theorem r_irem {x y : Int32} (hd : decode (mc μ) pc = .ok (.irem, 1)) (hne : ¬ y = 0) (k : V g μ d rv rm (pc + 1) l (.int (jrem x y) :: st) M E) : V g μ d rv rm pc l (.int y :: .int x :: st) M E := by
  intro p e R s m args below meth c H locs cells slots Q ls hA hP hS hL h1 h2 r hE hr
  exact lv_irem hA.1 hA.2.1 hd hne (k p e R s m args below meth c H locs cells slots Q ls hA hP hS hL h1 h2 r hE hr)
theorem r_iremG {x y : Int32} {E1 : Option τ} (hd : decode (mc μ) pc = .ok (.irem, 1)) (k : V g μ d rv rm (pc + 1) l (.int (jrem x y) :: st) M E1) : V g μ d rv rm pc l (.int y :: .int x :: st) M (if y = 0 then none else E1) := by
  by_cases h : y = 0
  · rw [if_pos h]; exact vNone
  · rw [if_neg h]; exact r_irem hd h k
theorem r_ineg {x : Int32} (hd : decode (mc μ) pc = .ok (.ineg, 1)) (k : V g μ d rv rm (pc + 1) l (.int (-x) :: st) M E) : V g μ d rv rm pc l (.int x :: st) M E := by
  intro p e R s m args below meth c H locs cells slots Q ls hA hP hS hL h1 h2 r hE hr
  exact lv_ineg hA.1 hA.2.1 hd (k p e R s m args below meth c H locs cells slots Q ls hA hP hS hL h1 h2 r hE hr)
theorem r_ladd {x y : Int64} (hd : decode (mc μ) pc = .ok (.ladd, 1)) (k : V g μ d rv rm (pc + 1) l (.long (x + y) :: st) M E) : V g μ d rv rm pc l (.long y :: .long x :: st) M E := by
  intro p e R s m args below meth c H locs cells slots Q ls hA hP hS hL h1 h2 r hE hr
  exact lv_ladd hA.1 hA.2.1 hd (k p e R s m args below meth c H locs cells slots Q ls hA hP hS hL h1 h2 r hE hr)
theorem r_lsub {x y : Int64} (hd : decode (mc μ) pc = .ok (.lsub, 1)) (k : V g μ d rv rm (pc + 1) l (.long (x - y) :: st) M E) : V g μ d rv rm pc l (.long y :: .long x :: st) M E := by
  intro p e R s m args below meth c H locs cells slots Q ls hA hP hS hL h1 h2 r hE hr
  exact lv_lsub hA.1 hA.2.1 hd (k p e R s m args below meth c H locs cells slots Q ls hA hP hS hL h1 h2 r hE hr)
theorem r_land {x y : Int64} (hd : decode (mc μ) pc = .ok (.land, 1)) (k : V g μ d rv rm (pc + 1) l (.long (x &&& y) :: st) M E) : V g μ d rv rm pc l (.long y :: .long x :: st) M E := by
  intro p e R s m args below meth c H locs cells slots Q ls hA hP hS hL h1 h2 r hE hr
  exact lv_land hA.1 hA.2.1 hd (k p e R s m args below meth c H locs cells slots Q ls hA hP hS hL h1 h2 r hE hr)
theorem r_lor {x y : Int64} (hd : decode (mc μ) pc = .ok (.lor, 1)) (k : V g μ d rv rm (pc + 1) l (.long (x ||| y) :: st) M E) : V g μ d rv rm pc l (.long y :: .long x :: st) M E := by
  intro p e R s m args below meth c H locs cells slots Q ls hA hP hS hL h1 h2 r hE hr
  exact lv_lor hA.1 hA.2.1 hd (k p e R s m args below meth c H locs cells slots Q ls hA hP hS hL h1 h2 r hE hr)
theorem r_lxor {x y : Int64} (hd : decode (mc μ) pc = .ok (.lxor, 1)) (k : V g μ d rv rm (pc + 1) l (.long (x ^^^ y) :: st) M E) : V g μ d rv rm pc l (.long y :: .long x :: st) M E := by
  intro p e R s m args below meth c H locs cells slots Q ls hA hP hS hL h1 h2 r hE hr
  exact lv_lxor hA.1 hA.2.1 hd (k p e R s m args below meth c H locs cells slots Q ls hA hP hS hL h1 h2 r hE hr)
theorem r_lshl {x : Int64} {y : Int32} (hd : decode (mc μ) pc = .ok (.lshl, 1)) (k : V g μ d rv rm (pc + 1) l (.long (jlshl x y) :: st) M E) : V g μ d rv rm pc l (.int y :: .long x :: st) M E := by
  intro p e R s m args below meth c H locs cells slots Q ls hA hP hS hL h1 h2 r hE hr
  exact lv_lshl hA.1 hA.2.1 hd rfl (k p e R s m args below meth c H locs cells slots Q ls hA hP hS hL h1 h2 r hE hr)
theorem r_lushr {x : Int64} {y : Int32} (hd : decode (mc μ) pc = .ok (.lushr, 1)) (k : V g μ d rv rm (pc + 1) l (.long (jlushr x y) :: st) M E) : V g μ d rv rm pc l (.int y :: .long x :: st) M E := by
  intro p e R s m args below meth c H locs cells slots Q ls hA hP hS hL h1 h2 r hE hr
  exact lv_lushr hA.1 hA.2.1 hd rfl (k p e R s m args below meth c H locs cells slots Q ls hA hP hS hL h1 h2 r hE hr)
theorem r_l2i {x : Int64} (hd : decode (mc μ) pc = .ok (.l2i, 1)) (k : V g μ d rv rm (pc + 1) l (.int x.toInt32 :: st) M E) : V g μ d rv rm pc l (.long x :: st) M E := by
  intro p e R s m args below meth c H locs cells slots Q ls hA hP hS hL h1 h2 r hE hr
  exact lv_l2i hA.1 hA.2.1 hd rfl (k p e R s m args below meth c H locs cells slots Q ls hA hP hS hL h1 h2 r hE hr)
theorem r_i2l {x : Int32} (hd : decode (mc μ) pc = .ok (.i2l, 1)) (k : V g μ d rv rm (pc + 1) l (.long x.toInt64 :: st) M E) : V g μ d rv rm pc l (.int x :: st) M E := by
  intro p e R s m args below meth c H locs cells slots Q ls hA hP hS hL h1 h2 r hE hr
  exact lv_i2l hA.1 hA.2.1 hd rfl (k p e R s m args below meth c H locs cells slots Q ls hA hP hS hL h1 h2 r hE hr)
theorem r_i2b {x : Int32} (hd : decode (mc μ) pc = .ok (.i2b, 1)) (k : V g μ d rv rm (pc + 1) l (.int (ji2b x) :: st) M E) : V g μ d rv rm pc l (.int x :: st) M E := by
  intro p e R s m args below meth c H locs cells slots Q ls hA hP hS hL h1 h2 r hE hr
  exact lv_i2b hA.1 hA.2.1 hd rfl (k p e R s m args below meth c H locs cells slots Q ls hA hP hS hL h1 h2 r hE hr)
theorem r_i2c {x : Int32} (hd : decode (mc μ) pc = .ok (.i2c, 1)) (k : V g μ d rv rm (pc + 1) l (.int (ji2c x) :: st) M E) : V g μ d rv rm pc l (.int x :: st) M E := by
  intro p e R s m args below meth c H locs cells slots Q ls hA hP hS hL h1 h2 r hE hr
  exact lv_i2c hA.1 hA.2.1 hd rfl (k p e R s m args below meth c H locs cells slots Q ls hA hP hS hL h1 h2 r hE hr)
theorem r_dup {a : Value} (hd : decode (mc μ) pc = .ok (.dup, 1)) (ha : a.category = 1) (k : V g μ d rv rm (pc + 1) l (a :: a :: st) M E) : V g μ d rv rm pc l (a :: st) M E := by
  intro p e R s m args below meth c H locs cells slots Q ls hA hP hS hL h1 h2 r hE hr
  exact lv_dup hA.1 hA.2.1 hd ha (k p e R s m args below meth c H locs cells slots Q ls hA hP hS hL h1 h2 r hE hr)
theorem r_pop {a : Value} (hd : decode (mc μ) pc = .ok (.pop, 1)) (ha : a.category = 1) (k : V g μ d rv rm (pc + 1) l st M E) : V g μ d rv rm pc l (a :: st) M E := by
  intro p e R s m args below meth c H locs cells slots Q ls hA hP hS hL h1 h2 r hE hr
  exact lv_pop hA.1 hA.2.1 hd ha (k p e R s m args below meth c H locs cells slots Q ls hA hP hS hL h1 h2 r hE hr)
theorem r_dup_x1 {a b : Value} (hd : decode (mc μ) pc = .ok (.dup_x1, 1)) (ha : a.category = 1) (hb : b.category = 1) (k : V g μ d rv rm (pc + 1) l (a :: b :: a :: st) M E) : V g μ d rv rm pc l (a :: b :: st) M E := by
  intro p e R s m args below meth c H locs cells slots Q ls hA hP hS hL h1 h2 r hE hr
  exact lv_dup_x1 hA.1 hA.2.1 hd ha hb (k p e R s m args below meth c H locs cells slots Q ls hA hP hS hL h1 h2 r hE hr)
theorem r_dup2 {a b : Value} (hd : decode (mc μ) pc = .ok (.dup2, 1)) (ha : a.category = 1) (hb : b.category = 1) (k : V g μ d rv rm (pc + 1) l (a :: b :: a :: b :: st) M E) : V g μ d rv rm pc l (a :: b :: st) M E := by
  intro p e R s m args below meth c H locs cells slots Q ls hA hP hS hL h1 h2 r hE hr
  exact lv_dup2_11 hA.1 hA.2.1 hd ha hb (k p e R s m args below meth c H locs cells slots Q ls hA hP hS hL h1 h2 r hE hr)
theorem r_if_eq {x : Int32} {off : Int} {tgt : Nat} (hd : decode (mc μ) pc = .ok (.ifCond .eq off, 3)) (ht : (pc : Int) + off = (tgt : Int)) (kt : x = 0 → V g μ d rv rm tgt l st M E) (kf : ¬ x = 0 → V g μ d rv rm (pc + 3) l st M E) : V g μ d rv rm pc l (.int x :: st) M E := by
  intro p e R s m args below meth c H locs cells slots Q ls hA hP hS hL h1 h2 r hE hr
  exact lv_if_eq hA.1 hA.2.1 hd ht (fun h => kt h p e R s m args below meth c H locs cells slots Q ls hA hP hS hL h1 h2 r hE hr) (fun h => kf h p e R s m args below meth c H locs cells slots Q ls hA hP hS hL h1 h2 r hE hr)
theorem r_icmp_eq {x y : Int32} {off : Int} {tgt : Nat} (hd : decode (mc μ) pc = .ok (.if_icmp .eq off, 3)) (ht : (pc : Int) + off = (tgt : Int)) (kt : x = y → V g μ d rv rm tgt l st M E) (kf : ¬ x = y → V g μ d rv rm (pc + 3) l st M E) : V g μ d rv rm pc l (.int y :: .int x :: st) M E := by
  intro p e R s m args below meth c H locs cells slots Q ls hA hP hS hL h1 h2 r hE hr
  exact lv_icmp_eq hA.1 hA.2.1 hd ht (fun h => kt h p e R s m args below meth c H locs cells slots Q ls hA hP hS hL h1 h2 r hE hr) (fun h => kf h p e R s m args below meth c H locs cells slots Q ls hA hP hS hL h1 h2 r hE hr)
theorem r_if_ne {x : Int32} {off : Int} {tgt : Nat} (hd : decode (mc μ) pc = .ok (.ifCond .ne off, 3)) (ht : (pc : Int) + off = (tgt : Int)) (kt : ¬ x = 0 → V g μ d rv rm tgt l st M E) (kf : x = 0 → V g μ d rv rm (pc + 3) l st M E) : V g μ d rv rm pc l (.int x :: st) M E := by
  intro p e R s m args below meth c H locs cells slots Q ls hA hP hS hL h1 h2 r hE hr
  exact lv_if_ne hA.1 hA.2.1 hd ht (fun h => kt h p e R s m args below meth c H locs cells slots Q ls hA hP hS hL h1 h2 r hE hr) (fun h => kf h p e R s m args below meth c H locs cells slots Q ls hA hP hS hL h1 h2 r hE hr)
theorem r_icmp_ne {x y : Int32} {off : Int} {tgt : Nat} (hd : decode (mc μ) pc = .ok (.if_icmp .ne off, 3)) (ht : (pc : Int) + off = (tgt : Int)) (kt : ¬ x = y → V g μ d rv rm tgt l st M E) (kf : x = y → V g μ d rv rm (pc + 3) l st M E) : V g μ d rv rm pc l (.int y :: .int x :: st) M E := by
  intro p e R s m args below meth c H locs cells slots Q ls hA hP hS hL h1 h2 r hE hr
  exact lv_icmp_ne hA.1 hA.2.1 hd ht (fun h => kt h p e R s m args below meth c H locs cells slots Q ls hA hP hS hL h1 h2 r hE hr) (fun h => kf h p e R s m args below meth c H locs cells slots Q ls hA hP hS hL h1 h2 r hE hr)
theorem r_if_lt {x : Int32} {off : Int} {tgt : Nat} (hd : decode (mc μ) pc = .ok (.ifCond .lt off, 3)) (ht : (pc : Int) + off = (tgt : Int)) (kt : x < 0 → V g μ d rv rm tgt l st M E) (kf : ¬ x < 0 → V g μ d rv rm (pc + 3) l st M E) : V g μ d rv rm pc l (.int x :: st) M E := by
  intro p e R s m args below meth c H locs cells slots Q ls hA hP hS hL h1 h2 r hE hr
  exact lv_if_lt hA.1 hA.2.1 hd ht (fun h => kt h p e R s m args below meth c H locs cells slots Q ls hA hP hS hL h1 h2 r hE hr) (fun h => kf h p e R s m args below meth c H locs cells slots Q ls hA hP hS hL h1 h2 r hE hr)
theorem r_icmp_lt {x y : Int32} {off : Int} {tgt : Nat} (hd : decode (mc μ) pc = .ok (.if_icmp .lt off, 3)) (ht : (pc : Int) + off = (tgt : Int)) (kt : x < y → V g μ d rv rm tgt l st M E) (kf : ¬ x < y → V g μ d rv rm (pc + 3) l st M E) : V g μ d rv rm pc l (.int y :: .int x :: st) M E := by
  intro p e R s m args below meth c H locs cells slots Q ls hA hP hS hL h1 h2 r hE hr
  exact lv_icmp_lt hA.1 hA.2.1 hd ht (fun h => kt h p e R s m args below meth c H locs cells slots Q ls hA hP hS hL h1 h2 r hE hr) (fun h => kf h p e R s m args below meth c H locs cells slots Q ls hA hP hS hL h1 h2 r hE hr)
theorem r_if_ge {x : Int32} {off : Int} {tgt : Nat} (hd : decode (mc μ) pc = .ok (.ifCond .ge off, 3)) (ht : (pc : Int) + off = (tgt : Int)) (kt : 0 ≤ x → V g μ d rv rm tgt l st M E) (kf : ¬ 0 ≤ x → V g μ d rv rm (pc + 3) l st M E) : V g μ d rv rm pc l (.int x :: st) M E := by
  intro p e R s m args below meth c H locs cells slots Q ls hA hP hS hL h1 h2 r hE hr
  exact lv_if_ge hA.1 hA.2.1 hd ht (fun h => kt h p e R s m args below meth c H locs cells slots Q ls hA hP hS hL h1 h2 r hE hr) (fun h => kf h p e R s m args below meth c H locs cells slots Q ls hA hP hS hL h1 h2 r hE hr)
theorem r_icmp_ge {x y : Int32} {off : Int} {tgt : Nat} (hd : decode (mc μ) pc = .ok (.if_icmp .ge off, 3)) (ht : (pc : Int) + off = (tgt : Int)) (kt : y ≤ x → V g μ d rv rm tgt l st M E) (kf : ¬ y ≤ x → V g μ d rv rm (pc + 3) l st M E) : V g μ d rv rm pc l (.int y :: .int x :: st) M E := by
  intro p e R s m args below meth c H locs cells slots Q ls hA hP hS hL h1 h2 r hE hr
  exact lv_icmp_ge hA.1 hA.2.1 hd ht (fun h => kt h p e R s m args below meth c H locs cells slots Q ls hA hP hS hL h1 h2 r hE hr) (fun h => kf h p e R s m args below meth c H locs cells slots Q ls hA hP hS hL h1 h2 r hE hr)
theorem r_if_gt {x : Int32} {off : Int} {tgt : Nat} (hd : decode (mc μ) pc = .ok (.ifCond .gt off, 3)) (ht : (pc : Int) + off = (tgt : Int)) (kt : 0 < x → V g μ d rv rm tgt l st M E) (kf : ¬ 0 < x → V g μ d rv rm (pc + 3) l st M E) : V g μ d rv rm pc l (.int x :: st) M E := by
  intro p e R s m args below meth c H locs cells slots Q ls hA hP hS hL h1 h2 r hE hr
  exact lv_if_gt hA.1 hA.2.1 hd ht (fun h => kt h p e R s m args below meth c H locs cells slots Q ls hA hP hS hL h1 h2 r hE hr) (fun h => kf h p e R s m args below meth c H locs cells slots Q ls hA hP hS hL h1 h2 r hE hr)
theorem r_icmp_gt {x y : Int32} {off : Int} {tgt : Nat} (hd : decode (mc μ) pc = .ok (.if_icmp .gt off, 3)) (ht : (pc : Int) + off = (tgt : Int)) (kt : y < x → V g μ d rv rm tgt l st M E) (kf : ¬ y < x → V g μ d rv rm (pc + 3) l st M E) : V g μ d rv rm pc l (.int y :: .int x :: st) M E := by
  intro p e R s m args below meth c H locs cells slots Q ls hA hP hS hL h1 h2 r hE hr
  exact lv_icmp_gt hA.1 hA.2.1 hd ht (fun h => kt h p e R s m args below meth c H locs cells slots Q ls hA hP hS hL h1 h2 r hE hr) (fun h => kf h p e R s m args below meth c H locs cells slots Q ls hA hP hS hL h1 h2 r hE hr)
theorem r_if_le {x : Int32} {off : Int} {tgt : Nat} (hd : decode (mc μ) pc = .ok (.ifCond .le off, 3)) (ht : (pc : Int) + off = (tgt : Int)) (kt : x ≤ 0 → V g μ d rv rm tgt l st M E) (kf : ¬ x ≤ 0 → V g μ d rv rm (pc + 3) l st M E) : V g μ d rv rm pc l (.int x :: st) M E := by
  intro p e R s m args below meth c H locs cells slots Q ls hA hP hS hL h1 h2 r hE hr
  exact lv_if_le hA.1 hA.2.1 hd ht (fun h => kt h p e R s m args below meth c H locs cells slots Q ls hA hP hS hL h1 h2 r hE hr) (fun h => kf h p e R s m args below meth c H locs cells slots Q ls hA hP hS hL h1 h2 r hE hr)
theorem r_icmp_le {x y : Int32} {off : Int} {tgt : Nat} (hd : decode (mc μ) pc = .ok (.if_icmp .le off, 3)) (ht : (pc : Int) + off = (tgt : Int)) (kt : x ≤ y → V g μ d rv rm tgt l st M E) (kf : ¬ x ≤ y → V g μ d rv rm (pc + 3) l st M E) : V g μ d rv rm pc l (.int y :: .int x :: st) M E := by
  intro p e R s m args below meth c H locs cells slots Q ls hA hP hS hL h1 h2 r hE hr
  exact lv_icmp_le hA.1 hA.2.1 hd ht (fun h => kt h p e R s m args below meth c H locs cells slots Q ls hA hP hS hL h1 h2 r hE hr) (fun h => kf h p e R s m args below meth c H locs cells slots Q ls hA hP hS hL h1 h2 r hE hr)
theorem r_goto {off : Int} {tgt : Nat} (hd : decode (mc μ) pc = .ok (.goto off, 3)) (ht : (pc : Int) + off = (tgt : Int)) (k : V g μ d rv rm tgt l st M E) : V g μ d rv rm pc l st M E := by
  intro p e R s m args below meth c H locs cells slots Q ls hA hP hS hL h1 h2 r hE hr
  exact lv_goto hA.1 hA.2.1 hd ht (k p e R s m args below meth c H locs cells slots Q ls hA hP hS hL h1 h2 r hE hr)
theorem r_bndi {x : Int32} {F : Int32 → Option τ} (k : ∀ y : Int32, V g μ d rv rm pc l (.int y :: st) M (F y)) : V g μ d rv rm pc l (.int x :: st) M (bnd x F) := k x
theorem r_bndl {x : Int64} {F : Int64 → Option τ} (k : ∀ y : Int64, V g μ d rv rm pc l (.long y :: st) M (F y)) : V g μ d rv rm pc l (.long x :: st) M (bnd x F) := k x
theorem r_bndiT {x : Int32} {F : Int32 → τ} (k : ∀ y : Int32, V g μ d rv rm pc l (.int y :: st) M (some (F y))) : V g μ d rv rm pc l (.int x :: st) M (some (bnd x F)) := k x
theorem r_bndlT {x : Int64} {F : Int64 → τ} (k : ∀ y : Int64, V g μ d rv rm pc l (.long y :: st) M (some (F y))) : V g μ d rv rm pc l (.long x :: st) M (some (bnd x F)) := k x
end INS
