/-! ===== contracts and calls ===== -/
def ws (μ : MI) : List Cond := Cond.code (my μ) (mc μ) (ml μ) (mr μ) :: tb
def rmx (n : Nat) : Room := { frames := n, cells := 0, slots := 0, locals := 64 * n }
def Pre (g : G) (av : List Value) (M : Mem) : Array Value → State → Prop := va_Pc av (fun U => va_P g.1 vwCl (wd g M) U.heap ∧ va_K g.1 vwCl (tysL g) U ∧ Inj g ∧ Kst g U)
def CtrI (g : G) (μ : MI) (n : Nat) {σ : Type} (x : σ → Int32) (rm : σ → Mem) (av : List Value) (M : Mem) (E : Option σ) : Prop := ∀ r, E = some r → Met (gl g) (my μ) (ws μ) (rmx n) (Pre g av M) (va_Qi (fun (y : Int32) (u : Mem) => y = x r ∧ u = rm r) (fun u t => va_P g.1 vwCl (wd g u) t.heap) (gw g)) 0 0 (gw g)
def CtrV (g : G) (μ : MI) (n : Nat) {σ : Type} (rm : σ → Mem) (av : List Value) (M : Mem) (E : Option σ) : Prop := ∀ r, E = some r → Met (gl g) (my μ) (ws μ) (rmx n) (Pre g av M) (va_Qv (fun (u : Mem) => u = rm r) (fun u t => va_P g.1 vwCl (wd g u) t.heap) (gw g)) 0 0 (gw g)
def CtrR (g : G) (μ : MI) (n : Nat) {σ : Type} (x : σ → Nat) (rm : σ → Mem) (av : List Value) (M : Mem) (E : Option σ) : Prop := ∀ r, E = some r → Met (gl g) (my μ) (ws μ) (rmx n) (Pre g av M) (va_Qr (fun (u : Mem) => u = rm r) (fun u a t => a = ga g (x r) ∧ va_P g.1 vwCl (wd g u) t.heap) (gw g)) 0 0 (gw g)
/-- what is the same of a method wherever it is called: its code's word, its class -/
def MOK (μ : MI) : Prop := plainName (my μ).cls = true ∧ (my μ).cls = mo μ ∧ Cond.code (my μ) (mc μ) (ml μ) (mr μ) ∈ tb ∧ Cond.initialized (my μ).cls ∈ tb ∧ ((my μ).cls ≠ "java/lang/invoke/MethodHandle" ∧ (my μ).cls ≠ "java/lang/invoke/VarHandle") ∧ ml μ ≤ 40
def entL (av : List Value) (n : Nat) : List Value := (lg_sl av).map (fun x => match x with
  | .val v => v
  | _ => .null) ++ List.replicate (n - (lg_sl av).length) .null
theorem entL_ok (av : List Value) {n : Nat} (h : (lg_sl av).length ≤ n) : Lr ((lg_sl av ++ List.replicate (n - (lg_sl av).length) Slot.unset).toArray) n (entL av n) := by
  have h0 := lv_entry av h
  refine ⟨h0.1, h0.2.1, fun i v hi hn => ?_⟩
  unfold entL at hi
  rw [List.getElem?_toArray]
  rcases Nat.lt_or_ge i (lg_sl av).length with q | q
  · rw [List.getElem?_append_left (by simpa using q), List.getElem?_map] at hi
    rw [List.getElem?_append_left q]
    cases hs : (lg_sl av)[i]? with
    | none => rw [hs] at hi; cases hi
    | some w =>
      rw [hs] at hi
      cases w with
      | val v' => simp at hi; rw [hi]
      | second => simp at hi; exact absurd hi.symm hn
      | unset => simp at hi; exact absurd hi.symm hn
  · rw [List.getElem?_append_right (by simpa using q)] at hi
    have := List.mem_of_getElem? hi
    rw [List.eq_of_mem_replicate this] at hn
    exact absurd rfl hn
theorem Pre_blind (g : G) (av : List Value) (M : Mem) : FrameBlind (Pre g av M) := by
  intro a U f mk h
  obtain ⟨h1, h2, h3, h4, h5⟩ := h
  exact ⟨h1, h2, va_K.moved (u := U) (U := U.calling f mk a) (Vm.Alike.refl U.vm) h3, h4, Kst_calling h5⟩
section CTR
variable {g : G} {μ : MI} {n : Nat} {σ : Type} {x : σ → Int32} {xr : σ → Nat} {rm : σ → Mem} {av : List Value} {M : Mem} {E : Option σ}
theorem entry_W {rv : σ → List Value} (hm : MOK μ) (hl : (lg_sl av).length ≤ ml μ) {l : List Value} (he : entL av (ml μ) = l) (hV : V g μ n rv rm 0 l [] M E) {Qc : Array Value → State → Outcome → State → Prop} {r : σ} (hE : E = some r)
    (hq : ∀ {p : Program} {e : Env} {s : State} {m : MethodId} {args : Array Value} {below : List Frame} {meth : Method} {c : Code} {H : Heap} {locs : List Loc} {pc : Nat} {ls : Array Slot}, p.tables.exec = Jvm.exec → c.code = mc μ → meth.sig.returnType = mr μ → meth.locks = false → va_P g.1 vwCl (wd g (rm r)) H → va_S (gw g) s.heap H locs → decode (mc μ) pc = .ok (riOf (rv r), 1) → nrw (mr μ) (rv r) → W p (gl g) e (headSpec (ws μ) (rmx n)).room s m args below meth c H locs 0 0 (MQ below Qc args s 0 0 (gw g)) (F0 m pc ls (rv r))) :
    Met (gl g) (my μ) (ws μ) (rmx n) (Pre g av M) Qc 0 0 (gw g) := by
  refine Met.ofW (cc := mc μ) (maxL := ml μ) (ret := mr μ) hm.1 rfl ?_
  intro p e s m args below meth c s₁ B hml hv
  obtain ⟨rfl, hP, hK, hI, hKs⟩ := hv
  have hts := atoms_spec (ws := ws μ) B.pre
  have hown : s.vm.findClass (mo μ) = some m.cls := hm.2.1 ▸ findClass_of_methodNamed B.named
  rw [lg_entry_eq]
  have hA : At g μ n p (headSpec (ws μ) (rmx n)).room s m av.toArray meth c := ⟨B.exec, B.bytes, hml, hown, fun w hw => hts w (List.mem_cons_of_mem _ hw), B.returns, B.notSynchronized, hK, hI, hKs, ⟨Nat.le_refl _, Nat.le_refl _⟩⟩
  refine hV p e _ s m _ below meth c s.heap [] 0 0 _ _ hA hP va_S.rf (he ▸ entL_ok av hl) (Nat.le_refl _) (Nat.le_refl _) r hE (fun pc' ls' H' locs' hP' hS' hd hn => ?_)
  exact hq B.exec B.bytes B.returns B.notSynchronized hP' hS' hd hn
theorem CtrI.of (hm : MOK μ) {ty : FieldType} (hr : mr μ = some ty) (hl : (lg_sl av).length ≤ ml μ) {l : List Value} (he : entL av (ml μ) = l) (hV : V g μ n (fun r => [.int (x r)]) rm 0 l [] M E) : CtrI g μ n x rm av M E := by
  intro r hE
  refine entry_W hm hl he hV hE (fun hx hb hret hlk hP' hS' hd hn => ?_)
  rw [hr] at hret hn
  exact W.zret hx hb hret hn (fun t ht _ => ⟨⟨_, _, rfl, ⟨rfl, rfl⟩, by dsimp only; rw [ht]; exact hP'⟩, hS'.F ht⟩) hS'.2.2 hd hlk
theorem CtrV.of (hm : MOK μ) (hr : mr μ = none) (hl : (lg_sl av).length ≤ ml μ) {l : List Value} (he : entL av (ml μ) = l) (hV : V g μ n (fun _ => []) rm 0 l [] M E) : CtrV g μ n rm av M E := by
  intro r hE
  refine entry_W hm hl he hV hE (fun hx hb hret hlk hP' hS' hd hn => ?_)
  rw [hr] at hret
  exact W.vret hx hb hret (fun t ht _ => ⟨⟨_, rfl, rfl, by dsimp only; rw [ht]; exact hP'⟩, hS'.F ht⟩) hS'.2.2 hd hlk
theorem CtrR.of (hm : MOK μ) {C : String} (hr : mr μ = some (.object C)) (hl : (lg_sl av).length ≤ ml μ) {l : List Value} (he : entL av (ml μ) = l) (hV : V g μ n (fun r => [.ref (ga g (xr r))]) rm 0 l [] M E) : CtrR g μ n xr rm av M E := by
  intro r hE
  refine entry_W hm hl he hV hE (fun hx hb hret hlk hP' hS' hd hn => ?_)
  rw [hr] at hret
  exact W.aret hx hb hret (Or.inl ⟨_, rfl⟩) (Or.inr ⟨_, rfl⟩) (fun t ht _ => ⟨⟨_, _, rfl, rfl, rfl, by rw [ht]; exact hP'⟩, hS'.F ht⟩) hS'.2.2 hd hlk
end CTR
/-- a call at pc of method ν with the arguments av (the stack st, rest behind it): whatever contract ν keeps, it is kept here -/
def Call (g : G) (μ : MI) (d pc pc' : Nat) (ν : MI) (n : Nat) (av st rest : List Value) (M : Mem) : Prop := pc + 3 = pc' ∧
  ∀ (p : Program) (e : Env) (R : Room) (s : State) (m : MethodId) (args : Array Value) (below : List Frame) (meth : Method) (c : Code) (H : Heap) (locs : List Loc) (cells slots : Nat) (ls : Array Slot) (Qc : Array Value → State → Outcome → State → Prop),
  At g μ d p R s m args meth c → va_P g.1 vwCl (wd g M) H → va_S (gw g) s.heap H locs → ls.size = ml μ → cells ≤ R.cells → slots ≤ R.slots → Met (gl g) (my ν) (ws ν) (rmx n) (Pre g av M) Qc 0 0 (gw g) →
  va_Run p (gl g) e R s m args below meth c H locs cells slots 0 0 (F0 m pc ls st) rest (Qc av.toArray) (gw g)
section CALLS
variable {g : G} {μ ν : MI} {d n pc : Nat} {M : Mem}
theorem room_ok {R : Room} (hd : d ≤ R.frames ∧ 64 * d ≤ R.locals) (hn : n < d) (hl : ml ν ≤ 40) : (rmx n).frames + 1 ≤ R.frames ∧ 8 + (ml ν + 11) + (rmx n).locals ≤ R.locals := by
  refine ⟨Nat.le_trans hn hd.1, Nat.le_trans ?_ hd.2⟩
  show 8 + (ml ν + 11) + 64 * n ≤ 64 * d
  omega
theorem pre_ok {U : State} {s : State} {H : Heap} {locs : List Loc} {p : Program} {R : Room} {m : MethodId} {args : Array Value} {meth : Method} {c : Code} {av : List Value} (hA : At g μ d p R s m args meth c) (hP : va_P g.1 vwCl (wd g M) H) (hS : va_S (gw g) s.heap H locs) (hU : U.heap = H) (hW : s.WarmedH U.vm) : Pre g av M av.toArray U :=
  ⟨rfl, by rw [hU]; exact hP, va_K.moved hW.alike hA.2.2.2.2.2.2.2.1, hA.2.2.2.2.2.2.2.2.1, Kst_go hA.2.2.2.2.2.2.2.2.2.1 hW hS hU⟩
theorem GoodIn_ws (hm : MOK ν) : GoodIn tb (ws ν) := fun w hw => by
  rcases List.mem_cons.mp hw with rfl | h
  · exact tb_good _ hm.2.2.1
  · exact tb_good _ h
/-- on an object of the world -/
theorem call_V {index k ci nf na : Nat} {C : String} {T : u_T} {As rest : List Value} (hn : n < d) (hm : MOK ν) {pc' : Nat} (hd : DD (mc μ) pc (.invokevirtual index) 3 pc') (hlink : Cond.methodLink (mo μ) index (my ν) ∈ tb) (hinst : Cond.instanceMethod (my ν) ∈ tb) (hsel : Cond.selects C (my ν) (my ν) ∈ tb) (hC : C = mo ν) (hpar : (parseMethodDescriptor (my ν).desc).map (fun d => d.parameters.length) = some na) (hla : As.length = na) (hk : kd k = (ci, nf)) (hci : ci < 20) (hcl : vwCl[ci]? = some (C, T, nf)) (hrest : (rest.map fun v => v.category).sum ≤ 8) {st : List Value} (hst : st = As.reverse ++ .ref (ga g k) :: rest) :
    Call g μ d pc pc' ν n (.ref (ga g k) :: As) st rest M := by
  obtain ⟨hd, hp⟩ := hd
  refine ⟨hp, ?_⟩
  intro p e R s m args below meth c H locs cells slots ls Qc hA hP hS hls h1 h2 hM
  have ht := hA.2.2.2.2.1
  have cw : CallW R s args (mo μ) C index (my ν) (mc ν) (ml ν) (mr ν) (ws ν) (rmx n) 0 0 na := ⟨callB_of na ht (GoodIn_ws hm) rfl rfl rfl (ht _ hm.2.2.2.1) (ht _ hlink) ⟨hm.2.2.2.2.1.1, hm.2.2.2.2.1.2, hpar⟩ (room_ok hA.2.2.2.2.2.2.2.2.2.2 hn hm.2.2.2.2.2), ht _ hinst, ht _ hsel⟩
  exact va_runV ⟨hA.1, hA.2.1, hA.2.2.1, hA.2.2.2.1, ht⟩ hM cw ⟨Pre_blind _ _ _, va_recv hA.2.2.2.2.2.2.2.1 hP hcl (q0 := k) (by rw [wd_at g M (kd_lt hk (by omega)), ent_obj g M hk hci]), fun U hU hW => pre_ok hA hP hS hU hW⟩ rfl hla hls hst (lv_room hrest) hd ⟨h1, h2⟩
theorem call_S {index na : Nat} {As rest : List Value} (hn : n < d) (hm : MOK ν) {pc' : Nat} (hd : DD (mc μ) pc (.invokestatic index) 3 pc') (hlink : Cond.methodLink (mo μ) index (my ν) ∈ tb) (hstat : Cond.static (my ν) ∈ tb) (hpar : (parseMethodDescriptor (my ν).desc).map (fun d => d.parameters.length) = some na) (hla : As.length = na) (hrest : (rest.map fun v => v.category).sum ≤ 8) {st : List Value} (hst : st = As.reverse ++ rest) :
    Call g μ d pc pc' ν n As st rest M := by
  obtain ⟨hd, hp⟩ := hd
  refine ⟨hp, ?_⟩
  intro p e R s m args below meth c H locs cells slots ls Qc hA hP hS hls h1 h2 hM
  have ht := hA.2.2.2.2.1
  exact va_runS ⟨hA.1, hA.2.1, hA.2.2.1, hA.2.2.2.1, ht⟩ hM ⟨callB_of na ht (GoodIn_ws hm) rfl rfl rfl (ht _ hm.2.2.2.1) (ht _ hlink) ⟨hm.2.2.2.2.1.1, hm.2.2.2.2.1.2, hpar⟩ (room_ok hA.2.2.2.2.2.2.2.2.2.2 hn hm.2.2.2.2.2), ht _ hstat⟩ ⟨Pre_blind _ _ _, fun U hU hW => pre_ok hA hP hS hU hW⟩ rfl hla hls hst (lv_room hrest) hd ⟨h1, h2⟩
theorem call_SN {index na : Nat} {host : String} {As rest : List Value} (hn : n < d) (hm : MOK ν) {pc' : Nat} (hd : DD (mc μ) pc (.invokestatic index) 3 pc') (hlink : (mo μ, index, my ν, host) ∈ nestL) (hstat : Cond.static (my ν) ∈ tb) (hpar : (parseMethodDescriptor (my ν).desc).map (fun d => d.parameters.length) = some na) (hla : As.length = na) (hrest : (rest.map fun v => v.category).sum ≤ 8) {st : List Value} (hst : st = As.reverse ++ rest) :
    Call g μ d pc pc' ν n As st rest M := by
  obtain ⟨hd, hp⟩ := hd
  refine ⟨hp, ?_⟩
  intro p e R s m args below meth c H locs cells slots ls Qc hA hP hS hls h1 h2 hM
  have ht := hA.2.2.2.2.1
  exact va_runSN ⟨hA.1, hA.2.1, hA.2.2.1, hA.2.2.2.1, ht⟩ hM ⟨va_cnB na ht (GoodIn_ws hm) rfl rfl rfl (hA.2.2.2.2.2.2.2.2.2.1.1 _ hlink) (ht _ hm.2.2.2.1) ⟨hm.2.2.2.2.1.1, hm.2.2.2.2.1.2, hpar⟩ (room_ok hA.2.2.2.2.2.2.2.2.2.2 hn hm.2.2.2.2.2), ht _ hstat, trivial⟩ ⟨Pre_blind _ _ _, fun U hU hW => pre_ok hA hP hS hU hW⟩ rfl hla hls hst (lv_room hrest) hd ⟨h1, h2⟩
variable {τ : Type} {rv : τ → List Value} {rm : τ → Mem} {l st rest av : List Value} {E : Option τ} {σ : Type} {x : σ → Int32} {xr : σ → Nat} {rm1 : σ → Mem} {E1 : Option σ} {F : σ → Option τ}
theorem r_calli {pc' : Nat} (hc : Call g μ d pc pc' ν n av st rest M) (h : CtrI g ν n x rm1 av M E1) (kk : ∀ r, E1 = some r → V g μ d rv rm pc' l (.int (x r) :: rest) (rm1 r) (F r)) : V g μ d rv rm pc l st M (E1.bind F) := by
  obtain ⟨rfl, hc⟩ := hc
  cases hE1 : E1 with
  | none => exact vNone
  | some r1 =>
    subst hE1
    intro p e R s m args below meth c H locs cells slots Q ls hA hP hS hL h1 h2 r hE hr
    refine va_calli (hc p e R s m args below meth c H locs cells slots ls _ hA hP hS hL.1 h1 h2 (h r1 rfl)) hS (fun _ _ h => h) (fun _ h => h) (fun y u t H1 locs1 ht hvm hpost hB hz hk hS1 => ?_)
    obtain ⟨e1, e2⟩ := hpost
    subst e1; subst e2
    rw [ht] at hB
    exact kk r1 rfl p e R s m args below meth c H1 locs1 cells slots Q ls hA hB hS1 hL h1 h2 r hE hr
theorem r_callv {pc' : Nat} (hc : Call g μ d pc pc' ν n av st rest M) (h : CtrV g ν n rm1 av M E1) (kk : ∀ r, E1 = some r → V g μ d rv rm pc' l rest (rm1 r) (F r)) : V g μ d rv rm pc l st M (E1.bind F) := by
  obtain ⟨rfl, hc⟩ := hc
  cases hE1 : E1 with
  | none => exact vNone
  | some r1 =>
    subst hE1
    intro p e R s m args below meth c H locs cells slots Q ls hA hP hS hL h1 h2 r hE hr
    refine va_callv (hc p e R s m args below meth c H locs cells slots ls _ hA hP hS hL.1 h1 h2 (h r1 rfl)) hS (fun _ _ h => h) (fun _ h => h) (fun u t H1 locs1 ht hvm hpost hB hz hk hS1 => ?_)
    subst hpost
    rw [ht] at hB
    exact kk r1 rfl p e R s m args below meth c H1 locs1 cells slots Q ls hA hB hS1 hL h1 h2 r hE hr
theorem r_callr {pc' : Nat} (hc : Call g μ d pc pc' ν n av st rest M) (h : CtrR g ν n xr rm1 av M E1) (kk : ∀ r, E1 = some r → V g μ d rv rm pc' l (.ref (ga g (xr r)) :: rest) (rm1 r) (F r)) : V g μ d rv rm pc l st M (E1.bind F) := by
  obtain ⟨rfl, hc⟩ := hc
  cases hE1 : E1 with
  | none => exact vNone
  | some r1 =>
    subst hE1
    intro p e R s m args below meth c H locs cells slots Q ls hA hP hS hL h1 h2 r hE hr
    refine va_callr (hc p e R s m args below meth c H locs cells slots ls _ hA hP hS hL.1 h1 h2 (h r1 rfl)) hS (fun _ _ h => h) (fun _ h => h) (fun u a t H1 locs1 ht hvm hpost hB hz hk hS1 => ?_)
    subst hpost
    obtain ⟨e1, hB⟩ := hB
    subst e1
    rw [ht] at hB
    exact kk r1 rfl p e R s m args below meth c H1 locs1 cells slots Q ls hA hB hS1 hL h1 h2 r hE hr
/-- a callee that always answers, and changes nothing -/
theorem r_calliT {y : Int32} {pc' : Nat} (hc : Call g μ d pc pc' ν n av st rest M) (h : CtrI g ν n (fun r : Int32 => r) (fun _ => M) av M (some y)) (kk : V g μ d rv rm pc' l (.int y :: rest) M E) : V g μ d rv rm pc l st M E := by
  obtain ⟨rfl, hc⟩ := hc
  intro p e R s m args below meth c H locs cells slots Q ls hA hP hS hL h1 h2 r hE hr
  refine va_calli (hc p e R s m args below meth c H locs cells slots ls _ hA hP hS hL.1 h1 h2 (h y rfl)) hS (fun _ _ h => h) (fun _ h => h) (fun y u t H1 locs1 ht hvm hpost hB hz hk hS1 => ?_)
  obtain ⟨e1, e2⟩ := hpost
  subst e1; subst e2
  rw [ht] at hB
  exact kk p e R s m args below meth c H1 locs1 cells slots Q ls hA hB hS1 hL h1 h2 r hE hr
end CALLS
