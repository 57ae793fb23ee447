/-! ===== contracts of constructors ===== -/
def rmC (n x z : Nat) : Room := { frames := n, cells := x, slots := z, locals := 64 * n }
def PreC (g : G) (N0 : Nat) (av : List Value) (n : Nat) (C : Nat → va_E) : Array Value → State → Prop := va_Pc av (fun U => va_P g.1 vwCl (wl g n C) U.heap ∧ U.heap.size = N0 + n ∧ va_K g.1 vwCl (tysL g) U ∧ Inj g ∧ Kst g U ∧ Str g N0 ∧ Kc U)
theorem PreC_blind (g : G) (N0 : Nat) (av : List Value) (n : Nat) (C : Nat → va_E) : FrameBlind (PreC g N0 av n C) := by
  intro a U f mk h
  obtain ⟨h1, h2, h3, h4, h5, h6, h7, h8⟩ := h
  exact ⟨h1, h2, h3, va_K.moved (u := U) (U := U.calling f mk a) (Vm.Alike.refl U.vm) h4, h5, Kst_calling h6, h7, Kc_calling h8⟩
/-- the cells from a up to b are finished, the others as they were -/
def fin (g : G) (C : Nat → va_E) (a b : Nat) : Nat → va_E := fun i => if a ≤ i ∧ i < b then ent g M0 i else C i
/-- cell k, blank (bl), the last of nB, is made: x cells come with it, z slots -/
def Ctor (g : G) (N0 : Nat) (μ : MI) (n k nB x z : Nat) (bl : va_E) (As : List Value) : Prop := ∀ C : Nat → va_E, C k = bl → Met (gl g) (my μ) (ws μ) (rmC n x z) (PreC g N0 (.ref (ga g k) :: As) nB C) (va_Qv (fun _ : Unit => True) (fun _ t => va_P g.1 vwCl (wl g (nB + x) (fin g C k (nB + x))) t.heap) (gw g)) x z (gw g)
theorem Ctor.of {g : G} {N0 : Nat} {μ : MI} {n k nB x z pcE : Nat} {bl : va_E} {As l : List Value} (hm : MOK μ) (hr : mr μ = none) (hname : (my μ).name = "<init>") (hl : (lg_sl (.ref (ga g k) :: As)).length ≤ ml μ) (he : entL (.ref (ga g k) :: As) (ml μ) = l) (hd : decode (mc μ) pcE = .ok (.return_, 1)) (hY : ∀ C : Nat → va_E, C k = bl → Y g N0 μ n nB pcE [] x (fin g C k (nB + x)) z 0 l [] 0 C 0) : Ctor g N0 μ n k nB x z bl As := by
  intro C hC
  refine Met.ofW (cc := mc μ) (maxL := ml μ) (ret := mr μ) hm.1 rfl ?_
  intro p e s m args below meth c s₁ B hml hv
  obtain ⟨rfl, hP, hz, hK, hI, hKs, hSt, hKc⟩ := hv
  have hts := atoms_spec (ws := ws μ) B.pre
  have hown : s.vm.findClass (mo μ) = some m.cls := hm.2.1 ▸ findClass_of_methodNamed B.named
  have hret : meth.sig.returnType = none := by rw [B.returns, hr]
  have hin : meth.name = "<init>" := (name_of_methodNamed B.named B.method).1.trans hname
  rw [lg_entry_eq]
  have hA : At g μ n p (headSpec (ws μ) (rmC n x z)).room s m (.ref (ga g k) :: As).toArray meth c := ⟨B.exec, B.bytes, hml, hown, fun w hw => hts w (List.mem_cons_of_mem _ hw), B.returns, B.notSynchronized, hK, hI, hKs, ⟨Nat.le_refl _, Nat.le_refl _⟩⟩
  refine hY C hC p e _ s m _ below meth c s.heap [] _ _ ⟨hA, hSt, hKc, hz, fun _ => hin⟩ hP va_S.rf (he ▸ entL_ok _ hl) (Nat.le_refl _) (Nat.le_refl _) (fun ls' H' locs' hP' hS' _ => ?_)
  exact W.vret B.exec B.bytes hret (fun t ht _ => ⟨⟨(), rfl, trivial, by dsimp only; rw [ht]; exact hP'⟩, hS'.F ht⟩) hS'.2.2 hd B.notSynchronized
theorem room_okC {d n x z : Nat} {ν : MI} {R : Room} (hd : d ≤ R.frames ∧ 64 * d ≤ R.locals) (hn : n < d) (hl : ml ν ≤ 40) : (rmC n x z).frames + 1 ≤ R.frames ∧ 8 + (ml ν + 11) + (rmC n x z).locals ≤ R.locals := by
  refine ⟨Nat.le_trans hn hd.1, Nat.le_trans ?_ hd.2⟩
  show 8 + (ml ν + 11) + 64 * n ≤ 64 * d
  omega
section CCALL
variable {g : G} {N0 : Nat} {μ ν : MI} {d nB pcE : Nat} {lE : List Value} {iE : Nat} {CE : Nat → va_E} {zE pc : Nat} {l st : List Value} {i : Nat} {C : Nat → va_E} {z : Nat}
theorem y_size {H : Heap} {q : Nat} {p : Program} {R : Room} {s : State} {m : MethodId} {args : Array Value} {meth : Method} {c : Code} (hA : AtY g N0 μ d nB p R s m args meth c) (hP : va_P g.1 vwCl (wl g (nB + i) C) H) (hz : H.size ≤ s.heap.size + i) (hq : nB + i = q + 1) : H.size = N0 + (q + 1) := by
  have h1 := wl_lt hP (k := q) (by omega)
  rw [hA.2.1.1] at h1
  rw [hA.2.2.2.1] at hz
  omega
/-- a private constructor of a nest mate -/
theorem y_callN {n q x zc index na i' z' : Nat} {bl : va_E} {As rest : List Value} (hc : Ctor g N0 ν n q (q + 1) x zc bl As) (hn : n < d) (hm : MOK ν) (hr : mr ν = none) (hname : (my ν).name = "<init>") (hlink : (mo μ, index, my ν, RX11) ∈ nestI) (hinst : Cond.instanceMethod (my ν) ∈ tb) (hpar : (parseMethodDescriptor (my ν).desc).map (fun d => d.parameters.length) = some na) (hla : As.length = na) (hrest : (rest.map fun v => v.category).sum ≤ 8) {pc' : Nat} (hd : DD (mc μ) pc (.invokespecial index) 3 pc') (hst : st = As.reverse ++ .ref (ga g q) :: rest) (hq : nB + i = q + 1) (hi : i + x = i') (hz : z + zc = z') (hle : i' ≤ iE) (hlz : z' ≤ zE) (hC : C q = bl)
    (k : Y g N0 μ d nB pcE lE iE CE zE pc' l rest i' (fin g C q (nB + i')) z') : Y g N0 μ d nB pcE lE iE CE zE pc l st i C z := by
  obtain ⟨hd, rfl⟩ := hd
  subst hi; subst hz
  intro p e R s m args below meth c H locs Q ls hA hP hS hL h1 h2 kE
  refine W_sized (fun hsz => ?_)
  have hsize := y_size hA hP hsz hq
  have ht := hA.1.2.2.2.2.1
  have hP' := hP
  rw [hq] at hP'
  refine va_callv (va_runIN (bytes := mc ν) (maxL := ml ν) (ws := ws ν) (As := As) (rest := rest) ⟨hA.1.1, hA.1.2.1, hA.1.2.2.1, hA.1.2.2.2.1, ht⟩ (hc C hC) ⟨va_cnB na ht (GoodIn_ws hm) (by rw [← hr]; rfl) rfl rfl (hA.2.2.1.1 _ hlink) (ht _ hm.2.2.2.1) ⟨hm.2.2.2.2.1.1, hm.2.2.2.2.1.2, hpar⟩ (room_okC hA.1.2.2.2.2.2.2.2.2.2.2 hn hm.2.2.2.2.2), hname, ht _ hinst⟩ ⟨PreC_blind _ _ _ _ _, fun U hU hW => ⟨rfl, by rw [hU]; exact hP', by rw [hU]; exact hsize, va_K.moved hW.alike hA.1.2.2.2.2.2.2.2.1, hA.1.2.2.2.2.2.2.2.2.1, Kst_go hA.1.2.2.2.2.2.2.2.2.2.1 hW hS hU, hA.2.1, Kc_go hA.2.2.1 hW⟩⟩ rfl hla hL.1 hst (lv_room hrest) hd ⟨Nat.le_trans hle h1, Nat.le_trans hlz h2⟩) hS (fun _ _ h => h) (fun _ h => h) (fun u t H1 locs1 ht1 hvm hpost hB hz1 hk1 hS1 => ?_)
  rw [ht1, ← hq, show nB + i + x = nB + (i + x) from Nat.add_assoc _ _ _] at hB
  exact k p e R s m args below meth c H1 locs1 Q ls hA hB hS1 hL h1 h2 kE
theorem y_callI {n q x zc index na i' z' : Nat} {bl : va_E} {As rest : List Value} (hc : Ctor g N0 ν n q (q + 1) x zc bl As) (hn : n < d) (hm : MOK ν) (hr : mr ν = none) (hname : (my ν).name = "<init>") (hlink : Cond.methodLink (mo μ) index (my ν) ∈ tb) (hinst : Cond.instanceMethod (my ν) ∈ tb) (hpar : (parseMethodDescriptor (my ν).desc).map (fun d => d.parameters.length) = some na) (hla : As.length = na) (hrest : (rest.map fun v => v.category).sum ≤ 8) {pc' : Nat} (hd : DD (mc μ) pc (.invokespecial index) 3 pc') (hst : st = As.reverse ++ .ref (ga g q) :: rest) (hq : nB + i = q + 1) (hi : i + x = i') (hz : z + zc = z') (hle : i' ≤ iE) (hlz : z' ≤ zE) (hC : C q = bl)
    (k : Y g N0 μ d nB pcE lE iE CE zE pc' l rest i' (fin g C q (nB + i')) z') : Y g N0 μ d nB pcE lE iE CE zE pc l st i C z := by
  obtain ⟨hd, rfl⟩ := hd
  subst hi; subst hz
  intro p e R s m args below meth c H locs Q ls hA hP hS hL h1 h2 kE
  refine W_sized (fun hsz => ?_)
  have hsize := y_size hA hP hsz hq
  have ht := hA.1.2.2.2.2.1
  have hP' := hP
  rw [hq] at hP'
  refine va_callv (va_runI (bytes := mc ν) (maxL := ml ν) (ws := ws ν) (As := As) (rest := rest) ⟨hA.1.1, hA.1.2.1, hA.1.2.2.1, hA.1.2.2.2.1, ht⟩ (hc C hC) (cwI na ht (GoodIn_ws hm) (by rw [← hr]; rfl) rfl rfl (ht _ hm.2.2.2.1) (ht _ hlink) (ht _ hinst) hname ⟨hm.2.2.2.2.1.1, hm.2.2.2.2.1.2, hpar⟩ (room_okC hA.1.2.2.2.2.2.2.2.2.2.2 hn hm.2.2.2.2.2)) ⟨PreC_blind _ _ _ _ _, fun U hU hW => ⟨rfl, by rw [hU]; exact hP', by rw [hU]; exact hsize, va_K.moved hW.alike hA.1.2.2.2.2.2.2.2.1, hA.1.2.2.2.2.2.2.2.2.1, Kst_go hA.1.2.2.2.2.2.2.2.2.2.1 hW hS hU, hA.2.1, Kc_go hA.2.2.1 hW⟩⟩ rfl hla hL.1 hst (lv_room hrest) hd ⟨Nat.le_trans hle h1, Nat.le_trans hlz h2⟩) hS (fun _ _ h => h) (fun _ h => h) (fun u t H1 locs1 ht1 hvm hpost hB hz1 hk1 hS1 => ?_)
  rw [ht1, ← hq, show nB + i + x = nB + (i + x) from Nat.add_assoc _ _ _] at hB
  exact k p e R s m args below meth c H1 locs1 Q ls hA hB hS1 hL h1 h2 kE
end CCALL
/-- cell k under way with fields fs, the cells behind it up to n finished -/
def stt (g : G) (C0 : Nat → va_E) (k n ci : Nat) (fs : List Value) : Nat → va_E := fun i => if i = k then .inr (ci, fs) else if k < i ∧ i < n then ent g M0 i else C0 i
section STT
variable {g : G} {C0 : Nat → va_E} {k n ci : Nat} {fs : List Value}
theorem stt_k : stt g C0 k n ci fs k = .inr (ci, fs) := if_pos rfl
theorem stt_in {j : Nat} (h : k < j) (h2 : j < n) : stt g C0 k n ci fs j = ent g M0 j := by
  unfold stt
  rw [if_neg (by omega), if_pos ⟨h, h2⟩]
theorem stt_out {j : Nat} (h : j ≠ k) (h2 : ¬ (k < j ∧ j < n)) : stt g C0 k n ci fs j = C0 j := by
  unfold stt
  rw [if_neg h, if_neg h2]
theorem stt_0 {bl : List Value} (h : C0 k = .inr (ci, bl)) (j : Nat) : C0 j = stt g C0 k (k + 1) ci bl j := by
  by_cases hj : j = k
  · subst hj; rw [h, stt_k]
  · rw [stt_out hj (by omega)]
theorem stt_put {fs' : List Value} (j : Nat) : upE (stt g C0 k n ci fs) k (.inr (ci, fs')) j = stt g C0 k n ci fs' j := by
  by_cases hj : j = k
  · subst hj; rw [upE_s, stt_k]
  · rw [upE_o hj]
    unfold stt
    rw [if_neg hj, if_neg hj]
theorem stt_new {x : va_E} (hk : k < n) (hx : x = ent g M0 n) (j : Nat) : upE (stt g C0 k n ci fs) n x j = stt g C0 k (n + 1) ci fs j := by
  by_cases hj : j = n
  · subst hj; rw [upE_s, stt_in hk (by omega), hx]
  · rw [upE_o hj]
    unfold stt
    by_cases h1 : j = k
    · rw [if_pos h1, if_pos h1]
    · rw [if_neg h1, if_neg h1]
      by_cases h2 : k < j ∧ j < n
      · rw [if_pos h2, if_pos (by omega)]
      · rw [if_neg h2, if_neg (by omega)]
theorem stt_call {x : va_E} {n' : Nat} (hk : k < n) (hn : n ≤ n') (j : Nat) : fin g (upE (stt g C0 k n ci fs) n x) n n' j = stt g C0 k n' ci fs j ∨ n' ≤ j := by
  rcases Nat.lt_or_ge j n' with hj | hj
  · refine Or.inl ?_
    unfold fin
    by_cases h1 : n ≤ j ∧ j < n'
    · rw [if_pos h1, stt_in (by omega) h1.2]
    · rw [if_neg h1, upE_o (by omega)]
      unfold stt
      by_cases h2 : j = k
      · rw [if_pos h2, if_pos h2]
      · rw [if_neg h2, if_neg h2]
        by_cases h3 : k < j ∧ j < n
        · rw [if_pos h3, if_pos (by omega)]
        · rw [if_neg h3, if_neg (by omega)]
  · exact Or.inr hj
theorem stt_end (hk : k < n) (he : ent g M0 k = .inr (ci, fs)) (j : Nat) : stt g C0 k n ci fs j = fin g C0 k n j := by
  unfold fin
  by_cases hj : j = k
  · subst hj; rw [stt_k, if_pos ⟨Nat.le_refl _, hk⟩, he]
  · by_cases h2 : k < j ∧ j < n
    · rw [stt_in h2.1 h2.2, if_pos (by omega)]
    · rw [stt_out hj h2, if_neg (by omega)]
/-- a fresh array of zeros is what M0 says -/
theorem ent_zero {q c N : Nat} (h : kd q = (c, N)) (hc : 20 ≤ c) (hc2 : c ≠ 23) (hM : ∀ j, M0 q j = 0) : (.inl (gc g (c - 20), N, .inl (fun _ => 0)) : va_E) = ent g M0 q := by
  rw [ent_arr g M0 h hc hc2]
  have : M0 q = fun _ => 0 := funext hM
  rw [this]
end STT
section ZROWS
variable {g : G} {N0 : Nat} {μ ν : MI} {d nB pcE : Nat} {lE : List Value} {iE : Nat} {CE : Nat → va_E} {zE pc : Nat} {l st : List Value} {i : Nat} {C0 : Nat → va_E} {z : Nat} {k q ci : Nat} {fs : List Value}
theorem z_begin {C : Nat → va_E} {bl : List Value} (h : C k = .inr (ci, bl)) (kk : Y g N0 μ d nB pcE lE iE CE zE pc l st i (stt g C k (k + 1) ci bl) z) : Y g N0 μ d nB pcE lE iE CE zE pc l st i C z := yCongr (fun j _ => stt_0 h j) kk
theorem z_end (hk : k < q) (hq : nB + iE = q) (he : ent g M0 k = .inr (ci, fs)) : Y g N0 μ d nB pcE [] iE (fin g C0 k (nB + iE)) zE pcE l [] iE (stt g C0 k q ci fs) zE := by
  subst hq
  exact yEnd trivial (fun j _ => stt_end hk he j)
theorem z_put {index nf j : Nat} {Cn : String} {T : u_T} {ty : Nat → FieldType} {fs' : List Value} {v : Value} {tj : FieldType} (hc : CL ci nf Cn T ty) (hj : j < nf) (hlink : Cond.fieldLink (mo μ) index (T j).1 (T j).2.1 (T j).2.2.1 ∈ tb) (hr : mr μ = none) (hdecl : (T j).1 = mo μ) (htj : ty j = tj) (hn : narrow tj v = v) (hfit : fits tj v = true) {pc' : Nat} (hd : DD (mc μ) pc (.putfield index) 3 pc') (hk : k < nB + i) (hl : j < fs.length) (hs : fs.set j v = fs')
    (kk : Y g N0 μ d nB pcE lE iE CE zE pc' l st i (stt g C0 k q ci fs') z) : Y g N0 μ d nB pcE lE iE CE zE pc l (v :: .ref (ga g k) :: st) i (stt g C0 k q ci fs) z := by
  subst hs
  exact y_put hc hj hlink hr hdecl htj hn hfit hd hk stt_k hl (yCongr (fun j _ => stt_put j) kk)
theorem z_get {index nf j : Nat} {Cn : String} {T : u_T} {ty : Nat → FieldType} {v : Value} (hc : CL ci nf Cn T ty) (hj : j < nf) (hlink : Cond.fieldLink (mo μ) index (T j).1 (T j).2.1 (T j).2.2.1 ∈ tb) {pc' : Nat} (hd : DD (mc μ) pc (.getfield index) 3 pc') (hk : k < nB + i) (hl : fs[j]? = some v)
    (kk : Y g N0 μ d nB pcE lE iE CE zE pc' l (v :: st) i (stt g C0 k q ci fs) z) : Y g N0 μ d nB pcE lE iE CE zE pc l (.ref (ga g k) :: st) i (stt g C0 k q ci fs) z := y_get hc hj hlink hd hk stt_k hl kk
theorem z_newi {N q' i' z' : Nat} {v : Int32} (hv : ¬ v < 0) (hN : v.toNatClampNeg = N) (hby : N * componentBytes .int ≤ 536870912) {pc' : Nat} (hd : DD (mc μ) pc (.newarray .int) 2 pc') (hq : nB + i = q) (hi : i + 1 = i') (hz : z + N = z') (hle : i' ≤ iE) (hlz : z' ≤ zE) (hk : k < q) (hkd : kd q = (20, N)) (hM : ∀ j, M0 q j = 0) (hq' : q + 1 = q') (harr : Cond.arrayClass .int ∈ tb)
    (kk : Y g N0 μ d nB pcE lE iE CE zE pc' l (.ref (ga g q) :: st) i' (stt g C0 k q' ci fs) z') : Y g N0 μ d nB pcE lE iE CE zE pc l (.int v :: st) i (stt g C0 k q ci fs) z := by
  subst hq'
  exact y_newa (ty := .int) (t := 0) harr rfl rfl (fun _ h => by cases h) rfl hv hN hby hd hq hi hz hle hlz (yCongr (fun j _ => stt_new hk (ent_zero (c := 20) hkd (by decide) (by decide) hM) j) kk)
theorem z_newb {N q' i' z' : Nat} {v : Int32} (hv : ¬ v < 0) (hN : v.toNatClampNeg = N) (hby : N * componentBytes .byte ≤ 536870912) {pc' : Nat} (hd : DD (mc μ) pc (.newarray .byte) 2 pc') (hq : nB + i = q) (hi : i + 1 = i') (hz : z + N = z') (hle : i' ≤ iE) (hlz : z' ≤ zE) (hk : k < q) (hkd : kd q = (21, N)) (hM : ∀ j, M0 q j = 0) (hq' : q + 1 = q') (harr : Cond.arrayClass .byte ∈ tb)
    (kk : Y g N0 μ d nB pcE lE iE CE zE pc' l (.ref (ga g q) :: st) i' (stt g C0 k q' ci fs) z') : Y g N0 μ d nB pcE lE iE CE zE pc l (.int v :: st) i (stt g C0 k q ci fs) z := by
  subst hq'
  exact y_newa (ty := .byte) (t := 1) harr rfl rfl (fun _ h => by cases h) rfl hv hN hby hd hq hi hz hle hlz (yCongr (fun j _ => stt_new hk (ent_zero (c := 21) hkd (by decide) (by decide) hM) j) kk)
theorem z_newz {N q' i' z' : Nat} {v : Int32} (hv : ¬ v < 0) (hN : v.toNatClampNeg = N) (hby : N * componentBytes .boolean ≤ 536870912) {pc' : Nat} (hd : DD (mc μ) pc (.newarray .boolean) 2 pc') (hq : nB + i = q) (hi : i + 1 = i') (hz : z + N = z') (hle : i' ≤ iE) (hlz : z' ≤ zE) (hk : k < q) (hkd : kd q = (22, N)) (hM : ∀ j, M0 q j = 0) (hq' : q + 1 = q') (harr : Cond.arrayClass .boolean ∈ tb)
    (kk : Y g N0 μ d nB pcE lE iE CE zE pc' l (.ref (ga g q) :: st) i' (stt g C0 k q' ci fs) z') : Y g N0 μ d nB pcE lE iE CE zE pc l (.int v :: st) i (stt g C0 k q ci fs) z := by
  subst hq'
  exact y_newa (ty := .boolean) (t := 2) harr rfl rfl (fun _ h => by cases h) rfl hv hN hby hd hq hi hz hle hlz (yCongr (fun j _ => stt_new hk (ent_zero (c := 22) hkd (by decide) (by decide) hM) j) kk)
theorem z_callN {n x zc index na i' z' q' : Nat} {bl : va_E} {As rest : List Value} (hc : Ctor g N0 ν n q (q + 1) x zc bl As) (hn : n < d) (hm : MOK ν) (hr : mr ν = none) (hname : (my ν).name = "<init>") (hlink : (mo μ, index, my ν, RX11) ∈ nestI) (hinst : Cond.instanceMethod (my ν) ∈ tb) (hpar : (parseMethodDescriptor (my ν).desc).map (fun d => d.parameters.length) = some na) (hla : As.length = na) (hrest : (rest.map fun v => v.category).sum ≤ 8) {pc' : Nat} (hd : DD (mc μ) pc (.invokespecial index) 3 pc') (hst : st = As.reverse ++ .ref (ga g q) :: rest) (hq : nB + i = q + 1) (hi : i + x = i') (hz : z + zc = z') (hle : i' ≤ iE) (hlz : z' ≤ zE) (hk : k < q) (hq' : nB + i' = q')
    (kk : Y g N0 μ d nB pcE lE iE CE zE pc' l rest i' (stt g C0 k q' ci fs) z') : Y g N0 μ d nB pcE lE iE CE zE pc l st i (upE (stt g C0 k q ci fs) q bl) z := by
  subst hq'
  refine y_callN hc hn hm hr hname hlink hinst hpar hla hrest hd hst hq hi hz hle hlz upE_s (yCongr (fun j hj => ?_) kk)
  rcases stt_call (g := g) (C0 := C0) (ci := ci) (fs := fs) (x := bl) hk (show q ≤ nB + i' by omega) j with h | h
  · exact h
  · omega
theorem z_callI {n x zc index na i' z' q' : Nat} {bl : va_E} {As rest : List Value} (hc : Ctor g N0 ν n q (q + 1) x zc bl As) (hn : n < d) (hm : MOK ν) (hr : mr ν = none) (hname : (my ν).name = "<init>") (hlink : Cond.methodLink (mo μ) index (my ν) ∈ tb) (hinst : Cond.instanceMethod (my ν) ∈ tb) (hpar : (parseMethodDescriptor (my ν).desc).map (fun d => d.parameters.length) = some na) (hla : As.length = na) (hrest : (rest.map fun v => v.category).sum ≤ 8) {pc' : Nat} (hd : DD (mc μ) pc (.invokespecial index) 3 pc') (hst : st = As.reverse ++ .ref (ga g q) :: rest) (hq : nB + i = q + 1) (hi : i + x = i') (hz : z + zc = z') (hle : i' ≤ iE) (hlz : z' ≤ zE) (hk : k < q) (hq' : nB + i' = q')
    (kk : Y g N0 μ d nB pcE lE iE CE zE pc' l rest i' (stt g C0 k q' ci fs) z') : Y g N0 μ d nB pcE lE iE CE zE pc l st i (upE (stt g C0 k q ci fs) q bl) z := by
  subst hq'
  refine y_callI hc hn hm hr hname hlink hinst hpar hla hrest hd hst hq hi hz hle hlz upE_s (yCongr (fun j hj => ?_) kk)
  rcases stt_call (g := g) (C0 := C0) (ci := ci) (fs := fs) (x := bl) hk (show q ≤ nB + i' by omega) j with h | h
  · exact h
  · omega
end ZROWS
