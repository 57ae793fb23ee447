/-! ===== the memory of the system: ints by cell and place; references never change ===== -/
abbrev Mem : Type := Nat → Nat → Int32
def mf (M : Mem) (k : Nat) (f : Nat → Int32) : Mem := fun a => if a = k then f else M a
def mu (M : Mem) (k j : Nat) (v : Int32) : Mem := mf M k (upd (M k) j v)
abbrev G : Type := va_G × (Nat → Nat) × (Nat → ClassId) × (Nat → Nat) × (Nat → Nat) × Nat × Launch × (Nat → Prop) × Value × Nat × Nat × (Nat → Int32)
def ga (g : G) (k : Nat) : Nat := g.2.1 k
def gc (g : G) (k : Nat) : ClassId := g.2.2.1 k
def gs (g : G) (k : Nat) : Nat := g.2.2.2.1 k
def gv (g : G) (k : Nat) : Nat := g.2.2.2.2.1 k
def gt (g : G) : Nat := g.2.2.2.2.2.1
def gl (g : G) : Launch := g.2.2.2.2.2.2.1
def gw (g : G) (q : Nat) : Prop := g.2.2.2.2.2.2.2.1 q
def gz (g : G) : Value := g.2.2.2.2.2.2.2.2.1
def gb (g : G) : Nat := g.2.2.2.2.2.2.2.2.2.1
def gL (g : G) : Nat := g.2.2.2.2.2.2.2.2.2.2.1
def gx (g : G) (j : Nat) : Int32 := g.2.2.2.2.2.2.2.2.2.2.2 j
def fld (g : G) (M : Mem) (k c j : Nat) : Value := match ro c j with
  | some o => .ref (ga g (k + o))
  | none => .int (M k j)
def ent (g : G) (M : Mem) (k : Nat) : va_E :=
  if (kd k).1 < 20 then .inr ((kd k).1, (List.range (kd k).2).map (fld g M k (kd k).1))
  else if (kd k).1 = 23 then .inl (gc g 3, (kd k).2, .inr (.inr (.inr (.inr (fun i => some (ga g (k + rtL.getD i 0)))))))
  else .inl (gc g ((kd k).1 - 20), (kd k).2, .inl (M k))
def wd (g : G) (M : Mem) : va_W := (List.range NC).map (fun k => (ga g k, ent g M k))
def tysL (g : G) : List (ClassId × FieldType) := [(gc g 0, .int), (gc g 1, .byte), (gc g 2, .boolean), (gc g 3, .object RX9)]
theorem kd_lt {k c n : Nat} (h : kd k = (c, n)) (hc : c < 24) : k < NC := by
  rcases Nat.lt_or_ge k NC with q | q
  · exact q
  · exfalso
    have h1 : kd k = (99, 0) := by
      unfold kd
      rw [List.getD_eq_getElem?_getD, List.getElem?_eq_none]
      · rfl
      · exact q
    rw [h1] at h
    cases h
    omega
theorem wd_at (g : G) (M : Mem) {k : Nat} (h : k < NC) : (wd g M)[k]? = some (ga g k, ent g M k) := by
  unfold wd
  rw [List.getElem?_map, List.getElem?_range h]
  rfl
theorem ent_obj (g : G) (M : Mem) {k c n : Nat} (h : kd k = (c, n)) (hc : c < 20) : ent g M k = .inr (c, (List.range n).map (fld g M k c)) := by
  unfold ent
  rw [h, if_pos hc]
theorem ent_arr (g : G) (M : Mem) {k c n : Nat} (h : kd k = (c, n)) (hc : 20 ≤ c) (hc2 : c ≠ 23) : ent g M k = .inl (gc g (c - 20), n, .inl (M k)) := by
  unfold ent
  rw [h, if_neg (Nat.not_lt.mpr hc), if_neg hc2]
theorem ent_ref (g : G) (M : Mem) {k n : Nat} (h : kd k = (23, n)) : ent g M k = .inl (gc g 3, n, .inr (.inr (.inr (.inr (fun i => some (ga g (k + rtL.getD i 0))))))) := by
  unfold ent
  rw [h, if_neg (show ¬ (23 < 20) by decide), if_pos rfl]
theorem ent_other (g : G) (M : Mem) (k : Nat) (f : Nat → Int32) {i : Nat} (hi : i ≠ k) : ent g (mf M k f) i = ent g M i := by
  unfold ent
  have h1 : mf M k f i = M i := if_neg hi
  have h2 : fld g (mf M k f) i (kd i).1 = fld g M i (kd i).1 := by
    funext j
    unfold fld
    rw [h1]
  rw [h1, h2]
theorem wd_set (g : G) (M : Mem) {k : Nat} (hk : k < NC) (f : Nat → Int32) {E : va_E} (he : E = ent g (mf M k f) k) : (wd g M).set k (ga g k, E) = wd g (mf M k f) := by
  apply List.ext_getElem?
  intro i
  have hl : (wd g M).length = NC := by simp [wd]
  rcases Nat.lt_or_ge i NC with hi | hi
  · rw [wd_at g _ hi]
    by_cases hik : i = k
    · subst hik
      rw [List.getElem?_set_self (by rw [hl]; exact hi), he]
    · rw [List.getElem?_set_ne (fun h => hik h.symm), wd_at g M hi, ent_other g M k f hik]
  · rw [List.getElem?_eq_none (by rw [List.length_set, hl]; exact hi), List.getElem?_eq_none (by simp [wd]; exact hi)]
theorem wd_put (g : G) (M : Mem) {k c n j : Nat} (h : kd k = (c, n)) (hc : c < 20) (hr : ro c j = none) (v : Int32) : (wd g M).set k (ga g k, .inr (c, ((List.range n).map (fld g M k c)).set j (.int v))) = wd g (mu M k j v) := by
  refine wd_set g M (kd_lt h (by omega)) _ ?_
  rw [ent_obj g _ h hc]
  congr 2
  apply List.ext_getElem?
  intro i
  by_cases hij : i = j
  · subst hij
    rcases Nat.lt_or_ge i n with hi | hi
    · rw [List.getElem?_set_self (by simp; exact hi), List.getElem?_map, List.getElem?_range hi]
      simp [fld, hr, mf, upd]
    · rw [List.getElem?_eq_none (by simp; exact hi), List.getElem?_eq_none (by simp; exact hi)]
  · rw [List.getElem?_set_ne (fun h => hij h.symm), List.getElem?_map, List.getElem?_map]
    rcases Nat.lt_or_ge i n with hi | hi
    · rw [List.getElem?_range hi]
      have : fld g M k c i = fld g (mf M k (upd (M k) j v)) k c i := by
        unfold fld
        cases ro c i with
        | some o => rfl
        | none => simp [mf, upd, hij]
      simp [this]
    · rw [List.getElem?_eq_none (by simp; exact hi)]
      rfl
theorem wd_arr (g : G) (M : Mem) {k c n : Nat} (h : kd k = (c, n)) (hc : 20 ≤ c) (hc2 : c < 23) (f : Nat → Int32) : (wd g M).set k (ga g k, .inl (gc g (c - 20), n, .inl f)) = wd g (mf M k f) := by
  refine wd_set g M (kd_lt h (by omega)) _ ?_
  rw [ent_arr g _ h hc (by omega)]
  simp [mf]
def Inj (g : G) : Prop := (∀ i j, i < NC → j < NC → ga g i = ga g j → i = j) ∧ ∀ k, k < NC → gw g (ga g k)
theorem wd_D {g : G} (h : Inj g) (M : Mem) : va_D (gw g) (wd g M) := by
  have hl : (wd g M).length = NC := by simp [wd]
  have lt : ∀ {k : Nat} {q : Nat × va_E}, (wd g M)[k]? = some q → k < NC ∧ q.1 = ga g k := by
    intro k q hq
    have h1 : k < NC := by rw [← hl]; exact (List.getElem?_eq_some_iff.mp hq).1
    rw [wd_at g M h1] at hq
    cases hq
    exact ⟨h1, rfl⟩
  refine ⟨fun i j p q hi hj hpq => ?_, fun k q hk => ?_⟩
  · obtain ⟨a1, a2⟩ := lt hi
    obtain ⟨b1, b2⟩ := lt hj
    exact h.1 i j a1 b1 (a2 ▸ b2 ▸ hpq)
  · obtain ⟨a1, a2⟩ := lt hk
    rw [a2]
    exact h.2 k a1
/-! ===== the tables' words that a callee keeps ===== -/
def tb : List Cond := lw_tbl.filter goodWord
theorem tbm {w : Cond} (i : Nat) (h : lw_tbl[i]? = some w) (hg : goodWord w = true) : w ∈ tb := List.mem_filter.mpr ⟨List.mem_of_getElem? h, hg⟩
theorem tb_good : GoodIn tb tb := fun w hw => ⟨hw, good_of_word (List.mem_filter.mp hw).2⟩
/-! ===== the method at hand: class, name, code, locals, answer ===== -/
abbrev MI : Type := String × MethodName × ByteArray × Nat × Option FieldType
def mo (μ : MI) : String := μ.1
def my (μ : MI) : MethodName := μ.2.1
def mc (μ : MI) : ByteArray := μ.2.2.1
def ml (μ : MI) : Nat := μ.2.2.2.1
def mr (μ : MI) : Option FieldType := μ.2.2.2.2
/-! the constants: nest links, strings, the row of lines of a square -/
def nestL : List (String × Nat × MethodName × String) := [(RX9, 71, yX11_isWithin, RX11), (RX7, 35, yX11_isWithin, RX11)]
def strN : Nat := 22
def strB : List (List Int32) := [[114, 111, 108, 108, 115], [98, 108, 117, 114, 115], [99, 111, 115, 116, 115], [108, 105, 112, 115], [112, 104, 114, 97, 115, 101], [112, 104, 114, 97, 115, 101, 115], [99, 108, 101, 97, 114], [97, 108, 101], [110, 111, 105, 115, 101], [104, 101, 97, 114, 115], [111, 119, 101, 115], [104, 101, 108, 100], [100, 97, 121], [119, 104, 101, 110], [110, 111, 116], [97, 110, 100], [111, 114], [98, 97, 114, 103, 97, 105, 110], [111, 110], [98, 121], [115, 101, 99, 111, 110, 100], [102, 105, 114, 115, 116]]
def slen (i : Nat) : Nat := (strB.getD i []).length
def sbyt (i j : Nat) : Int32 := (strB.getD i []).getD j 0
def strL : List (String × Nat × String × Nat) := [(RX2, 63, "rolls", 0), (RX2, 68, "blurs", 1), (RX2, 70, "costs", 2), (RX2, 72, "lips", 3), (RX2, 74, "phrase", 4), (RX2, 76, "phrases", 5), (RX2, 78, "clear", 6), (RX2, 79, "ale", 7), (RX2, 81, "noise", 8), (RX2, 83, "hears", 9), (RX2, 85, "owes", 10), (RX2, 87, "held", 11), (RX2, 89, "day", 12), (RX2, 45, "when", 13), (RX2, 102, "not", 14), (RX2, 98, "and", 15), (RX2, 100, "or", 16), (RX4, 29, "bargain", 17), (RX4, 31, "on", 18), (RX4, 109, "by", 19), (RX4, 90, "second", 20), (RX4, 92, "first", 21), (RX4, 101, "ale", 7), (RX4, 103, "noise", 8), (RX4, 105, "clear", 6), (RX4, 107, "lips", 3)]
def stL : List Int32 := [0, 1, 2, 3, 4, 5, 6, 7, 8, 0, 3, 6, 1, 4, 7, 2, 5, 8, 0, 4, 8, 2, 4, 6]
def Kst (g : G) (s : State) : Prop :=
  (∀ q ∈ nestL, va_Nw (.methodLinkNest q.1 q.2.1 q.2.2.1 q.2.2.2) s) ∧
  (∀ q ∈ strL, vk_R q.1 q.2.1 q.2.2.1 (gs g q.2.2.2) s) ∧
  (∀ i, i < strN → va_O "java/lang/String" (gs g i) (gw g) s s.heap ∧ va_OF "java/lang/String" "value" "[B" (.ref (gv g i)) (gs g i) (gw g) s s.heap ∧ va_OF "java/lang/String" "coder" "B" (.int 0) (gs g i) (gw g) s s.heap ∧ va_T .byte (gv g i) (slen i) (fun j => .int (sbyt i j)) (gw g) s s.heap) ∧
  (va_Z RX10 "STRAIGHT" "[I" (.ref (gt g)) (gw g) s s.heap ∧ va_T .int (gt g) 24 (fun j => .int (stL.getD j 0)) (gw g) s s.heap) ∧
  va_Z "java/lang/String" "COMPACT_STRINGS" "Z" (.int 1) (gw g) s s.heap ∧
  (va_Z "jdk/internal/util/Preconditions" "SIOOBE_FORMATTER" "Ljava/util/function/BiFunction;" (gz g) (gw g) s s.heap ∧ (gz g = .null ∨ ∃ t : Nat, gz g = .ref t)) ∧
  (va_X (gb g) (gL g) (gx g) s s.heap ∧ gb g < s.heap.size ∧ ¬ gw g (gb g))
theorem Kst_go {g : G} {s U : State} {H : Heap} {locs : List Loc} (h : Kst g s) (hW : s.WarmedH U.vm) (hS : va_S (gw g) s.heap H locs) (hU : U.heap = H) : Kst g U := by
  have hq : ∀ a : Nat, a < s.heap.size → ¬ gw g a → U.heap[a]? = s.heap[a]? := fun a h1 h2 => by rw [hU]; exact hS.2.1 a h1 h2
  obtain ⟨h1, h2, h3, ⟨h4, h5⟩, h6, ⟨h7, h8⟩, h9, h10, h11⟩ := h
  refine ⟨fun q hq => (h1 q hq).warmM hW, fun q hq => (h2 q hq).warm hW, fun i hi => ?_, ⟨(h4.kept hq).moved hW.alike, (h5.kept hq).moved hW.alike⟩, (h6.kept hq).moved hW.alike, ⟨(h7.kept hq).moved hW.alike, h8⟩, (h9.kept (hq _ h10 h11)).moved hW.alike, by rw [hU]; exact Nat.lt_of_lt_of_le h10 hS.1, h11⟩
  obtain ⟨a, b, c, d⟩ := h3 i hi
  exact ⟨(a.kept hq).moved hW.alike, (b.kept hq).moved hW.alike, (c.kept hq).moved hW.alike, (d.kept hq).moved hW.alike⟩
theorem Kst_calling {g : G} {U : State} {f : JFrame} {mk : MethodId} {a : Array Value} (h : Kst g U) : Kst g (U.calling f mk a) := by
  obtain ⟨h1, h2, h3, ⟨h4, h5⟩, h6, ⟨h7, h8⟩, h9, h10, h11⟩ := h
  refine ⟨fun q hq => (h1 q hq).same rfl rfl, fun q hq => (h2 q hq).same rfl, fun i hi => ?_, ⟨h4.moved (Vm.Alike.refl _), h5.moved (Vm.Alike.refl _)⟩, h6.moved (Vm.Alike.refl _), ⟨h7.moved (Vm.Alike.refl _), h8⟩, h9.moved (Vm.Alike.refl _), h10, h11⟩
  obtain ⟨a, b, c, d⟩ := h3 i hi
  exact ⟨a.moved (Vm.Alike.refl _), b.moved (Vm.Alike.refl _), c.moved (Vm.Alike.refl _), d.moved (Vm.Alike.refl _)⟩
