/-! ===== what the start gives: strings, the row of lines, statics ===== -/
def FL : List Cond := flatC (Jvm.Cond.and given_1 narrow_1)
theorem in_t {w : Cond} {i : Nat} (h : tables_1[i]? = some w) : w ∈ lw_tbl := List.mem_append_right _ (List.mem_of_getElem? h)
def strE (n : Nat) : String × Nat × String × Nat := strL.getD n ("", 0, "", 0)
def strW (n : Nat) : Term := .string (strE n).1 (strE n).2.1
def strP : List Nat := [36, 45, 54, 63, 71, 81, 92, 101, 108, 117, 126, 134, 142, 149, 157, 164, 171, 177, 188, 194, 200, 210, 219, 227, 237, 247]
def strQ : List Nat := [226, 236, 246, 255]
def strTp : List Nat := [644, 697, 698, 719, 720, 721, 722, 723, 724, 725, 726, 727, 728, 737, 751, 758, 759, 773, 774, 790, 803, 804, 812, 813, 814, 815]
set_option maxRecDepth 100000 in
theorem str_f0 : ∀ n, n < 26 → FL[strP.getD n 0]? = some (Cond.exactly (strW n) "java/lang/String") ∧ FL[strP.getD n 0 + 1]? = some (Cond.eq (.field (strW n) "java/lang/String" "coder" "B") (.int 0)) ∧ FL[strP.getD n 0 + 2]? = some (Cond.arrayOf (.field (strW n) "java/lang/String" "value" "[B") .byte) ∧ FL[strP.getD n 0 + 3]? = some (Cond.eq (.length (.field (strW n) "java/lang/String" "value" "[B")) (.int (Int32.ofNat (slen (strE n).2.2.2)))) := by decide +kernel
set_option maxRecDepth 100000 in
theorem str_f1 : ∀ n, n < 26 → ∀ j, j < slen (strE n).2.2.2 → FL[strP.getD n 0 + 4 + j]? = some (Cond.eq (.elem (.field (strW n) "java/lang/String" "value" "[B") (.int (Int32.ofNat j))) (.int (sbyt (strE n).2.2.2 j))) := by decide +kernel
set_option maxRecDepth 100000 in
theorem str_f2 : ∀ n, n < 4 → FL[strQ.getD n 0]? = some (Cond.eq (strW (strE (22 + n)).2.2.2) (strW (22 + n))) := by decide +kernel
set_option maxRecDepth 100000 in
theorem str_f3 : ∀ n, n < 26 → tables_1[strTp.getD n 0]? = some (Cond.stringRef (strE n).1 (strE n).2.1 (strE n).2.2.1) := by decide +kernel
theorem str_f4 : ∀ n, n < 26 → (strE n).2.2.2 < 22 ∧ slen (strE n).2.2.2 < 100 := by decide +kernel
theorem str_f5 : ∀ n, n < 22 → (strE n).2.2.2 = n := by decide +kernel
set_option maxRecDepth 100000 in
theorem st_f0 : FL[10]? = some (Cond.arrayOf (.static RX10 "STRAIGHT" "[I") .int) ∧ FL[11]? = some (Cond.eq (.length (.static RX10 "STRAIGHT" "[I")) (.int (Int32.ofNat 24))) := by decide +kernel
set_option maxRecDepth 100000 in
theorem st_f1 : ∀ j, j < 24 → FL[12 + j]? = some (Cond.eq (.elem (.static RX10 "STRAIGHT" "[I") (.int (Int32.ofNat j))) (.int (stL.getD j 0))) := by decide +kernel
set_option maxRecDepth 100000 in
theorem st_f2 : FL[4]? = some (Cond.eq (.static "java/lang/String" "COMPACT_STRINGS" "Z") (.int 1)) ∧ FL[5]? = some (Cond.isRef (.static "jdk/internal/util/Preconditions" "SIOOBE_FORMATTER" "Ljava/util/function/BiFunction;")) := by decide +kernel
def nlP : List Nat := [519, 894]
def niP : List Nat := [32, 38, 158, 195, 294, 310, 313, 356, 361, 369, 394]
set_option maxRecDepth 100000 in
theorem nl_f : ∀ n, n < 2 → tables_1[nlP.getD n 0]? = (nestL[n]?).map (fun q => Cond.methodLinkNest q.1 q.2.1 q.2.2.1 q.2.2.2) := by decide +kernel
set_option maxRecDepth 100000 in
theorem ni_f : ∀ n, n < 11 → tables_1[niP.getD n 0]? = (nestI[n]?).map (fun q => Cond.methodLinkNest q.1 q.2.1 q.2.2.1 q.2.2.2) := by decide +kernel
theorem k_str {args : Array Value} {s : State} {A : Nat → Prop} {t : Term} {N : Nat} {f : Nat → Int32} (hN : N < 2 ^ 31) (hex : (Cond.exactly t "java/lang/String").before args s = true) (hco : (Cond.eq (.field t "java/lang/String" "coder" "B") (.int 0)).before args s = true) (har : (Cond.arrayOf (.field t "java/lang/String" "value" "[B") .byte).before args s = true) (hle : (Cond.eq (.length (.field t "java/lang/String" "value" "[B")) (.int (Int32.ofNat N))).before args s = true) (hel : ∀ j, j < N → (Cond.eq (.elem (.field t "java/lang/String" "value" "[B") (.int (Int32.ofNat j))) (.int (f j))).before args s = true) (hA : ∀ a : Nat, a < s.heap.size → ¬ A a) :
    ∃ q : Nat × Nat, t.eval args s none [] s = some (.ref q.1) ∧ va_O "java/lang/String" q.1 A s s.heap ∧ va_OF "java/lang/String" "value" "[B" (.ref q.2) q.1 A s s.heap ∧ va_OF "java/lang/String" "coder" "B" (.int 0) q.1 A s s.heap ∧ va_T .byte q.2 N (fun j => .int (f j)) A s s.heap := by
  obtain ⟨a, c, cA, kA, q1, -⟩ := Cond.exactly_spec (args := args) (first := s) (o := none) (s := s) (idx := []) (t := t) (cls := "java/lang/String") hex
  obtain ⟨v, ht, hT⟩ := va_Tof (f := fun j => .int (f j)) (A := A) hN har (va_eqt hle) (fun j hj => va_eqt (hel j hj)) hA
  exact ⟨(a, v), q1, va_Oof hex q1 hA, vk_OFof q1 ht hA, vk_OFof q1 (va_eqt hco) hA, hT⟩
theorem k_eqr {args : Array Value} {s : State} {t u : Term} {a b : Nat} (h : (Cond.eq t u).before args s = true) (ht : t.eval args s none [] s = some (.ref a)) (hu : u.eval args s none [] s = some (.ref b)) : a = b := by
  simp only [Cond.before, Cond.holds, Cond.value, ht, hu] at h
  simpa using h
section CONST
variable {s : State} {b L : Nat} {xs : Nat → Int32}
theorem consts (hts : ∀ w ∈ lw_tbl, w.before #[Value.ref b] s = true) (hgv : (Jvm.Cond.and given_1 narrow_1).before #[Value.ref b] s = true) (hX : va_X b L xs s s.heap) (hbl : b < s.heap.size) :
    ∃ (fs fv : Nat → Nat) (t : Nat) (z : Value), ∀ (D : va_G) (a : Nat → Nat) (c : Nat → ClassId) (l : Launch), Kst (D, a, c, fs, fv, t, l, (fun q => s.heap.size ≤ q), z, b, L, xs) s := by
  have hf : ∀ (i : Nat) (w : Cond), FL[i]? = some w → w.before #[Value.ref b] s = true := fun i w h => flat_of_before _ hgv w (List.mem_of_getElem? h)
  have hA : ∀ a : Nat, a < s.heap.size → ¬ (fun q : Nat => s.heap.size ≤ q) a := fun a h => Nat.not_le.mpr h
  have hstr : ∀ n, ∃ q : Nat × Nat, n < 26 → (strW n).eval #[Value.ref b] s none [] s = some (.ref q.1) ∧ va_O "java/lang/String" q.1 (fun q => s.heap.size ≤ q) s s.heap ∧ va_OF "java/lang/String" "value" "[B" (.ref q.2) q.1 (fun q => s.heap.size ≤ q) s s.heap ∧ va_OF "java/lang/String" "coder" "B" (.int 0) q.1 (fun q => s.heap.size ≤ q) s s.heap ∧ va_T .byte q.2 (slen (strE n).2.2.2) (fun j => .int (sbyt (strE n).2.2.2 j)) (fun q => s.heap.size ≤ q) s s.heap := by
    intro n
    by_cases hn : n < 26
    · obtain ⟨f1, f2, f3, f4⟩ := str_f0 n hn
      obtain ⟨q, hq⟩ := k_str (f := fun j => sbyt (strE n).2.2.2 j) (by have := (str_f4 n hn).2; omega) (hf _ _ f1) (hf _ _ f2) (hf _ _ f3) (hf _ _ f4) (fun j hj => hf _ _ (str_f1 n hn j hj)) hA
      exact ⟨q, fun _ => hq⟩
    · exact ⟨(0, 0), fun h => absurd h hn⟩
  obtain ⟨ad, had⟩ := Classical.axiomOfChoice hstr
  obtain ⟨t, ht, hT⟩ := va_Tof (tm := .static RX10 "STRAIGHT" "[I") (N := 24) (f := fun j => .int (stL.getD j 0)) (A := fun q => s.heap.size ≤ q) (by decide) (hf _ _ st_f0.1) (va_eqt (hf _ _ st_f0.2)) (fun j hj => va_eqt (hf _ _ (st_f1 j hj))) hA
  have hz := va_Zqof (A := fun q => s.heap.size ≤ q) (hts _ (in_t (i := 674) (by decide +kernel))) (hts _ (in_t (i := 19) (by decide +kernel))) (hf _ _ st_f2.2) hA
  obtain ⟨z, hz, hz2⟩ : ∃ z : Value, va_Z "jdk/internal/util/Preconditions" "SIOOBE_FORMATTER" "Ljava/util/function/BiFunction;" z (fun q => s.heap.size ≤ q) s s.heap ∧ (z = .null ∨ ∃ t : Nat, z = .ref t) := by
    rcases hz with h | ⟨t, h⟩
    · exact ⟨_, h, Or.inl rfl⟩
    · exact ⟨_, h, Or.inr ⟨t, rfl⟩⟩
  refine ⟨fun n => (ad n).1, fun n => (ad n).2, t, z, fun D a c l => ⟨fun q hq => ?_, fun q hq => ?_, fun i hi => ?_, ⟨va_Zref (hts _ (in_t (i := 1040) (by decide +kernel))) (hts _ (in_t (i := 7) (by decide +kernel))) ht hA, hT⟩, va_Zof (hts _ (in_t (i := 658) (by decide +kernel))) (hts _ (in_t (i := 17) (by decide +kernel))) (va_eqi (hf _ _ st_f2.1)) hA, ⟨hz, hz2⟩, hX, hbl, hA b hbl⟩⟩
  · obtain ⟨n, hn⟩ := List.getElem?_of_mem hq
    have hlt : n < 2 := (List.getElem?_eq_some_iff.mp hn).1
    have := nl_f n hlt
    rw [hn] at this
    exact va_Nw.of rfl (hts _ (in_t this))
  · obtain ⟨n, hn⟩ := List.getElem?_of_mem hq
    have hlt : n < 26 := (List.getElem?_eq_some_iff.mp hn).1
    have he : strE n = q := by
      unfold strE
      rw [List.getD_eq_getElem?_getD, hn]
      rfl
    have hw := str_f3 n hlt
    have hev := (had n hlt).1
    have key : (strW n).eval #[Value.ref b] s none [] s = some (.ref (ad (strE n).2.2.2).1) := by
      rcases Nat.lt_or_ge n 22 with h | h
      · rw [str_f5 n h]; exact hev
      · have h2 := str_f2 (n - 22) (by omega)
        rw [show 22 + (n - 22) = n by omega] at h2
        have h3 := (had _ (Nat.lt_trans (str_f4 n hlt).1 (by decide))).1
        rw [k_eqr (hf _ _ h2) h3 hev]
        exact hev
    rw [← he]
    exact vk_R.of (hts _ (in_t hw)) key
  · have := (had i (Nat.lt_trans hi (by decide))).2
    rw [str_f5 i hi] at this
    exact this
theorem kc_start (hts : ∀ w ∈ lw_tbl, w.before #[Value.ref b] s = true) : Kc s := by
  refine ⟨fun q hq => ?_, va_AO.of (hts (.arrayOver (.object RX9)) (in_t (i := 293) (by decide +kernel)))⟩
  obtain ⟨n, hn⟩ := List.getElem?_of_mem hq
  have hlt : n < 11 := (List.getElem?_eq_some_iff.mp hn).1
  have := ni_f n hlt
  rw [hn] at this
  exact va_Nw.of rfl (hts _ (in_t this))
end CONST
