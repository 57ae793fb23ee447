/-! printed: the law up to its loop -/
theorem eL_law_0 : DD (mc uL_law) 0 (.new 7) 3 3 := ⟨by decide +kernel, rfl⟩
theorem eL_law_3 : DD (mc uL_law) 3 (.dup) 1 4 := ⟨by decide +kernel, rfl⟩
theorem eL_law_4 : DD (mc uL_law) 4 (.invokespecial 9) 3 7 := ⟨by decide +kernel, rfl⟩
theorem eL_law_7 : DD (mc uL_law) 7 (.astore_n 1) 1 8 := ⟨by decide +kernel, rfl⟩
theorem eL_law_8 : DD (mc uL_law) 8 (.new 10) 3 11 := ⟨by decide +kernel, rfl⟩
theorem eL_law_11 : DD (mc uL_law) 11 (.dup) 1 12 := ⟨by decide +kernel, rfl⟩
theorem eL_law_12 : DD (mc uL_law) 12 (.invokespecial 12) 3 15 := ⟨by decide +kernel, rfl⟩
theorem eL_law_15 : DD (mc uL_law) 15 (.astore_n 2) 1 16 := ⟨by decide +kernel, rfl⟩
theorem eL_law_16 : DD (mc uL_law) 16 (.iconst 0) 1 17 := ⟨by decide +kernel, rfl⟩
theorem eL_law_17 : DD (mc uL_law) 17 (.istore_n 3) 1 18 := ⟨by decide +kernel, rfl⟩
theorem kcL_1 : Cond.classLink RL 7 RX11 ∈ tb := tbs1 22 rfl rfl
theorem kcL_2 : Cond.classLink RL 10 RX12 ∈ tb := tbs5 146 rfl rfl
theorem kmL_1 : Cond.methodLink RL 9 (my uX11_init) ∈ tb := tbs1 24 rfl rfl
theorem kmL_2 : Cond.methodLink RL 12 (my uX12_init) ∈ tb := tbs5 148 rfl rfl
set_option maxRecDepth 100000 in
set_option maxHeartbeats 4000000 in
theorem law_Y {g : G} {N0 : Nat} (C0 : Nat → va_E) : Y g N0 uL_law 60 0 18 [.ref (gb g), .ref (ga g 0), .ref (ga g 198), .int 0] 235 (ent g M0) 23935 0 [.ref (gb g), .null, .null, .null] [] 0 C0 0 := by
  refine y_new (q := 0) (i' := 1) (z' := 9) clX11 kcL_1 blX11 eL_law_0 rfl rfl rfl (by decide) (by decide) ?_
  refine y_dup eL_law_3 rfl ?_
  refine y_callI (q := 0) (i' := 198) (z' := 6144) (na := 0) (As := []) (rest := [.ref (ga g 0)]) ctX11_0 (by decide) okX11_init rfl rfl kmL_1 kiX11_init kpX11_init rfl (Nat.le_of_ble_eq_true rfl) eL_law_4 rfl rfl rfl rfl (by decide) (by decide) upE_s ?_
  refine y_astore_n (l' := [.ref (gb g), .ref (ga g 0), .null, .null]) eL_law_7 rfl (by decide) rfl rfl ?_
  refine y_new (q := 198) (i' := 199) (z' := 6206) clX12 kcL_2 blX12 eL_law_8 rfl rfl rfl (by decide) (by decide) ?_
  refine y_dup eL_law_11 rfl ?_
  refine y_callI (q := 198) (i' := 235) (z' := 23935) (na := 0) (As := []) (rest := [.ref (ga g 198)]) ctX12_198 (by decide) okX12_init rfl rfl kmL_2 kiX12_init kpX12_init rfl (Nat.le_of_ble_eq_true rfl) eL_law_12 rfl rfl rfl rfl (by decide) (by decide) upE_s ?_
  refine y_astore_n (l' := [.ref (gb g), .ref (ga g 0), .ref (ga g 198), .null]) eL_law_15 rfl (by decide) rfl rfl ?_
  refine y_iconst (v := 0) (by decide) eL_law_16 ?_
  refine y_istore_n (l' := [.ref (gb g), .ref (ga g 0), .ref (ga g 198), .int 0]) eL_law_17 rfl (by decide) rfl rfl ?_
  refine yEnd ⟨Or.inr rfl, Or.inr rfl, Or.inr rfl, Or.inr rfl, trivial⟩ (fun j hj => ?_)
  unfold fin
  by_cases h : 198 ≤ j
  · rw [if_pos ⟨h, hj⟩]
  · rw [if_neg (fun q => h q.1), upE_o (by omega), if_pos ⟨Nat.zero_le _, by omega⟩]
section KNOWN
variable {s : State} {b : Nat}
theorem known (htb : ∀ w ∈ tb, w.before #[Value.ref b] s = true) : ∃ D : va_G, ∀ (c : Nat) (q : vw_C), vwCl[c]? = some q → u_Kn s q.1 q.2.1 q.2.2 (D.1 c) (D.2 c) := by
  have h0 : ∀ c : Nat, ∃ p : ClassId × (Nat → Nat), ∀ q : vw_C, vwCl[c]? = some q → u_Kn s q.1 q.2.1 q.2.2 p.1 p.2 := by
    intro c
    match c with
    | 0 => obtain ⟨a, c, h⟩ := u_known htb clX0.2.1 (htb _ clX0.2.2.2.2.1); exact ⟨(a, c), fun q hq => by
        have e := Option.some.inj (clX0.1.symm.trans hq)
        subst e
        exact h⟩
    | 1 => obtain ⟨a, c, h⟩ := u_known htb clX1.2.1 (htb _ clX1.2.2.2.2.1); exact ⟨(a, c), fun q hq => by
        have e := Option.some.inj (clX1.1.symm.trans hq)
        subst e
        exact h⟩
    | 2 => obtain ⟨a, c, h⟩ := u_known htb clX2.2.1 (htb _ clX2.2.2.2.2.1); exact ⟨(a, c), fun q hq => by
        have e := Option.some.inj (clX2.1.symm.trans hq)
        subst e
        exact h⟩
    | 3 => obtain ⟨a, c, h⟩ := u_known htb clX3.2.1 (htb _ clX3.2.2.2.2.1); exact ⟨(a, c), fun q hq => by
        have e := Option.some.inj (clX3.1.symm.trans hq)
        subst e
        exact h⟩
    | 4 => obtain ⟨a, c, h⟩ := u_known htb clX4.2.1 (htb _ clX4.2.2.2.2.1); exact ⟨(a, c), fun q hq => by
        have e := Option.some.inj (clX4.1.symm.trans hq)
        subst e
        exact h⟩
    | 5 => obtain ⟨a, c, h⟩ := u_known htb clX5.2.1 (htb _ clX5.2.2.2.2.1); exact ⟨(a, c), fun q hq => by
        have e := Option.some.inj (clX5.1.symm.trans hq)
        subst e
        exact h⟩
    | 6 => obtain ⟨a, c, h⟩ := u_known htb clX6.2.1 (htb _ clX6.2.2.2.2.1); exact ⟨(a, c), fun q hq => by
        have e := Option.some.inj (clX6.1.symm.trans hq)
        subst e
        exact h⟩
    | 7 => obtain ⟨a, c, h⟩ := u_known htb clX7.2.1 (htb _ clX7.2.2.2.2.1); exact ⟨(a, c), fun q hq => by
        have e := Option.some.inj (clX7.1.symm.trans hq)
        subst e
        exact h⟩
    | 8 => obtain ⟨a, c, h⟩ := u_known htb clX8.2.1 (htb _ clX8.2.2.2.2.1); exact ⟨(a, c), fun q hq => by
        have e := Option.some.inj (clX8.1.symm.trans hq)
        subst e
        exact h⟩
    | 9 => obtain ⟨a, c, h⟩ := u_known htb clX9.2.1 (htb _ clX9.2.2.2.2.1); exact ⟨(a, c), fun q hq => by
        have e := Option.some.inj (clX9.1.symm.trans hq)
        subst e
        exact h⟩
    | 10 => obtain ⟨a, c, h⟩ := u_known htb clX10.2.1 (htb _ clX10.2.2.2.2.1); exact ⟨(a, c), fun q hq => by
        have e := Option.some.inj (clX10.1.symm.trans hq)
        subst e
        exact h⟩
    | 11 => obtain ⟨a, c, h⟩ := u_known htb clX11.2.1 (htb _ clX11.2.2.2.2.1); exact ⟨(a, c), fun q hq => by
        have e := Option.some.inj (clX11.1.symm.trans hq)
        subst e
        exact h⟩
    | 12 => obtain ⟨a, c, h⟩ := u_known htb clX12.2.1 (htb _ clX12.2.2.2.2.1); exact ⟨(a, c), fun q hq => by
        have e := Option.some.inj (clX12.1.symm.trans hq)
        subst e
        exact h⟩
    | c + 13 => exact ⟨(0, fun _ => 0), fun q hq => by
        have h := (List.getElem?_eq_some_iff.mp hq).1
        exact absurd h (by show ¬ (c + 13 < 13); omega)⟩
  obtain ⟨f, hf⟩ := Classical.axiomOfChoice h0
  exact ⟨(fun c => (f c).1, fun c => (f c).2), hf⟩
theorem arrs (htb : ∀ w ∈ tb, w.before #[Value.ref b] s = true) (hts : ∀ w ∈ lw_tbl, w.before #[Value.ref b] s = true) : ∃ cc : Nat → ClassId, ∀ (k : Nat) (q : ClassId × FieldType), ([(cc 0, .int), (cc 1, .byte), (cc 2, .boolean), (cc 3, .object RX9)] : List (ClassId × FieldType))[k]? = some q → ArrOfT s q.1 q.2 ∧ va_RA s q.1 q.2 := by
  obtain ⟨c0, k0, m0, a1, a2, a3⟩ := Cond.arrayClass_spec (htb _ k_arr_int)
  obtain ⟨c1, k1, m1, b1, b2, b3⟩ := Cond.arrayClass_spec (htb _ k_arr_byte)
  obtain ⟨c2, k2, m2, d1, d2, d3⟩ := Cond.arrayClass_spec (htb _ k_arr_boolean)
  obtain ⟨m3, c3, k3, f1, f2, f3, f4, f5⟩ := Cond.arrayOver_spec ((kc_start hts).2)
  refine ⟨fun k => if k = 0 then c0 else if k = 1 then c1 else if k = 2 then c2 else c3, fun k q hq => ?_⟩
  match k, hq with
  | 0, hq => cases hq; exact ⟨fun n z => ⟨fun k h => (by cases h), k0, a2, m0, a3⟩, a1⟩
  | 1, hq => cases hq; exact ⟨fun n z => ⟨fun k h => (by cases h), k1, b2, m1, b3⟩, b1⟩
  | 2, hq => cases hq; exact ⟨fun n z => ⟨fun k h => (by cases h), k2, d2, m2, d3⟩, d1⟩
  | 3, hq => cases hq; exact ⟨fun n z => ⟨fun k h => (by cases h), k3, f3, m3, f4⟩, k3, m3, f3, f4, f1, f5⟩
  | k + 4, hq => simp at hq
end KNOWN
