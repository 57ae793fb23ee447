set_option maxHeartbeats 4000000 in
set_option maxRecDepth 100000 in
theorem vX12_thinks_L2 {g : G}       : ∀ (n : Nat) (y1 : Int32) (M : Mem), V g uX12_thinks 1 rvU rmU 2 [.ref (ga g 198), .int y1] [] M (fX12_thinks_L2 n y1 M) := by
  intro n
  induction n with
  | zero => intro y1 M; exact vNone
  | succ n ih =>
    intro y1 M
    rw [fX12_thinks_L2]
    refine r_iload_n dX12_thinks_2 rfl rfl ?_
    refine r_bipush bp_83 dX12_thinks_3 ?_
    refine r_icmp_ge dX12_thinks_5 (fun h => eT h ?_) (fun h => eF h ?_)
    · refine r_aload_n dX12_thinks_26 rfl rfl ?_
      refine r_iconst ic_1 dX12_thinks_27 ?_
      refine r_putL dX12_thinks_28 fw_X12_128 kdc_198 rfl rfl (fun M1 => ?_)
      exact vRet rfl rfl trivial dX12_thinks_31
    · refine r_aload_n dX12_thinks_8 rfl rfl ?_
      refine r_getR (k' := 201) dX12_thinks_9 fl_X12_16 kdc_198 rfl ?_
      refine r_iload_n dX12_thinks_12 rfl rfl ?_
      refine r_aload_n dX12_thinks_13 rfl rfl ?_
      refine r_getR (k' := 199) dX12_thinks_14 fl_X12_7 kdc_198 rfl ?_
      refine r_iload_n dX12_thinks_17 rfl rfl ?_
      refine r_iald dX12_thinks_18 kdc_199 (fun v2 => ?_)
      refine r_iast dX12_thinks_19 kdc_201 (fun M3 => ?_)
      refine r_iinc (l' := [.ref (ga g 198), .int (y1 + 1)]) dX12_thinks_20 rfl (inc_1 _) (Nat.le_of_ble_eq_true rfl) rfl rfl ?_
      refine r_goto dX12_thinks_23 ?_
      exact ih _ _
set_option maxHeartbeats 4000000 in
set_option maxRecDepth 100000 in
theorem vX12_thinks {g : G}    (M : Mem) : V g uX12_thinks 1 rvU rmU 0 [.ref (ga g 198), .null] [] M (fX12_thinks M) := by
  unfold fX12_thinks
  refine r_iconst ic_0 dX12_thinks_0 ?_
  refine r_istore_n (l' := [.ref (ga g 198), .int 0]) dX12_thinks_1 rfl (Nat.le_of_ble_eq_true rfl) rfl rfl ?_
  refine vX12_thinks_L2  FU _ _
theorem kX12_thinks {g : G}    (M : Mem) : CtrV g uX12_thinks 1 rmU [.ref (ga g 198)] M (fX12_thinks M) := CtrV.of mX12_thinks rfl (Nat.le_of_ble_eq_true rfl) rfl (vX12_thinks M)
set_option maxHeartbeats 4000000 in
set_option maxRecDepth 100000 in
theorem vX12_setThatIs_L4 {g : G}   (z1 : Int32)  (M : Mem)   : ∀ (n : Nat) (y2 : Int32) (y3 : Int32), V g uX12_setThatIs 1 rvI (rmP M) 4 [.ref (ga g 198), .int z1, .int y2, .int y3] [] M (fX12_setThatIs_L4 z1 M n y2 y3) := by
  intro n
  induction n with
  | zero => intro y2 y3; exact vNone
  | succ n ih =>
    intro y2 y3
    rw [fX12_setThatIs_L4]
    refine r_iload_n dX12_setThatIs_4 rfl rfl ?_
    refine r_aload_n dX12_setThatIs_5 rfl rfl ?_
    refine r_getI dX12_setThatIs_6 fl_X12_137 kdc_198 ?_
    refine r_icmp_ge dX12_setThatIs_9 (fun h => eT h ?_) (fun h => eF h ?_)
    · refine r_iload_n dX12_setThatIs_37 rfl rfl ?_
      exact vRet rfl rfl rfl dX12_setThatIs_38
    · refine r_aload_n dX12_setThatIs_12 rfl rfl ?_
      refine r_getR (k' := 199) dX12_setThatIs_13 fl_X12_7 kdc_198 rfl ?_
      refine r_bipush bp_69 dX12_setThatIs_16 ?_
      refine r_iload_n dX12_setThatIs_18 rfl rfl ?_
      refine r_iadd dX12_setThatIs_19 ?_
      refine r_iald dX12_setThatIs_20 kdc_199 (fun v1 => ?_)
      refine r_iload_n dX12_setThatIs_21 rfl rfl ?_
      refine eJ (fun (J2 : (Int32) → Option (Int32)) => ∀ (a3 : Int32), V g uX12_setThatIs 1 rvI (rmP M) 31 [.ref (ga g 198), .int z1, .int a3, .int y3] [] M (J2 a3)) (fun a3 => ?_) (fun J2 hJ2 => ?_)
      · refine r_iinc (l' := [.ref (ga g 198), .int z1, .int a3, .int (y3 + 1)]) dX12_setThatIs_31 rfl (inc_1 _) (Nat.le_of_ble_eq_true rfl) rfl rfl ?_
        refine r_goto dX12_setThatIs_34 ?_
        exact ih _ _
      · refine r_icmp_ne dX12_setThatIs_22 (fun h => eF h ?_) (fun h => eT h ?_)
        · exact hJ2 _
        · refine r_iload_n dX12_setThatIs_25 rfl rfl ?_
          refine r_iconst ic_1 dX12_setThatIs_26 ?_
          refine r_iload_n dX12_setThatIs_27 rfl rfl ?_
          refine r_ishl dX12_setThatIs_28 ?_
          refine r_ior dX12_setThatIs_29 ?_
          refine r_bndi (fun x4 => ?_)
          refine r_istore_n (l' := [.ref (ga g 198), .int z1, .int x4, .int y3]) dX12_setThatIs_30 rfl (Nat.le_of_ble_eq_true rfl) rfl rfl ?_
          exact hJ2 _
set_option maxHeartbeats 4000000 in
set_option maxRecDepth 100000 in
theorem vX12_setThatIs {g : G}   (p1 : Int32) (M : Mem) : V g uX12_setThatIs 1 rvI (rmP M) 0 [.ref (ga g 198), .int p1, .null, .null] [] M (fX12_setThatIs p1 M) := by
  unfold fX12_setThatIs
  refine r_iconst ic_0 dX12_setThatIs_0 ?_
  refine r_istore_n (l' := [.ref (ga g 198), .int p1, .int 0, .null]) dX12_setThatIs_1 rfl (Nat.le_of_ble_eq_true rfl) rfl rfl ?_
  refine r_iconst ic_0 dX12_setThatIs_2 ?_
  refine r_istore_n (l' := [.ref (ga g 198), .int p1, .int 0, .int 0]) dX12_setThatIs_3 rfl (Nat.le_of_ble_eq_true rfl) rfl rfl ?_
  refine vX12_setThatIs_L4 _ _ FU _ _
theorem kX12_setThatIs {g : G}   (p1 : Int32) (M : Mem) : CtrI g uX12_setThatIs 1 (fun r => r) (rmP M) [.ref (ga g 198), .int p1] M (fX12_setThatIs p1 M) := CtrI.of mX12_setThatIs rfl (Nat.le_of_ble_eq_true rfl) rfl (vX12_setThatIs p1 M)
set_option maxHeartbeats 4000000 in
set_option maxRecDepth 100000 in
theorem vX12_sumOf_L5 {g : G}   (z1 : Int32) (z2 : Int32)  (M : Mem)   : ∀ (n : Nat) (y3 : Int32) (y4 : Int32), V g uX12_sumOf 1 rvI (rmP M) 5 [.ref (ga g 198), .int z1, .int z2, .int y3, .int y4] [] M (fX12_sumOf_L5 z1 z2 M n y3 y4) := by
  intro n
  induction n with
  | zero => intro y3 y4; exact vNone
  | succ n ih =>
    intro y3 y4
    rw [fX12_sumOf_L5]
    refine r_iload dX12_sumOf_5 rfl ?_
    refine r_iload_n dX12_sumOf_7 rfl rfl ?_
    refine r_icmp_ge dX12_sumOf_8 (fun h => eT h ?_) (fun h => eF h ?_)
    · refine r_iload_n dX12_sumOf_29 rfl rfl ?_
      exact vRet rfl rfl rfl dX12_sumOf_30
    · refine r_iload_n dX12_sumOf_11 rfl rfl ?_
      refine r_aload_n dX12_sumOf_12 rfl rfl ?_
      refine r_getR (k' := 199) dX12_sumOf_13 fl_X12_7 kdc_198 rfl ?_
      refine r_iload_n dX12_sumOf_16 rfl rfl ?_
      refine r_iload dX12_sumOf_17 rfl ?_
      refine r_iadd dX12_sumOf_19 ?_
      refine r_iald dX12_sumOf_20 kdc_199 (fun v1 => ?_)
      refine r_iadd dX12_sumOf_21 ?_
      refine r_bndi (fun x2 => ?_)
      refine r_istore_n (l' := [.ref (ga g 198), .int z1, .int z2, .int x2, .int y4]) dX12_sumOf_22 rfl (Nat.le_of_ble_eq_true rfl) rfl rfl ?_
      refine r_iinc (l' := [.ref (ga g 198), .int z1, .int z2, .int x2, .int (y4 + 1)]) dX12_sumOf_23 rfl (inc_1 _) (Nat.le_of_ble_eq_true rfl) rfl rfl ?_
      refine r_goto dX12_sumOf_26 ?_
      exact ih _ _
set_option maxHeartbeats 4000000 in
set_option maxRecDepth 100000 in
theorem vX12_sumOf {g : G}   (p1 : Int32) (p2 : Int32) (M : Mem) : V g uX12_sumOf 1 rvI (rmP M) 0 [.ref (ga g 198), .int p1, .int p2, .null, .null] [] M (fX12_sumOf p1 p2 M) := by
  unfold fX12_sumOf
  refine r_iconst ic_0 dX12_sumOf_0 ?_
  refine r_istore_n (l' := [.ref (ga g 198), .int p1, .int p2, .int 0, .null]) dX12_sumOf_1 rfl (Nat.le_of_ble_eq_true rfl) rfl rfl ?_
  refine r_iconst ic_0 dX12_sumOf_2 ?_
  refine r_istore (l' := [.ref (ga g 198), .int p1, .int p2, .int 0, .int 0]) dX12_sumOf_3 (Nat.le_of_ble_eq_true rfl) rfl rfl ?_
  refine vX12_sumOf_L5 _ _ _ FU _ _
theorem kX12_sumOf {g : G}   (p1 : Int32) (p2 : Int32) (M : Mem) : CtrI g uX12_sumOf 1 (fun r => r) (rmP M) [.ref (ga g 198), .int p1, .int p2] M (fX12_sumOf p1 p2 M) := CtrI.of mX12_sumOf rfl (Nat.le_of_ble_eq_true rfl) rfl (vX12_sumOf p1 p2 M)
set_option maxHeartbeats 4000000 in
set_option maxRecDepth 100000 in
theorem vX12_endsThought_L2 {g : G}       : ∀ (n : Nat) (y1 : Int32) (M : Mem), V g uX12_endsThought 1 rvU rmU 2 [.ref (ga g 198), .int y1] [] M (fX12_endsThought_L2 n y1 M) := by
  intro n
  induction n with
  | zero => intro y1 M; exact vNone
  | succ n ih =>
    intro y1 M
    rw [fX12_endsThought_L2]
    refine r_iload_n dX12_endsThought_2 rfl rfl ?_
    refine r_bipush bp_83 dX12_endsThought_3 ?_
    refine r_icmp_ge dX12_endsThought_5 (fun h => eT h ?_) (fun h => eF h ?_)
    · refine r_aload_n dX12_endsThought_26 rfl rfl ?_
      refine r_iconst ic_0 dX12_endsThought_27 ?_
      refine r_putL dX12_endsThought_28 fw_X12_128 kdc_198 rfl rfl (fun M1 => ?_)
      exact vRet rfl rfl trivial dX12_endsThought_31
    · refine r_aload_n dX12_endsThought_8 rfl rfl ?_
      refine r_getR (k' := 199) dX12_endsThought_9 fl_X12_7 kdc_198 rfl ?_
      refine r_iload_n dX12_endsThought_12 rfl rfl ?_
      refine r_aload_n dX12_endsThought_13 rfl rfl ?_
      refine r_getR (k' := 201) dX12_endsThought_14 fl_X12_16 kdc_198 rfl ?_
      refine r_iload_n dX12_endsThought_17 rfl rfl ?_
      refine r_iald dX12_endsThought_18 kdc_201 (fun v2 => ?_)
      refine r_iast dX12_endsThought_19 kdc_199 (fun M3 => ?_)
      refine r_iinc (l' := [.ref (ga g 198), .int (y1 + 1)]) dX12_endsThought_20 rfl (inc_1 _) (Nat.le_of_ble_eq_true rfl) rfl rfl ?_
      refine r_goto dX12_endsThought_23 ?_
      exact ih _ _
set_option maxHeartbeats 4000000 in
set_option maxRecDepth 100000 in
theorem vX12_endsThought {g : G}    (M : Mem) : V g uX12_endsThought 1 rvU rmU 0 [.ref (ga g 198), .null] [] M (fX12_endsThought M) := by
  unfold fX12_endsThought
  refine r_iconst ic_0 dX12_endsThought_0 ?_
  refine r_istore_n (l' := [.ref (ga g 198), .int 0]) dX12_endsThought_1 rfl (Nat.le_of_ble_eq_true rfl) rfl rfl ?_
  refine vX12_endsThought_L2  FU _ _
theorem kX12_endsThought {g : G}    (M : Mem) : CtrV g uX12_endsThought 1 rmU [.ref (ga g 198)] M (fX12_endsThought M) := CtrV.of mX12_endsThought rfl (Nat.le_of_ble_eq_true rfl) rfl (vX12_endsThought M)
set_option maxHeartbeats 4000000 in
set_option maxRecDepth 100000 in
theorem vX12_goes_L34 {g : G}  (K50 : Mem → Option (Int32 × Mem)) (z1 : Int32) (c2 : Int32)  (hK50 : ∀ (M : Mem), V g uX12_goes 8 rvW rmW 50 [.ref (ga g 198), .null, .int c2, .null] [] M (K50 M)) : ∀ (n : Nat) (y3 : Int32) (M : Mem), V g uX12_goes 8 rvW rmW 34 [.ref (ga g 198), .int z1, .int c2, .int y3] [] M (fX12_goes_L34 K50 z1 n y3 M) := by
  intro n
  induction n with
  | zero => intro y3 M; exact vNone
  | succ n ih =>
    intro y3 M
    rw [fX12_goes_L34]
    refine r_iload_n dX12_goes_34 rfl rfl ?_
    refine r_iload_n dX12_goes_35 rfl rfl ?_
    refine r_icmp_ge dX12_goes_36 (fun h => eT h ?_) (fun h => eF h ?_)
    · exact vSub (l' := [.ref (ga g 198), .null, .int c2, .null]) ⟨Or.inr rfl, ⟨Or.inl rfl, ⟨Or.inr rfl, ⟨Or.inl rfl, trivial⟩⟩⟩⟩ (hK50 _)
    · refine r_aload_n dX12_goes_39 rfl rfl ?_
      refine r_calli (cl_V [] bX12_goesBy (by decide) dX12_goes_40 ml_X12_376 kdc_198 rfl (Nat.le_of_ble_eq_true rfl) rfl) (kX12_goesBy _) (fun r3 _ => ?_)
      refine r_pop dX12_goes_43 rfl ?_
      refine r_iinc (l' := [.ref (ga g 198), .int z1, .int c2, .int (y3 + 1)]) dX12_goes_44 rfl (inc_1 _) (Nat.le_of_ble_eq_true rfl) rfl rfl ?_
      refine r_goto dX12_goes_47 ?_
      exact ih _ _
set_option maxHeartbeats 4000000 in
set_option maxRecDepth 100000 in
theorem vX12_goes {g : G}   (p1 : Int32) (p2 : Int32) (M : Mem) : V g uX12_goes 8 rvW rmW 0 [.ref (ga g 198), .int p1, .int p2, .null] [] M (fX12_goes p1 p2 M) := by
  unfold fX12_goes
  refine r_aload_n dX12_goes_0 rfl rfl ?_
  refine r_iconst ic_0 dX12_goes_1 ?_
  refine r_put dX12_goes_2 fw_X12_122 kdc_198 (fun M1 => ?_)
  refine r_aload_n dX12_goes_5 rfl rfl ?_
  refine r_iload_n dX12_goes_6 rfl rfl ?_
  refine r_iconst ic_1 dX12_goes_7 ?_
  refine r_bipush bp_60 dX12_goes_8 ?_
  refine r_calliT (cl_V [.int p1, .int 1, .int 60] bX12_isIn (by decide) dX12_goes_10 ml_X12_140 kdc_198 rfl (Nat.le_of_ble_eq_true rfl) rfl) (kX12_isIn _ _ _ _) ?_
  refine r_if_eq dX12_goes_13 (fun h => eT h ?_) (fun h => eF h ?_)
  · refine r_iconst ic_m1 dX12_goes_26 ?_
    exact vRet rfl rfl rfl dX12_goes_27
  · refine r_aload_n dX12_goes_16 rfl rfl ?_
    refine r_iload_n dX12_goes_17 rfl rfl ?_
    refine r_iconst ic_0 dX12_goes_18 ?_
    refine r_iconst ic_3 dX12_goes_19 ?_
    refine r_calliT (cl_V [.int p2, .int 0, .int 3] bX12_isIn (by decide) dX12_goes_20 ml_X12_140 kdc_198 rfl (Nat.le_of_ble_eq_true rfl) rfl) (kX12_isIn _ _ _ _) ?_
    refine r_if_ne dX12_goes_23 (fun h => eF h ?_) (fun h => eT h ?_)
    · refine r_aload_n dX12_goes_28 rfl rfl ?_
      refine r_callv (cl_V [] bX12_thinks (by decide) dX12_goes_29 ml_X12_382 kdc_198 rfl (Nat.le_of_ble_eq_true rfl) rfl) (kX12_thinks _) (fun M2 _ => ?_)
      refine r_iconst ic_0 dX12_goes_32 ?_
      refine r_istore_n (l' := [.ref (ga g 198), .int p1, .int p2, .int 0]) dX12_goes_33 rfl (Nat.le_of_ble_eq_true rfl) rfl rfl ?_
      refine vX12_goes_L34 _ _ _ (fun M4 => ?_) FU _ _
      · refine r_iload_n dX12_goes_50 rfl rfl ?_
        refine eJ (fun (J5 : (Int32) → Option (Int32 × Mem)) => ∀ (t6 : Int32), V g uX12_goes 8 rvW rmW 111 [.ref (ga g 198), .null, .null, .null] [.int t6] M4 (J5 t6)) (fun t6 => ?_) (fun J5 hJ5 => ?_)
        · refine r_istore_n (l' := [.ref (ga g 198), .null, .null, .int t6]) dX12_goes_111 rfl (Nat.le_of_ble_eq_true rfl) rfl rfl ?_
          refine r_aload_n dX12_goes_112 rfl rfl ?_
          refine r_callv (cl_V [] bX12_endsThought (by decide) dX12_goes_113 ml_X12_391 kdc_198 rfl (Nat.le_of_ble_eq_true rfl) rfl) (kX12_endsThought _) (fun M7 _ => ?_)
          refine r_iload_n dX12_goes_116 rfl rfl ?_
          exact vRet rfl rfl rfl dX12_goes_117
        · refine r_if_ne dX12_goes_51 (fun h => eF h ?_) (fun h => eT h ?_)
          · refine r_iload_n dX12_goes_66 rfl rfl ?_
            refine r_iconst ic_1 dX12_goes_67 ?_
            refine r_icmp_ne dX12_goes_68 (fun h => eF h ?_) (fun h => eT h ?_)
            · refine r_iload_n dX12_goes_84 rfl rfl ?_
              refine r_iconst ic_2 dX12_goes_85 ?_
              refine r_icmp_ne dX12_goes_86 (fun h => eF h ?_) (fun h => eT h ?_)
              · refine r_aload_n dX12_goes_101 rfl rfl ?_
                refine r_bipush bp_41 dX12_goes_102 ?_
                refine r_aload_n dX12_goes_104 rfl rfl ?_
                refine r_getI dX12_goes_105 fl_X12_137 kdc_198 ?_
                refine r_calli (cl_V [.int 41, .int (M4 198 7)] bX12_sumOf (by decide) dX12_goes_108 ml_X12_388 kdc_198 rfl (Nat.le_of_ble_eq_true rfl) rfl) (kX12_sumOf _ _ _) (fun v8 _ => ?_)
                exact vSub (l' := [.ref (ga g 198), .null, .null, .null]) ⟨Or.inr rfl, ⟨Or.inl rfl, ⟨Or.inl rfl, ⟨Or.inl rfl, trivial⟩⟩⟩⟩ (hJ5 _)
              · refine r_aload_n dX12_goes_89 rfl rfl ?_
                refine r_aload_n dX12_goes_90 rfl rfl ?_
                refine r_iconst ic_2 dX12_goes_91 ?_
                refine r_calli (cl_V [.int 2] bX12_setThatIs (by decide) dX12_goes_92 ml_X12_385 kdc_198 rfl (Nat.le_of_ble_eq_true rfl) rfl) (kX12_setThatIs _ _) (fun v9 _ => ?_)
                refine r_calli (cl_V [.int v9] bX12_onesOf (by decide) dX12_goes_95 ml_X12_311 kdc_198 rfl (Nat.le_of_ble_eq_true rfl) rfl) (kX12_onesOf _ _) (fun v10 _ => ?_)
                refine r_goto dX12_goes_98 ?_
                exact vSub (l' := [.ref (ga g 198), .null, .null, .null]) ⟨Or.inr rfl, ⟨Or.inl rfl, ⟨Or.inl rfl, ⟨Or.inl rfl, trivial⟩⟩⟩⟩ (hJ5 _)
            · refine r_aload_n dX12_goes_71 rfl rfl ?_
              refine r_bipush bp_29 dX12_goes_72 ?_
              refine r_aload_n dX12_goes_74 rfl rfl ?_
              refine r_getI dX12_goes_75 fl_X12_134 kdc_198 ?_
              refine r_calli (cl_V [.int 29, .int (M4 198 6)] bX12_sumOf (by decide) dX12_goes_78 ml_X12_388 kdc_198 rfl (Nat.le_of_ble_eq_true rfl) rfl) (kX12_sumOf _ _ _) (fun v11 _ => ?_)
              refine r_goto dX12_goes_81 ?_
              exact vSub (l' := [.ref (ga g 198), .null, .null, .null]) ⟨Or.inr rfl, ⟨Or.inl rfl, ⟨Or.inl rfl, ⟨Or.inl rfl, trivial⟩⟩⟩⟩ (hJ5 _)
          · refine r_aload_n dX12_goes_54 rfl rfl ?_
            refine r_aload_n dX12_goes_55 rfl rfl ?_
            refine r_iconst ic_1 dX12_goes_56 ?_
            refine r_calli (cl_V [.int 1] bX12_setThatIs (by decide) dX12_goes_57 ml_X12_385 kdc_198 rfl (Nat.le_of_ble_eq_true rfl) rfl) (kX12_setThatIs _ _) (fun v12 _ => ?_)
            refine r_calli (cl_V [.int v12] bX12_onesOf (by decide) dX12_goes_60 ml_X12_311 kdc_198 rfl (Nat.le_of_ble_eq_true rfl) rfl) (kX12_onesOf _ _) (fun v13 _ => ?_)
            refine r_goto dX12_goes_63 ?_
            exact vSub (l' := [.ref (ga g 198), .null, .null, .null]) ⟨Or.inr rfl, ⟨Or.inl rfl, ⟨Or.inl rfl, ⟨Or.inl rfl, trivial⟩⟩⟩⟩ (hJ5 _)
    · refine r_iconst ic_m1 dX12_goes_26 ?_
      exact vRet rfl rfl rfl dX12_goes_27
theorem kX12_goes {g : G}   (p1 : Int32) (p2 : Int32) (M : Mem) : CtrI g uX12_goes 8 (fun r => r.1) rmW [.ref (ga g 198), .int p1, .int p2] M (fX12_goes p1 p2 M) := CtrI.of mX12_goes rfl (Nat.le_of_ble_eq_true rfl) rfl (vX12_goes p1 p2 M)
set_option maxHeartbeats 4000000 in
set_option maxRecDepth 100000 in
theorem vX11_holds_L32 {g : G}   (z1 : Int32)    : ∀ (n : Nat) (y2 : Int32) (M : Mem), V g uX11_holds 7 rvW rmW 32 [.ref (ga g 0), .int z1, .int y2] [] M (fX11_holds_L32 z1 n y2 M) := by
  intro n
  induction n with
  | zero => intro y2 M; exact vNone
  | succ n ih =>
    intro y2 M
    rw [fX11_holds_L32]
    refine r_iload_n dX11_holds_32 rfl rfl ?_
    refine r_bipush bp_60 dX11_holds_33 ?_
    refine r_icmp_gt dX11_holds_35 (fun h => eT h ?_) (fun h => eF h ?_)
    · refine r_iconst ic_m1 dX11_holds_72 ?_
      exact vRet rfl rfl rfl dX11_holds_73
    · refine r_aload_n dX11_holds_38 rfl rfl ?_
      refine r_getR (k' := 168) dX11_holds_39 fl_X11_29 kdc_0 rfl ?_
      refine r_getR (k' := 177) dX11_holds_42 fl_X11_219 kdc_168 rfl ?_
      refine r_iload_n dX11_holds_45 rfl rfl ?_
      refine r_iald dX11_holds_46 kdc_177 (fun v2 => ?_)
      refine r_iconst ic_1 dX11_holds_47 ?_
      refine r_icmp_ne dX11_holds_48 (fun h => eF h ?_) (fun h => eT h ?_)
      · refine r_aload_n dX11_holds_53 rfl rfl ?_
        refine r_getR (k' := 1) dX11_holds_54 fl_X11_12 kdc_0 rfl ?_
        refine r_aload_n dX11_holds_57 rfl rfl ?_
        refine r_getR (k' := 168) dX11_holds_58 fl_X11_29 kdc_0 rfl ?_
        refine r_iconst ic_1 dX11_holds_61 ?_
        refine r_calli (cl_V [.ref (ga g 168), .int 1] bX0_goDay (by decide) dX11_holds_62 ml_X11_146 kdc_1 rfl (Nat.le_of_ble_eq_true rfl) rfl) (kX0_goDay kdc_168 _ _) (fun r3 _ => ?_)
        refine r_pop dX11_holds_65 rfl ?_
        refine r_iinc (l' := [.ref (ga g 0), .int z1, .int (y2 + 1)]) dX11_holds_66 rfl (inc_1 _) (Nat.le_of_ble_eq_true rfl) rfl rfl ?_
        refine r_goto dX11_holds_69 ?_
        exact ih _ _
      · refine r_iload_n dX11_holds_51 rfl rfl ?_
        exact vRet rfl rfl rfl dX11_holds_52
set_option maxHeartbeats 4000000 in
set_option maxRecDepth 100000 in
theorem vX11_holds {g : G}   (p1 : Int32) (M : Mem) : V g uX11_holds 7 rvW rmW 0 [.ref (ga g 0), .int p1, .null] [] M (fX11_holds p1 M) := by
  unfold fX11_holds
  refine r_aload_n dX11_holds_0 rfl rfl ?_
  refine r_getR (k' := 1) dX11_holds_1 fl_X11_12 kdc_0 rfl ?_
  refine r_getR (k' := 2) dX11_holds_4 fl_X11_61 kdc_1 rfl ?_
  refine r_iload_n dX11_holds_7 rfl rfl ?_
  refine r_calliT (cl_V [.int p1] bX9_hasBargain (by decide) dX11_holds_8 ml_X11_204 kdc_2 rfl (Nat.le_of_ble_eq_true rfl) rfl) (kX9_hasBargain kdc_2 _ _) ?_
  refine r_if_ne dX11_holds_11 (fun h => eF h ?_) (fun h => eT h ?_)
  · refine r_aload_n dX11_holds_16 rfl rfl ?_
    refine r_getR (k' := 168) dX11_holds_17 fl_X11_29 kdc_0 rfl ?_
    refine r_aload_n dX11_holds_20 rfl rfl ?_
    refine r_getR (k' := 1) dX11_holds_21 fl_X11_12 kdc_0 rfl ?_
    refine r_getR (k' := 2) dX11_holds_24 fl_X11_61 kdc_1 rfl ?_
    refine r_callv (cl_V [.ref (ga g 2)] bX9_copyFrom (by decide) dX11_holds_27 ml_X11_249 kdc_168 rfl (Nat.le_of_ble_eq_true rfl) rfl) (kX9_copyFrom kdc_168 kdc_2 _) (fun M1 _ => ?_)
    refine r_iconst ic_0 dX11_holds_30 ?_
    refine r_istore_n (l' := [.ref (ga g 0), .int p1, .int 0]) dX11_holds_31 rfl (Nat.le_of_ble_eq_true rfl) rfl rfl ?_
    refine vX11_holds_L32 _ FU _ _
  · refine r_iconst ic_m1 dX11_holds_14 ?_
    exact vRet rfl rfl rfl dX11_holds_15
theorem kX11_holds {g : G}   (p1 : Int32) (M : Mem) : CtrI g uX11_holds 7 (fun r => r.1) rmW [.ref (ga g 0), .int p1] M (fX11_holds p1 M) := CtrI.of mX11_holds rfl (Nat.le_of_ble_eq_true rfl) rfl (vX11_holds p1 M)
set_option maxHeartbeats 4000000 in
set_option maxRecDepth 100000 in
theorem vX12_holds_L21 {g : G}  (K52 : Int32 → Mem → Option (Int32 × Mem)) (z1 : Int32)   (hK52 : ∀ (e2 : Int32) (M : Mem), V g uX12_holds 8 rvW rmW 52 [.ref (ga g 198), .null, .int e2] [] M (K52 e2 M)) : ∀ (n : Nat) (y2 : Int32) (M : Mem), V g uX12_holds 8 rvW rmW 21 [.ref (ga g 198), .int z1, .int y2] [] M (fX12_holds_L21 K52 z1 n y2 M) := by
  intro n
  induction n with
  | zero => intro y2 M; exact vNone
  | succ n ih =>
    intro y2 M
    rw [fX12_holds_L21]
    refine r_iload_n dX12_holds_21 rfl rfl ?_
    refine r_bipush bp_60 dX12_holds_22 ?_
    refine r_icmp_gt dX12_holds_24 (fun h => eT h ?_) (fun h => eF h ?_)
    · exact vSub (l' := [.ref (ga g 198), .null, .int y2]) ⟨Or.inr rfl, ⟨Or.inl rfl, ⟨Or.inr rfl, trivial⟩⟩⟩ (hK52 _ _)
    · refine r_aload_n dX12_holds_27 rfl rfl ?_
      refine r_getR (k' := 199) dX12_holds_28 fl_X12_7 kdc_198 rfl ?_
      refine r_bipush bp_69 dX12_holds_31 ?_
      refine r_iload_n dX12_holds_33 rfl rfl ?_
      refine r_iadd dX12_holds_34 ?_
      refine r_iald dX12_holds_35 kdc_199 (fun v3 => ?_)
      refine r_iconst ic_1 dX12_holds_36 ?_
      refine r_icmp_eq dX12_holds_37 (fun h => eT h ?_) (fun h => eF h ?_)
      · exact vSub (l' := [.ref (ga g 198), .null, .int y2]) ⟨Or.inr rfl, ⟨Or.inl rfl, ⟨Or.inr rfl, trivial⟩⟩⟩ (hK52 _ _)
      · refine r_aload_n dX12_holds_40 rfl rfl ?_
        refine r_calli (cl_V [] bX12_goesBy (by decide) dX12_holds_41 ml_X12_376 kdc_198 rfl (Nat.le_of_ble_eq_true rfl) rfl) (kX12_goesBy _) (fun r4 _ => ?_)
        refine r_pop dX12_holds_44 rfl ?_
        refine r_iload_n dX12_holds_45 rfl rfl ?_
        refine r_iconst ic_1 dX12_holds_46 ?_
        refine r_iadd dX12_holds_47 ?_
        refine r_bndi (fun x5 => ?_)
        refine r_istore_n (l' := [.ref (ga g 198), .int z1, .int x5]) dX12_holds_48 rfl (Nat.le_of_ble_eq_true rfl) rfl rfl ?_
        refine r_goto dX12_holds_49 ?_
        exact ih _ _
set_option maxHeartbeats 4000000 in
set_option maxRecDepth 100000 in
theorem vX12_holds {g : G}   (p1 : Int32) (M : Mem) : V g uX12_holds 8 rvW rmW 0 [.ref (ga g 198), .int p1, .null] [] M (fX12_holds p1 M) := by
  unfold fX12_holds
  refine r_aload_n dX12_holds_0 rfl rfl ?_
  refine r_iconst ic_0 dX12_holds_1 ?_
  refine r_put dX12_holds_2 fw_X12_122 kdc_198 (fun M1 => ?_)
  refine r_aload_n dX12_holds_5 rfl rfl ?_
  refine r_iload_n dX12_holds_6 rfl rfl ?_
  refine r_calliT (cl_V [.int p1] bX12_isBargain (by decide) dX12_holds_7 ml_X12_148 kdc_198 rfl (Nat.le_of_ble_eq_true rfl) rfl) (kX12_isBargain _ _) ?_
  refine r_if_ne dX12_holds_10 (fun h => eF h ?_) (fun h => eT h ?_)
  · refine r_aload_n dX12_holds_15 rfl rfl ?_
    refine r_callv (cl_V [] bX12_thinks (by decide) dX12_holds_16 ml_X12_382 kdc_198 rfl (Nat.le_of_ble_eq_true rfl) rfl) (kX12_thinks _) (fun M2 _ => ?_)
    refine r_iconst ic_0 dX12_holds_19 ?_
    refine r_istore_n (l' := [.ref (ga g 198), .int p1, .int 0]) dX12_holds_20 rfl (Nat.le_of_ble_eq_true rfl) rfl rfl ?_
    refine vX12_holds_L21 _ _ (fun e6 M7 => ?_) FU _ _
    · refine r_aload_n dX12_holds_52 rfl rfl ?_
      refine r_callv (cl_V [] bX12_endsThought (by decide) dX12_holds_53 ml_X12_391 kdc_198 rfl (Nat.le_of_ble_eq_true rfl) rfl) (kX12_endsThought _) (fun M8 _ => ?_)
      refine r_iload_n dX12_holds_56 rfl rfl ?_
      refine r_bipush bp_60 dX12_holds_57 ?_
      refine r_icmp_le dX12_holds_59 (fun h => eT h ?_) (fun h => eF h ?_)
      · refine r_iload_n dX12_holds_66 rfl rfl ?_
        exact vRet rfl rfl rfl dX12_holds_67
      · refine r_iconst ic_m1 dX12_holds_62 ?_
        refine r_goto dX12_holds_63 ?_
        exact vRet rfl rfl rfl dX12_holds_67
  · refine r_iconst ic_m1 dX12_holds_13 ?_
    exact vRet rfl rfl rfl dX12_holds_14
theorem kX12_holds {g : G}   (p1 : Int32) (M : Mem) : CtrI g uX12_holds 8 (fun r => r.1) rmW [.ref (ga g 198), .int p1] M (fX12_holds p1 M) := CtrI.of mX12_holds rfl (Nat.le_of_ble_eq_true rfl) rfl (vX12_holds p1 M)
set_option maxHeartbeats 4000000 in
set_option maxRecDepth 100000 in
theorem vX11_deals {g : G}   (p1 : Int32) (p2 : Int32) (M : Mem) : V g uX11_deals 4 rvI (rmP M) 0 [.ref (ga g 0), .int p1, .int p2, .null] [] M (fX11_deals p1 p2 M) := by
  unfold fX11_deals
  refine r_aload_n dX11_deals_0 rfl rfl ?_
  refine r_getR (k' := 1) dX11_deals_1 fl_X11_12 kdc_0 rfl ?_
  refine r_getR (k' := 2) dX11_deals_4 fl_X11_61 kdc_1 rfl ?_
  refine r_astore_n (l' := [.ref (ga g 0), .int p1, .int p2, .ref (ga g 2)]) dX11_deals_7 rfl (Nat.le_of_ble_eq_true rfl) rfl rfl ?_
  refine r_aload_n dX11_deals_8 rfl rfl ?_
  refine r_iload_n dX11_deals_9 rfl rfl ?_
  refine r_iload_n dX11_deals_10 rfl rfl ?_
  refine r_calliT (cl_V [.int p1, .int p2] bX9_areTwo (by decide) dX11_deals_11 ml_X11_82 kdc_2 rfl (Nat.le_of_ble_eq_true rfl) rfl) (kX9_areTwo _ _ _) ?_
  refine r_if_ne dX11_deals_14 (fun h => eF h ?_) (fun h => eT h ?_)
  · refine r_aload_n dX11_deals_19 rfl rfl ?_
    refine r_iload_n dX11_deals_20 rfl rfl ?_
    refine r_calli (cl_V [.int p1] bX9_bargainsOf (by decide) dX11_deals_21 ml_X11_197 kdc_2 rfl (Nat.le_of_ble_eq_true rfl) rfl) (kX9_bargainsOf _ _) (fun v1 _ => ?_)
    refine r_aload_n dX11_deals_24 rfl rfl ?_
    refine r_iload_n dX11_deals_25 rfl rfl ?_
    refine r_calli (cl_V [.int p2] bX9_bargainsOf (by decide) dX11_deals_26 ml_X11_197 kdc_2 rfl (Nat.le_of_ble_eq_true rfl) rfl) (kX9_bargainsOf _ _) (fun v2 _ => ?_)
    refine r_iand dX11_deals_29 ?_
    refine r_aload_n dX11_deals_30 rfl rfl ?_
    refine r_iconst ic_1 dX11_deals_31 ?_
    refine r_calli (cl_V [.int 1] bX9_thoseThatAre (by decide) dX11_deals_32 ml_X11_252 kdc_2 rfl (Nat.le_of_ble_eq_true rfl) rfl) (kX9_thoseThatAre kdc_2 _ _) (fun v3 _ => ?_)
    refine r_iand dX11_deals_35 ?_
    refine r_calliT (cl_S [.int ((v1 &&& v2) &&& v3)] bJ6_bitCount_0f7a4 (by decide) dX11_deals_36 ml_X11_229 rfl (Nat.le_of_ble_eq_true rfl) rfl) (kJ6_bitCount_0f7a4 _ _) ?_
    exact vRet rfl rfl rfl dX11_deals_39
  · refine r_iconst ic_m1 dX11_deals_17 ?_
    exact vRet rfl rfl rfl dX11_deals_18
theorem kX11_deals {g : G}   (p1 : Int32) (p2 : Int32) (M : Mem) : CtrI g uX11_deals 4 (fun r => r) (rmP M) [.ref (ga g 0), .int p1, .int p2] M (fX11_deals p1 p2 M) := CtrI.of mX11_deals rfl (Nat.le_of_ble_eq_true rfl) rfl (vX11_deals p1 p2 M)
set_option maxHeartbeats 4000000 in
set_option maxRecDepth 100000 in
theorem vX12_deals {g : G}   (p1 : Int32) (p2 : Int32) (M : Mem) : V g uX12_deals 2 rvW rmW 0 [.ref (ga g 198), .int p1, .int p2] [] M (fX12_deals p1 p2 M) := by
  unfold fX12_deals
  refine r_aload_n dX12_deals_0 rfl rfl ?_
  refine r_iconst ic_0 dX12_deals_1 ?_
  refine r_put dX12_deals_2 fw_X12_122 kdc_198 (fun M1 => ?_)
  refine r_aload_n dX12_deals_5 rfl rfl ?_
  refine r_iload_n dX12_deals_6 rfl rfl ?_
  refine r_calliT (cl_V [.int p1] bX12_isPerson (by decide) dX12_deals_7 ml_X12_144 kdc_198 rfl (Nat.le_of_ble_eq_true rfl) rfl) (kX12_isPerson _ _) ?_
  refine r_if_eq dX12_deals_10 (fun h => eT h ?_) (fun h => eF h ?_)
  · refine r_iconst ic_m1 dX12_deals_26 ?_
    exact vRet rfl rfl rfl dX12_deals_27
  · refine r_aload_n dX12_deals_13 rfl rfl ?_
    refine r_iload_n dX12_deals_14 rfl rfl ?_
    refine r_calliT (cl_V [.int p2] bX12_isPerson (by decide) dX12_deals_15 ml_X12_144 kdc_198 rfl (Nat.le_of_ble_eq_true rfl) rfl) (kX12_isPerson _ _) ?_
    refine r_if_eq dX12_deals_18 (fun h => eT h ?_) (fun h => eF h ?_)
    · refine r_iconst ic_m1 dX12_deals_26 ?_
      exact vRet rfl rfl rfl dX12_deals_27
    · refine r_iload_n dX12_deals_21 rfl rfl ?_
      refine r_iload_n dX12_deals_22 rfl rfl ?_
      refine r_icmp_ne dX12_deals_23 (fun h => eF h ?_) (fun h => eT h ?_)
      · refine r_aload_n dX12_deals_28 rfl rfl ?_
        refine r_aload_n dX12_deals_29 rfl rfl ?_
        refine r_iload_n dX12_deals_30 rfl rfl ?_
        refine r_calli (cl_V [.int p1] bX12_bargainsOf (by decide) dX12_deals_31 ml_X12_379 kdc_198 rfl (Nat.le_of_ble_eq_true rfl) rfl) (kX12_bargainsOf _ _) (fun v2 _ => ?_)
        refine r_aload_n dX12_deals_34 rfl rfl ?_
        refine r_iload_n dX12_deals_35 rfl rfl ?_
        refine r_calli (cl_V [.int p2] bX12_bargainsOf (by decide) dX12_deals_36 ml_X12_379 kdc_198 rfl (Nat.le_of_ble_eq_true rfl) rfl) (kX12_bargainsOf _ _) (fun v3 _ => ?_)
        refine r_iand dX12_deals_39 ?_
        refine r_aload_n dX12_deals_40 rfl rfl ?_
        refine r_iconst ic_1 dX12_deals_41 ?_
        refine r_calli (cl_V [.int 1] bX12_setThatIs (by decide) dX12_deals_42 ml_X12_385 kdc_198 rfl (Nat.le_of_ble_eq_true rfl) rfl) (kX12_setThatIs _ _) (fun v4 _ => ?_)
        refine r_iand dX12_deals_45 ?_
        refine r_calli (cl_V [.int ((v2 &&& v3) &&& v4)] bX12_onesOf (by decide) dX12_deals_46 ml_X12_311 kdc_198 rfl (Nat.le_of_ble_eq_true rfl) rfl) (kX12_onesOf _ _) (fun v5 _ => ?_)
        exact vRet rfl rfl rfl dX12_deals_49
      · refine r_iconst ic_m1 dX12_deals_26 ?_
        exact vRet rfl rfl rfl dX12_deals_27
theorem kX12_deals {g : G}   (p1 : Int32) (p2 : Int32) (M : Mem) : CtrI g uX12_deals 2 (fun r => r.1) rmW [.ref (ga g 198), .int p1, .int p2] M (fX12_deals p1 p2 M) := CtrI.of mX12_deals rfl (Nat.le_of_ble_eq_true rfl) rfl (vX12_deals p1 p2 M)
set_option maxHeartbeats 4000000 in
set_option maxRecDepth 100000 in
theorem vX7_has_L2 {g : G} {k0 : Nat}  (z1 : Int32)  (M : Mem) (hk0 : kd k0 = (7, 5))  : ∀ (n : Nat) (y2 : Int32), V g uX7_has 1 rvI (rmP M) 2 [.ref (ga g k0), .int z1, .int y2] [] M (fX7_has_L2 k0 z1 M n y2) := by
  intro n
  induction n with
  | zero => intro y2; exact vNone
  | succ n ih =>
    intro y2
    rw [fX7_has_L2]
    refine r_iload_n dX7_has_2 rfl rfl ?_
    refine r_aload_n dX7_has_3 rfl rfl ?_
    refine r_getI dX7_has_4 fl_X7_32 hk0 ?_
    refine r_icmp_ge dX7_has_7 (fun h => eT h ?_) (fun h => eF h ?_)
    · refine r_iconst ic_0 dX7_has_28 ?_
      exact vRet rfl rfl rfl dX7_has_29
    · refine r_aload_n dX7_has_10 rfl rfl ?_
      refine r_getR (k' := (k0 + 1)) dX7_has_11 fl_X7_15 hk0 rfl ?_
      refine r_iload_n dX7_has_14 rfl rfl ?_
      refine r_iald dX7_has_15 (kx_7_1 hk0) (fun v1 => ?_)
      refine r_iload_n dX7_has_16 rfl rfl ?_
      refine r_icmp_ne dX7_has_17 (fun h => eF h ?_) (fun h => eT h ?_)
      · refine r_iinc (l' := [.ref (ga g k0), .int z1, .int (y2 + 1)]) dX7_has_22 rfl (inc_1 _) (Nat.le_of_ble_eq_true rfl) rfl rfl ?_
        refine r_goto dX7_has_25 ?_
        exact ih _
      · refine r_iconst ic_1 dX7_has_20 ?_
        exact vRet rfl rfl rfl dX7_has_21
set_option maxHeartbeats 4000000 in
set_option maxRecDepth 100000 in
theorem vX7_has {g : G} {k0 : Nat} (hk0 : kd k0 = (7, 5)) (p1 : Int32) (M : Mem) : V g uX7_has 1 rvI (rmP M) 0 [.ref (ga g k0), .int p1, .null] [] M (fX7_has k0 p1 M) := by
  unfold fX7_has
  refine r_iconst ic_0 dX7_has_0 ?_
  refine r_istore_n (l' := [.ref (ga g k0), .int p1, .int 0]) dX7_has_1 rfl (Nat.le_of_ble_eq_true rfl) rfl rfl ?_
  refine vX7_has_L2 _ _ hk0 FU _
theorem kX7_has {g : G} {k0 : Nat} (hk0 : kd k0 = (7, 5)) (p1 : Int32) (M : Mem) : CtrI g uX7_has 1 (fun r => r) (rmP M) [.ref (ga g k0), .int p1] M (fX7_has k0 p1 M) := CtrI.of mX7_has rfl (Nat.le_of_ble_eq_true rfl) rfl (vX7_has hk0 p1 M)
set_option maxHeartbeats 4000000 in
set_option maxRecDepth 100000 in
theorem vX7_tell {g : G} {k0 : Nat} (hk0 : kd k0 = (7, 5)) (p1 : Int32) (M : Mem) : V g uX7_tell 2 rvW rmW 0 [.ref (ga g k0), .int p1] [] M (fX7_tell k0 p1 M) := by
  unfold fX7_tell
  refine r_iload_n dX7_tell_0 rfl rfl ?_
  refine r_iconst ic_m1 dX7_tell_1 ?_
  refine r_icmp_ne dX7_tell_2 (fun h => eF h ?_) (fun h => eT h ?_)
  · refine r_iload_n dX7_tell_12 rfl rfl ?_
    refine r_aload_n dX7_tell_13 rfl rfl ?_
    refine r_getI dX7_tell_14 fl_X7_21 hk0 ?_
    refine r_aload_n dX7_tell_17 rfl rfl ?_
    refine r_getI dX7_tell_18 fl_X7_25 hk0 ?_
    refine r_calliT (cl_SN [.int p1, .int (M k0 2), .int (M k0 3)] bX11_isWithin (by decide) dX7_tell_21 (host := RX11) (by decide +kernel) rfl (Nat.le_of_ble_eq_true rfl) rfl) (kX11_isWithin _ _ _ _) ?_
    refine r_if_eq dX7_tell_24 (fun h => eT h ?_) (fun h => eF h ?_)
    · refine r_iconst ic_m1 dX7_tell_54 ?_
      exact vRet rfl rfl rfl dX7_tell_55
    · refine r_aload_n dX7_tell_27 rfl rfl ?_
      refine r_getI dX7_tell_28 fl_X7_32 hk0 ?_
      refine r_aload_n dX7_tell_31 rfl rfl ?_
      refine r_getR (k' := (k0 + 1)) dX7_tell_32 fl_X7_15 hk0 rfl ?_
      refine r_alen dX7_tell_35 (kx_7_1 hk0) (by decide) (by decide) rfl ?_
      refine r_icmp_ge dX7_tell_36 (fun h => eT h ?_) (fun h => eF h ?_)
      · refine r_iconst ic_m1 dX7_tell_54 ?_
        exact vRet rfl rfl rfl dX7_tell_55
      · refine r_aload_n dX7_tell_39 rfl rfl ?_
        refine r_getI dX7_tell_40 fl_X7_28 hk0 ?_
        refine eJ (fun (J1 : Option (Int32 × Mem)) => V g uX7_tell 2 rvW rmW 56 [.ref (ga g k0), .int p1] [] M (J1)) ( ?_) (fun J1 hJ1 => ?_)
        · refine r_aload_n dX7_tell_56 rfl rfl ?_
          refine r_getR (k' := (k0 + 1)) dX7_tell_57 fl_X7_15 hk0 rfl ?_
          refine r_aload_n dX7_tell_60 rfl rfl ?_
          refine r_getI dX7_tell_61 fl_X7_32 hk0 ?_
          refine r_iload_n dX7_tell_64 rfl rfl ?_
          refine r_iast dX7_tell_65 (kx_7_1 hk0) (fun M2 => ?_)
          refine r_aload_n dX7_tell_66 rfl rfl ?_
          refine r_dup dX7_tell_67 rfl ?_
          refine r_getI dX7_tell_68 fl_X7_32 hk0 ?_
          refine r_iconst ic_1 dX7_tell_71 ?_
          refine r_iadd dX7_tell_72 ?_
          refine r_put dX7_tell_73 fw_X7_32 hk0 (fun M3 => ?_)
          refine r_aload_n dX7_tell_76 rfl rfl ?_
          refine r_getI dX7_tell_77 fl_X7_32 hk0 ?_
          exact vRet rfl rfl rfl dX7_tell_80
        · refine r_if_eq dX7_tell_43 (fun h => eT h ?_) (fun h => eF h ?_)
          · exact hJ1
          · refine r_aload_n dX7_tell_46 rfl rfl ?_
            refine r_iload_n dX7_tell_47 rfl rfl ?_
            refine r_calli (cl_V [.int p1] bX7_has (by decide) dX7_tell_48 ml_X7_39 hk0 rfl (Nat.le_of_ble_eq_true rfl) rfl) (kX7_has hk0 _ _) (fun v4 _ => ?_)
            refine r_if_eq dX7_tell_51 (fun h => eT h ?_) (fun h => eF h ?_)
            · exact hJ1
            · refine r_iconst ic_m1 dX7_tell_54 ?_
              exact vRet rfl rfl rfl dX7_tell_55
  · refine r_aload_n dX7_tell_5 rfl rfl ?_
    refine r_iconst ic_0 dX7_tell_6 ?_
    refine r_put dX7_tell_7 fw_X7_32 hk0 (fun M5 => ?_)
    refine r_iconst ic_0 dX7_tell_10 ?_
    exact vRet rfl rfl rfl dX7_tell_11
theorem kX7_tell {g : G} {k0 : Nat} (hk0 : kd k0 = (7, 5)) (p1 : Int32) (M : Mem) : CtrI g uX7_tell 2 (fun r => r.1) rmW [.ref (ga g k0), .int p1] M (fX7_tell k0 p1 M) := CtrI.of mX7_tell rfl (Nat.le_of_ble_eq_true rfl) rfl (vX7_tell hk0 p1 M)
set_option maxHeartbeats 4000000 in
set_option maxRecDepth 100000 in
theorem vX11_jump {g : G}   (p1 : Int32) (M : Mem) : V g uX11_jump 3 rvW rmW 0 [.ref (ga g 0), .int p1] [] M (fX11_jump p1 M) := by
  unfold fX11_jump
  refine r_aload_n dX11_jump_0 rfl rfl ?_
  refine r_getR (k' := 1) dX11_jump_1 fl_X11_12 kdc_0 rfl ?_
  refine r_getR (k' := 40) dX11_jump_4 fl_X11_262 kdc_1 rfl ?_
  refine r_getR (k' := 41) dX11_jump_7 fl_X11_266 kdc_40 rfl ?_
  refine r_iload_n dX11_jump_10 rfl rfl ?_
  refine r_calli (cl_V [.int p1] bX7_tell (by decide) dX11_jump_11 ml_X11_272 kdc_41 rfl (Nat.le_of_ble_eq_true rfl) rfl) (kX7_tell kdc_41 _ _) (fun r1 _ => ?_)
  exact vRet rfl rfl rfl dX11_jump_14
theorem kX11_jump {g : G}   (p1 : Int32) (M : Mem) : CtrI g uX11_jump 3 (fun r => r.1) rmW [.ref (ga g 0), .int p1] M (fX11_jump p1 M) := CtrI.of mX11_jump rfl (Nat.le_of_ble_eq_true rfl) rfl (vX11_jump p1 M)
set_option maxHeartbeats 4000000 in
set_option maxRecDepth 100000 in
theorem vX12_jump {g : G}   (p1 : Int32) (M : Mem) : V g uX12_jump 2 rvW rmW 0 [.ref (ga g 198), .int p1] [] M (fX12_jump p1 M) := by
  unfold fX12_jump
  refine r_aload_n dX12_jump_0 rfl rfl ?_
  refine r_iconst ic_0 dX12_jump_1 ?_
  refine r_put dX12_jump_2 fw_X12_122 kdc_198 (fun M1 => ?_)
  refine r_iload_n dX12_jump_5 rfl rfl ?_
  refine r_iconst ic_m1 dX12_jump_6 ?_
  refine r_icmp_ne dX12_jump_7 (fun h => eF h ?_) (fun h => eT h ?_)
  · refine r_aload_n dX12_jump_17 rfl rfl ?_
    refine r_iload_n dX12_jump_18 rfl rfl ?_
    refine r_iconst ic_0 dX12_jump_19 ?_
    refine r_bipush bp_9 dX12_jump_20 ?_
    refine r_calliT (cl_V [.int p1, .int 0, .int 9] bX12_isIn (by decide) dX12_jump_22 ml_X12_140 kdc_198 rfl (Nat.le_of_ble_eq_true rfl) rfl) (kX12_isIn _ _ _ _) ?_
    refine r_if_eq dX12_jump_25 (fun h => eT h ?_) (fun h => eF h ?_)
    · refine r_iconst ic_m1 dX12_jump_37 ?_
      exact vRet rfl rfl rfl dX12_jump_38
    · refine r_aload_n dX12_jump_28 rfl rfl ?_
      refine r_getI dX12_jump_29 fl_X12_394 kdc_198 ?_
      refine r_bipush bp_14 dX12_jump_32 ?_
      refine r_icmp_ne dX12_jump_34 (fun h => eF h ?_) (fun h => eT h ?_)
      · refine r_aload_n dX12_jump_39 rfl rfl ?_
        refine r_getR (k' := 221) dX12_jump_40 fl_X12_80 kdc_198 rfl ?_
        refine r_aload_n dX12_jump_43 rfl rfl ?_
        refine r_getI dX12_jump_44 fl_X12_394 kdc_198 ?_
        refine r_iload_n dX12_jump_47 rfl rfl ?_
        refine r_iast dX12_jump_48 kdc_221 (fun M2 => ?_)
        refine r_aload_n dX12_jump_49 rfl rfl ?_
        refine r_aload_n dX12_jump_50 rfl rfl ?_
        refine r_getI dX12_jump_51 fl_X12_394 kdc_198 ?_
        refine r_iconst ic_1 dX12_jump_54 ?_
        refine r_iadd dX12_jump_55 ?_
        refine r_put dX12_jump_56 fw_X12_394 kdc_198 (fun M3 => ?_)
        refine r_aload_n dX12_jump_59 rfl rfl ?_
        refine r_getI dX12_jump_60 fl_X12_394 kdc_198 ?_
        exact vRet rfl rfl rfl dX12_jump_63
      · refine r_iconst ic_m1 dX12_jump_37 ?_
        exact vRet rfl rfl rfl dX12_jump_38
  · refine r_aload_n dX12_jump_10 rfl rfl ?_
    refine r_iconst ic_0 dX12_jump_11 ?_
    refine r_put dX12_jump_12 fw_X12_394 kdc_198 (fun M4 => ?_)
    refine r_iconst ic_0 dX12_jump_15 ?_
    exact vRet rfl rfl rfl dX12_jump_16
theorem kX12_jump {g : G}   (p1 : Int32) (M : Mem) : CtrI g uX12_jump 2 (fun r => r.1) rmW [.ref (ga g 198), .int p1] M (fX12_jump p1 M) := CtrI.of mX12_jump rfl (Nat.le_of_ble_eq_true rfl) rfl (vX12_jump p1 M)
set_option maxHeartbeats 4000000 in
set_option maxRecDepth 100000 in
theorem vX10_fewestJumps_L42 {g : G}  (K91 : Mem → Option (Int32 × Mem)) (z1 : Int32)   (hK91 : ∀ (M : Mem), V g uX10_fewestJumps 2 rvW rmW 91 [.ref (ga g 40), .int z1, .null] [] M (K91 M)) : ∀ (n : Nat) (y2 : Int32) (M : Mem), V g uX10_fewestJumps 2 rvW rmW 42 [.ref (ga g 40), .int z1, .int y2] [] M (fX10_fewestJumps_L42 K91 z1 n y2 M) := by
  intro n
  induction n with
  | zero => intro y2 M; exact vNone
  | succ n ih =>
    intro y2 M
    rw [fX10_fewestJumps_L42]
    refine r_iload_n dX10_fewestJumps_42 rfl rfl ?_
    refine r_iload_n dX10_fewestJumps_43 rfl rfl ?_
    refine r_icmp_ge dX10_fewestJumps_44 (fun h => eT h ?_) (fun h => eF h ?_)
    · exact vSub (l' := [.ref (ga g 40), .int z1, .null]) ⟨Or.inr rfl, ⟨Or.inr rfl, ⟨Or.inl rfl, trivial⟩⟩⟩ (hK91 _)
    · refine r_iload_n dX10_fewestJumps_47 rfl rfl ?_
      refine r_aload_n dX10_fewestJumps_48 rfl rfl ?_
      refine r_getR (k' := 41) dX10_fewestJumps_49 fl_X10_14 kdc_40 rfl ?_
      refine r_getR (k' := 42) dX10_fewestJumps_52 fl_X10_57 kdc_41 rfl ?_
      refine r_iload_n dX10_fewestJumps_55 rfl rfl ?_
      refine r_iald dX10_fewestJumps_56 kdc_42 (fun v3 => ?_)
      refine r_iadd dX10_fewestJumps_57 ?_
      refine r_iload_n dX10_fewestJumps_58 rfl rfl ?_
      refine eJ (fun (J4 : (Mem) → Option (Int32 × Mem)) => ∀ (M5 : Mem), V g uX10_fewestJumps 2 rvW rmW 85 [.ref (ga g 40), .int z1, .int y2] [] M5 (J4 M5)) (fun M5 => ?_) (fun J4 hJ4 => ?_)
      · refine r_iinc (l' := [.ref (ga g 40), .int z1, .int (y2 + 1)]) dX10_fewestJumps_85 rfl (inc_1 _) (Nat.le_of_ble_eq_true rfl) rfl rfl ?_
        refine r_goto dX10_fewestJumps_88 ?_
        exact ih _ _
      · refine r_icmp_lt dX10_fewestJumps_59 (fun h => eT h ?_) (fun h => eF h ?_)
        · exact hJ4 _
        · refine r_aload_n dX10_fewestJumps_62 rfl rfl ?_
          refine r_getR (k' := 50) dX10_fewestJumps_63 fl_X10_33 kdc_40 rfl ?_
          refine r_iload_n dX10_fewestJumps_66 rfl rfl ?_
          refine r_aload_n dX10_fewestJumps_67 rfl rfl ?_
          refine r_getR (k' := 50) dX10_fewestJumps_68 fl_X10_33 kdc_40 rfl ?_
          refine r_iload_n dX10_fewestJumps_71 rfl rfl ?_
          refine r_iald dX10_fewestJumps_72 kdc_50 (fun v6 => ?_)
          refine r_aload_n dX10_fewestJumps_73 rfl rfl ?_
          refine r_getR (k' := 50) dX10_fewestJumps_74 fl_X10_33 kdc_40 rfl ?_
          refine r_iload_n dX10_fewestJumps_77 rfl rfl ?_
          refine r_iald dX10_fewestJumps_78 kdc_50 (fun v7 => ?_)
          refine r_iconst ic_1 dX10_fewestJumps_79 ?_
          refine r_iadd dX10_fewestJumps_80 ?_
          refine r_min (by decide) (Nat.le_of_ble_eq_true rfl) ml_X10_60 jmin_1 j_math jmin_2 dX10_fewestJumps_81 ?_
          refine r_iast dX10_fewestJumps_84 kdc_50 (fun M8 => ?_)
          exact hJ4 _
set_option maxHeartbeats 4000000 in
set_option maxRecDepth 100000 in
theorem vX10_fewestJumps_L21 {g : G}  (K97 : Mem → Option (Int32 × Mem))    (hK97 : ∀ (M : Mem), V g uX10_fewestJumps 2 rvW rmW 97 [.ref (ga g 40), .null, .null] [] M (K97 M)) : ∀ (n : Nat) (y1 : Int32) (M : Mem), V g uX10_fewestJumps 2 rvW rmW 21 [.ref (ga g 40), .int y1, .null] [] M (fX10_fewestJumps_L21 K97 n y1 M) := by
  intro n
  induction n with
  | zero => intro y1 M; exact vNone
  | succ n ih =>
    intro y1 M
    rw [fX10_fewestJumps_L21]
    refine r_iload_n dX10_fewestJumps_21 rfl rfl ?_
    refine r_aload_n dX10_fewestJumps_22 rfl rfl ?_
    refine r_getR (k' := 41) dX10_fewestJumps_23 fl_X10_14 kdc_40 rfl ?_
    refine r_getI dX10_fewestJumps_26 fl_X10_53 kdc_41 ?_
    refine r_icmp_ge dX10_fewestJumps_29 (fun h => eT h ?_) (fun h => eF h ?_)
    · exact vSub (l' := [.ref (ga g 40), .null, .null]) ⟨Or.inr rfl, ⟨Or.inl rfl, ⟨Or.inl rfl, trivial⟩⟩⟩ (hK97 _)
    · refine r_aload_n dX10_fewestJumps_32 rfl rfl ?_
      refine r_getR (k' := 50) dX10_fewestJumps_33 fl_X10_33 kdc_40 rfl ?_
      refine r_iload_n dX10_fewestJumps_36 rfl rfl ?_
      refine r_bipush bp_99 dX10_fewestJumps_37 ?_
      refine r_iast dX10_fewestJumps_39 kdc_50 (fun M2 => ?_)
      refine r_iconst ic_0 dX10_fewestJumps_40 ?_
      refine r_istore_n (l' := [.ref (ga g 40), .int y1, .int 0]) dX10_fewestJumps_41 rfl (Nat.le_of_ble_eq_true rfl) rfl rfl ?_
      refine vX10_fewestJumps_L42 _ _ (fun M9 => ?_) FU _ _
      · refine r_iinc (l' := [.ref (ga g 40), .int (y1 + 1), .null]) dX10_fewestJumps_91 rfl (inc_1 _) (Nat.le_of_ble_eq_true rfl) rfl rfl ?_
        refine r_goto dX10_fewestJumps_94 ?_
        exact ih _ _
set_option maxHeartbeats 4000000 in
set_option maxRecDepth 100000 in
theorem vX10_fewestJumps {g : G}    (M : Mem) : V g uX10_fewestJumps 2 rvW rmW 0 [.ref (ga g 40), .null, .null] [] M (fX10_fewestJumps M) := by
  unfold fX10_fewestJumps
  refine r_aload_n dX10_fewestJumps_0 rfl rfl ?_
  refine r_getR (k' := 41) dX10_fewestJumps_1 fl_X10_14 kdc_40 rfl ?_
  refine r_getI dX10_fewestJumps_4 fl_X10_53 kdc_41 ?_
  refine r_if_gt dX10_fewestJumps_7 (fun h => eT h ?_) (fun h => eF h ?_)
  · refine r_aload_n dX10_fewestJumps_12 rfl rfl ?_
    refine r_getR (k' := 50) dX10_fewestJumps_13 fl_X10_33 kdc_40 rfl ?_
    refine r_iconst ic_0 dX10_fewestJumps_16 ?_
    refine r_iconst ic_0 dX10_fewestJumps_17 ?_
    refine r_iast dX10_fewestJumps_18 kdc_50 (fun M1 => ?_)
    refine r_iconst ic_1 dX10_fewestJumps_19 ?_
    refine r_istore_n (l' := [.ref (ga g 40), .int 1, .null]) dX10_fewestJumps_20 rfl (Nat.le_of_ble_eq_true rfl) rfl rfl ?_
    refine vX10_fewestJumps_L21 _ (fun M10 => ?_) FU _ _
    · refine r_aload_n dX10_fewestJumps_97 rfl rfl ?_
      refine r_getR (k' := 50) dX10_fewestJumps_98 fl_X10_33 kdc_40 rfl ?_
      refine r_aload_n dX10_fewestJumps_101 rfl rfl ?_
      refine r_getR (k' := 41) dX10_fewestJumps_102 fl_X10_14 kdc_40 rfl ?_
      refine r_getI dX10_fewestJumps_105 fl_X10_53 kdc_41 ?_
      refine r_iconst ic_1 dX10_fewestJumps_108 ?_
      refine r_isub dX10_fewestJumps_109 ?_
      refine r_iald dX10_fewestJumps_110 kdc_50 (fun v11 => ?_)
      refine r_istore_n (l' := [.ref (ga g 40), .int v11, .null]) dX10_fewestJumps_111 rfl (Nat.le_of_ble_eq_true rfl) rfl rfl ?_
      refine r_iload_n dX10_fewestJumps_112 rfl rfl ?_
      refine r_bipush bp_99 dX10_fewestJumps_113 ?_
      refine r_icmp_ge dX10_fewestJumps_115 (fun h => eT h ?_) (fun h => eF h ?_)
      · refine r_iconst ic_m1 dX10_fewestJumps_122 ?_
        exact vRet rfl rfl rfl dX10_fewestJumps_123
      · refine r_iload_n dX10_fewestJumps_118 rfl rfl ?_
        refine r_goto dX10_fewestJumps_119 ?_
        exact vRet rfl rfl rfl dX10_fewestJumps_123
  · refine r_iconst ic_m1 dX10_fewestJumps_10 ?_
    exact vRet rfl rfl rfl dX10_fewestJumps_11
theorem kX10_fewestJumps {g : G}    (M : Mem) : CtrI g uX10_fewestJumps 2 (fun r => r.1) rmW [.ref (ga g 40)] M (fX10_fewestJumps M) := CtrI.of mX10_fewestJumps rfl (Nat.le_of_ble_eq_true rfl) rfl (vX10_fewestJumps M)
set_option maxHeartbeats 4000000 in
set_option maxRecDepth 100000 in
theorem vX10_furthestPlace_L4 {g : G}  (K42 : Int32 → Option (Int32))   (M : Mem)  (hK42 : ∀ (e1 : Int32), V g uX10_furthestPlace 2 rvI (rmP M) 42 [.ref (ga g 40), .int e1, .null] [] M (K42 e1)) : ∀ (n : Nat) (y1 : Int32) (y2 : Int32), V g uX10_furthestPlace 2 rvI (rmP M) 4 [.ref (ga g 40), .int y1, .int y2] [] M (fX10_furthestPlace_L4 K42 M n y1 y2) := by
  intro n
  induction n with
  | zero => intro y1 y2; exact vNone
  | succ n ih =>
    intro y1 y2
    rw [fX10_furthestPlace_L4]
    refine r_iload_n dX10_furthestPlace_4 rfl rfl ?_
    refine r_aload_n dX10_furthestPlace_5 rfl rfl ?_
    refine r_getR (k' := 41) dX10_furthestPlace_6 fl_X10_14 kdc_40 rfl ?_
    refine r_getI dX10_furthestPlace_9 fl_X10_53 kdc_41 ?_
    refine r_icmp_ge dX10_furthestPlace_12 (fun h => eT h ?_) (fun h => eF h ?_)
    · exact vSub (l' := [.ref (ga g 40), .int y1, .null]) ⟨Or.inr rfl, ⟨Or.inr rfl, ⟨Or.inl rfl, trivial⟩⟩⟩ (hK42 _)
    · refine r_iload_n dX10_furthestPlace_15 rfl rfl ?_
      refine r_iload_n dX10_furthestPlace_16 rfl rfl ?_
      refine r_icmp_gt dX10_furthestPlace_17 (fun h => eT h ?_) (fun h => eF h ?_)
      · exact vSub (l' := [.ref (ga g 40), .int y1, .null]) ⟨Or.inr rfl, ⟨Or.inr rfl, ⟨Or.inl rfl, trivial⟩⟩⟩ (hK42 _)
      · refine r_iload_n dX10_furthestPlace_20 rfl rfl ?_
        refine r_iload_n dX10_furthestPlace_21 rfl rfl ?_
        refine r_aload_n dX10_furthestPlace_22 rfl rfl ?_
        refine r_getR (k' := 41) dX10_furthestPlace_23 fl_X10_14 kdc_40 rfl ?_
        refine r_getR (k' := 42) dX10_furthestPlace_26 fl_X10_57 kdc_41 rfl ?_
        refine r_iload_n dX10_furthestPlace_29 rfl rfl ?_
        refine r_iald dX10_furthestPlace_30 kdc_42 (fun v1 => ?_)
        refine r_iadd dX10_furthestPlace_31 ?_
        refine r_max (by decide) (Nat.le_of_ble_eq_true rfl) ml_X10_66 jmax_1 j_math jmax_2 dX10_furthestPlace_32 ?_
        refine r_bndi (fun x2 => ?_)
        refine r_istore_n (l' := [.ref (ga g 40), .int x2, .int y2]) dX10_furthestPlace_35 rfl (Nat.le_of_ble_eq_true rfl) rfl rfl ?_
        refine r_iinc (l' := [.ref (ga g 40), .int x2, .int (y2 + 1)]) dX10_furthestPlace_36 rfl (inc_1 _) (Nat.le_of_ble_eq_true rfl) rfl rfl ?_
        refine r_goto dX10_furthestPlace_39 ?_
        exact ih _ _
set_option maxHeartbeats 4000000 in
set_option maxRecDepth 100000 in
theorem vX10_furthestPlace {g : G}    (M : Mem) : V g uX10_furthestPlace 2 rvI (rmP M) 0 [.ref (ga g 40), .null, .null] [] M (fX10_furthestPlace M) := by
  unfold fX10_furthestPlace
  refine r_iconst ic_0 dX10_furthestPlace_0 ?_
  refine r_istore_n (l' := [.ref (ga g 40), .int 0, .null]) dX10_furthestPlace_1 rfl (Nat.le_of_ble_eq_true rfl) rfl rfl ?_
  refine r_iconst ic_0 dX10_furthestPlace_2 ?_
  refine r_istore_n (l' := [.ref (ga g 40), .int 0, .int 0]) dX10_furthestPlace_3 rfl (Nat.le_of_ble_eq_true rfl) rfl rfl ?_
  refine vX10_furthestPlace_L4 _ _ (fun e3 => ?_) FU _ _
  · refine r_iload_n dX10_furthestPlace_42 rfl rfl ?_
    refine r_aload_n dX10_furthestPlace_43 rfl rfl ?_
    refine r_getR (k' := 41) dX10_furthestPlace_44 fl_X10_14 kdc_40 rfl ?_
    refine r_getI dX10_furthestPlace_47 fl_X10_53 kdc_41 ?_
    refine r_iconst ic_1 dX10_furthestPlace_50 ?_
    refine r_isub dX10_furthestPlace_51 ?_
    refine r_min (by decide) (Nat.le_of_ble_eq_true rfl) ml_X10_60 jmin_1 j_math jmin_2 dX10_furthestPlace_52 ?_
    exact vRet rfl rfl rfl dX10_furthestPlace_55
theorem kX10_furthestPlace {g : G}    (M : Mem) : CtrI g uX10_furthestPlace 2 (fun r => r) (rmP M) [.ref (ga g 40)] M (fX10_furthestPlace M) := CtrI.of mX10_furthestPlace rfl (Nat.le_of_ble_eq_true rfl) rfl (vX10_furthestPlace M)
set_option maxHeartbeats 4000000 in
set_option maxRecDepth 100000 in
theorem vX11_jumps {g : G}   (p1 : Int32) (M : Mem) : V g uX11_jumps 3 rvW rmW 0 [.ref (ga g 0), .int p1] [] M (fX11_jumps p1 M) := by
  unfold fX11_jumps
  refine r_iload_n dX11_jumps_0 rfl rfl ?_
  refine r_if_ne dX11_jumps_1 (fun h => eF h ?_) (fun h => eT h ?_)
  · refine r_iload_n dX11_jumps_15 rfl rfl ?_
    refine r_iconst ic_1 dX11_jumps_16 ?_
    refine r_icmp_ne dX11_jumps_17 (fun h => eF h ?_) (fun h => eT h ?_)
    · refine r_iconst ic_m1 dX11_jumps_33 ?_
      exact vRet rfl rfl rfl dX11_jumps_34
    · refine r_aload_n dX11_jumps_20 rfl rfl ?_
      refine r_getR (k' := 1) dX11_jumps_21 fl_X11_12 kdc_0 rfl ?_
      refine r_getR (k' := 40) dX11_jumps_24 fl_X11_262 kdc_1 rfl ?_
      refine r_calli (cl_V [] bX10_furthestPlace (by decide) dX11_jumps_27 ml_X11_280 kdc_40 rfl (Nat.le_of_ble_eq_true rfl) rfl) (kX10_furthestPlace _) (fun v1 _ => ?_)
      refine r_goto dX11_jumps_30 ?_
      exact vRet rfl rfl rfl dX11_jumps_34
  · refine r_aload_n dX11_jumps_4 rfl rfl ?_
    refine r_getR (k' := 1) dX11_jumps_5 fl_X11_12 kdc_0 rfl ?_
    refine r_getR (k' := 40) dX11_jumps_8 fl_X11_262 kdc_1 rfl ?_
    refine r_calli (cl_V [] bX10_fewestJumps (by decide) dX11_jumps_11 ml_X11_277 kdc_40 rfl (Nat.le_of_ble_eq_true rfl) rfl) (kX10_fewestJumps _) (fun r2 _ => ?_)
    exact vRet rfl rfl rfl dX11_jumps_14
theorem kX11_jumps {g : G}   (p1 : Int32) (M : Mem) : CtrI g uX11_jumps 3 (fun r => r.1) rmW [.ref (ga g 0), .int p1] M (fX11_jumps p1 M) := CtrI.of mX11_jumps rfl (Nat.le_of_ble_eq_true rfl) rfl (vX11_jumps p1 M)
set_option maxHeartbeats 4000000 in
set_option maxRecDepth 100000 in
theorem vX12_lesser {g : G}   (p1 : Int32) (p2 : Int32) (M : Mem) : V g uX12_lesser 1 rvI (rmP M) 0 [.ref (ga g 198), .int p1, .int p2] [] M (some (fX12_lesser p1 p2)) := by
  unfold fX12_lesser
  refine r_iload_n dX12_lesser_0 rfl rfl ?_
  refine r_iload_n dX12_lesser_1 rfl rfl ?_
  refine r_icmp_ge dX12_lesser_2 (fun h => eTT h ?_) (fun h => eFT h ?_)
  · refine r_iload_n dX12_lesser_9 rfl rfl ?_
    exact vRet rfl rfl rfl dX12_lesser_10
  · refine r_iload_n dX12_lesser_5 rfl rfl ?_
    refine r_goto dX12_lesser_6 ?_
    exact vRet rfl rfl rfl dX12_lesser_10
theorem kX12_lesser {g : G}   (p1 : Int32) (p2 : Int32) (M : Mem) : CtrI g uX12_lesser 1 (fun r => r) (rmP M) [.ref (ga g 198), .int p1, .int p2] M (some (fX12_lesser p1 p2)) := CtrI.of mX12_lesser rfl (Nat.le_of_ble_eq_true rfl) rfl (vX12_lesser p1 p2 M)
set_option maxHeartbeats 4000000 in
set_option maxRecDepth 100000 in
theorem vX12_jumps_L56 {g : G}  (K107 : Mem → Option (Int32 × Mem)) (z3 : Int32) (c1 : Int32) (c2 : Int32)  (hK107 : ∀ (M : Mem), V g uX12_jumps 2 rvW rmW 107 [.ref (ga g 198), .int c1, .int c2, .int z3, .null] [] M (K107 M)) : ∀ (n : Nat) (y4 : Int32) (M : Mem), V g uX12_jumps 2 rvW rmW 56 [.ref (ga g 198), .int c1, .int c2, .int z3, .int y4] [] M (fX12_jumps_L56 K107 z3 n y4 M) := by
  intro n
  induction n with
  | zero => intro y4 M; exact vNone
  | succ n ih =>
    intro y4 M
    rw [fX12_jumps_L56]
    refine r_iload dX12_jumps_56 rfl ?_
    refine r_iload_n dX12_jumps_58 rfl rfl ?_
    refine r_icmp_ge dX12_jumps_59 (fun h => eT h ?_) (fun h => eF h ?_)
    · exact vSub (l' := [.ref (ga g 198), .int c1, .int c2, .int z3, .null]) ⟨Or.inr rfl, ⟨Or.inr rfl, ⟨Or.inr rfl, ⟨Or.inr rfl, ⟨Or.inl rfl, trivial⟩⟩⟩⟩⟩ (hK107 _)
    · refine r_iload dX12_jumps_62 rfl ?_
      refine r_aload_n dX12_jumps_64 rfl rfl ?_
      refine r_getR (k' := 221) dX12_jumps_65 fl_X12_80 kdc_198 rfl ?_
      refine r_iload dX12_jumps_68 rfl ?_
      refine r_iald dX12_jumps_70 kdc_221 (fun v5 => ?_)
      refine r_iadd dX12_jumps_71 ?_
      refine r_iload_n dX12_jumps_72 rfl rfl ?_
      refine eJ (fun (J6 : (Mem) → Option (Int32 × Mem)) => ∀ (M7 : Mem), V g uX12_jumps 2 rvW rmW 101 [.ref (ga g 198), .int c1, .int c2, .int z3, .int y4] [] M7 (J6 M7)) (fun M7 => ?_) (fun J6 hJ6 => ?_)
      · refine r_iinc (l' := [.ref (ga g 198), .int c1, .int c2, .int z3, .int (y4 + 1)]) dX12_jumps_101 rfl (inc_1 _) (Nat.le_of_ble_eq_true rfl) rfl rfl ?_
        refine r_goto dX12_jumps_104 ?_
        exact ih _ _
      · refine r_icmp_lt dX12_jumps_73 (fun h => eT h ?_) (fun h => eF h ?_)
        · exact hJ6 _
        · refine r_aload_n dX12_jumps_76 rfl rfl ?_
          refine r_getR (k' := 222) dX12_jumps_77 fl_X12_83 kdc_198 rfl ?_
          refine r_iload_n dX12_jumps_80 rfl rfl ?_
          refine r_aload_n dX12_jumps_81 rfl rfl ?_
          refine r_aload_n dX12_jumps_82 rfl rfl ?_
          refine r_getR (k' := 222) dX12_jumps_83 fl_X12_83 kdc_198 rfl ?_
          refine r_iload_n dX12_jumps_86 rfl rfl ?_
          refine r_iald dX12_jumps_87 kdc_222 (fun v8 => ?_)
          refine r_aload_n dX12_jumps_88 rfl rfl ?_
          refine r_getR (k' := 222) dX12_jumps_89 fl_X12_83 kdc_198 rfl ?_
          refine r_iload dX12_jumps_92 rfl ?_
          refine r_iald dX12_jumps_94 kdc_222 (fun v9 => ?_)
          refine r_iconst ic_1 dX12_jumps_95 ?_
          refine r_iadd dX12_jumps_96 ?_
          refine r_calliT (cl_V [.int v8, .int (v9 + 1)] bX12_lesser (by decide) dX12_jumps_97 ml_X12_398 kdc_198 rfl (Nat.le_of_ble_eq_true rfl) rfl) (kX12_lesser _ _ _) ?_
          refine r_iast dX12_jumps_100 kdc_222 (fun M10 => ?_)
          exact hJ6 _
set_option maxHeartbeats 4000000 in
set_option maxRecDepth 100000 in
theorem vX12_jumps_L28 {g : G}  (K127 : Int32 → Mem → Option (Int32 × Mem))  (c1 : Int32)  (hK127 : ∀ (e2 : Int32) (M : Mem), V g uX12_jumps 2 rvW rmW 127 [.ref (ga g 198), .int c1, .int e2, .null, .null] [] M (K127 e2 M)) : ∀ (n : Nat) (y2 : Int32) (y3 : Int32) (M : Mem), V g uX12_jumps 2 rvW rmW 28 [.ref (ga g 198), .int c1, .int y2, .int y3, .null] [] M (fX12_jumps_L28 K127 n y2 y3 M) := by
  intro n
  induction n with
  | zero => intro y2 y3 M; exact vNone
  | succ n ih =>
    intro y2 y3 M
    rw [fX12_jumps_L28]
    refine r_iload_n dX12_jumps_28 rfl rfl ?_
    refine r_aload_n dX12_jumps_29 rfl rfl ?_
    refine r_getI dX12_jumps_30 fl_X12_394 kdc_198 ?_
    refine r_icmp_ge dX12_jumps_33 (fun h => eT h ?_) (fun h => eF h ?_)
    · exact vSub (l' := [.ref (ga g 198), .int c1, .int y2, .null, .null]) ⟨Or.inr rfl, ⟨Or.inr rfl, ⟨Or.inr rfl, ⟨Or.inl rfl, ⟨Or.inl rfl, trivial⟩⟩⟩⟩⟩ (hK127 _ _)
    · refine r_aload_n dX12_jumps_36 rfl rfl ?_
      refine r_getR (k' := 222) dX12_jumps_37 fl_X12_83 kdc_198 rfl ?_
      refine r_iload_n dX12_jumps_40 rfl rfl ?_
      refine r_iload_n dX12_jumps_41 rfl rfl ?_
      refine eJ (fun (J2 : (Int32) → Option (Int32 × Mem)) => ∀ (t3 : Int32), V g uX12_jumps 2 rvW rmW 52 [.ref (ga g 198), .int c1, .int y2, .int y3, .null] [.int t3, .int y3, .ref (ga g 222)] M (J2 t3)) (fun t3 => ?_) (fun J2 hJ2 => ?_)
      · refine r_iast dX12_jumps_52 kdc_222 (fun M4 => ?_)
        refine r_iconst ic_0 dX12_jumps_53 ?_
        refine r_istore (l' := [.ref (ga g 198), .int c1, .int y2, .int y3, .int 0]) dX12_jumps_54 (Nat.le_of_ble_eq_true rfl) rfl rfl ?_
        refine vX12_jumps_L56 _ _ _ _ (fun M11 => ?_) FU _ _
        · refine r_aload_n dX12_jumps_107 rfl rfl ?_
          refine r_getR (k' := 222) dX12_jumps_108 fl_X12_83 kdc_198 rfl ?_
          refine r_iload_n dX12_jumps_111 rfl rfl ?_
          refine r_iald dX12_jumps_112 kdc_222 (fun v12 => ?_)
          refine r_ldcw lc_X12_397 dX12_jumps_113 ?_
          refine eJ (fun (J13 : (Int32) → Option (Int32 × Mem)) => ∀ (a14 : Int32), V g uX12_jumps 2 rvW rmW 121 [.ref (ga g 198), .int c1, .int a14, .int y3, .null] [] M11 (J13 a14)) (fun a14 => ?_) (fun J13 hJ13 => ?_)
          · refine r_iinc (l' := [.ref (ga g 198), .int c1, .int a14, .int (y3 + 1), .null]) dX12_jumps_121 rfl (inc_1 _) (Nat.le_of_ble_eq_true rfl) rfl rfl ?_
            refine r_goto dX12_jumps_124 ?_
            exact ih _ _ _
          · refine r_icmp_ge dX12_jumps_116 (fun h => eT h ?_) (fun h => eF h ?_)
            · exact hJ13 _
            · refine r_iload_n dX12_jumps_119 rfl rfl ?_
              refine r_istore_n (l' := [.ref (ga g 198), .int c1, .int y3, .int y3, .null]) dX12_jumps_120 rfl (Nat.le_of_ble_eq_true rfl) rfl rfl ?_
              exact hJ13 _
      · refine r_if_ne dX12_jumps_42 (fun h => eF h ?_) (fun h => eT h ?_)
        · refine r_ldcw lc_X12_397 dX12_jumps_49 ?_
          exact hJ2 _
        · refine r_iconst ic_0 dX12_jumps_45 ?_
          refine r_goto dX12_jumps_46 ?_
          exact hJ2 _
set_option maxHeartbeats 4000000 in
set_option maxRecDepth 100000 in
theorem vX12_jumps {g : G}   (p1 : Int32) (M : Mem) : V g uX12_jumps 2 rvW rmW 0 [.ref (ga g 198), .int p1, .null, .null, .null] [] M (fX12_jumps p1 M) := by
  unfold fX12_jumps
  refine r_aload_n dX12_jumps_0 rfl rfl ?_
  refine r_iconst ic_0 dX12_jumps_1 ?_
  refine r_put dX12_jumps_2 fw_X12_122 kdc_198 (fun M1 => ?_)
  refine r_aload_n dX12_jumps_5 rfl rfl ?_
  refine r_iload_n dX12_jumps_6 rfl rfl ?_
  refine r_iconst ic_0 dX12_jumps_7 ?_
  refine r_iconst ic_1 dX12_jumps_8 ?_
  refine r_calliT (cl_V [.int p1, .int 0, .int 1] bX12_isIn (by decide) dX12_jumps_9 ml_X12_140 kdc_198 rfl (Nat.le_of_ble_eq_true rfl) rfl) (kX12_isIn _ _ _ _) ?_
  refine r_if_eq dX12_jumps_12 (fun h => eT h ?_) (fun h => eF h ?_)
  · refine r_iconst ic_m1 dX12_jumps_22 ?_
    exact vRet rfl rfl rfl dX12_jumps_23
  · refine r_aload_n dX12_jumps_15 rfl rfl ?_
    refine r_getI dX12_jumps_16 fl_X12_394 kdc_198 ?_
    refine r_if_ne dX12_jumps_19 (fun h => eF h ?_) (fun h => eT h ?_)
    · refine r_iconst ic_0 dX12_jumps_24 ?_
      refine r_istore_n (l' := [.ref (ga g 198), .int p1, .int 0, .null, .null]) dX12_jumps_25 rfl (Nat.le_of_ble_eq_true rfl) rfl rfl ?_
      refine r_iconst ic_0 dX12_jumps_26 ?_
      refine r_istore_n (l' := [.ref (ga g 198), .int p1, .int 0, .int 0, .null]) dX12_jumps_27 rfl (Nat.le_of_ble_eq_true rfl) rfl rfl ?_
      refine vX12_jumps_L28 _ _ (fun e15 M16 => ?_) FU _ _ _
      · refine r_iload_n dX12_jumps_127 rfl rfl ?_
        refine r_iconst ic_1 dX12_jumps_128 ?_
        refine r_icmp_ne dX12_jumps_129 (fun h => eF h ?_) (fun h => eT h ?_)
        · refine r_aload_n dX12_jumps_134 rfl rfl ?_
          refine r_getR (k' := 222) dX12_jumps_135 fl_X12_83 kdc_198 rfl ?_
          refine r_aload_n dX12_jumps_138 rfl rfl ?_
          refine r_getI dX12_jumps_139 fl_X12_394 kdc_198 ?_
          refine r_iconst ic_1 dX12_jumps_142 ?_
          refine r_isub dX12_jumps_143 ?_
          refine r_iald dX12_jumps_144 kdc_222 (fun v17 => ?_)
          refine r_ldcw lc_X12_397 dX12_jumps_145 ?_
          refine r_icmp_ge dX12_jumps_148 (fun h => eT h ?_) (fun h => eF h ?_)
          · refine r_iconst ic_m1 dX12_jumps_165 ?_
            exact vRet rfl rfl rfl dX12_jumps_166
          · refine r_aload_n dX12_jumps_151 rfl rfl ?_
            refine r_getR (k' := 222) dX12_jumps_152 fl_X12_83 kdc_198 rfl ?_
            refine r_aload_n dX12_jumps_155 rfl rfl ?_
            refine r_getI dX12_jumps_156 fl_X12_394 kdc_198 ?_
            refine r_iconst ic_1 dX12_jumps_159 ?_
            refine r_isub dX12_jumps_160 ?_
            refine r_iald dX12_jumps_161 kdc_222 (fun v18 => ?_)
            refine r_goto dX12_jumps_162 ?_
            exact vRet rfl rfl rfl dX12_jumps_166
        · refine r_iload_n dX12_jumps_132 rfl rfl ?_
          exact vRet rfl rfl rfl dX12_jumps_133
    · refine r_iconst ic_m1 dX12_jumps_22 ?_
      exact vRet rfl rfl rfl dX12_jumps_23
theorem kX12_jumps {g : G}   (p1 : Int32) (M : Mem) : CtrI g uX12_jumps 2 (fun r => r.1) rmW [.ref (ga g 198), .int p1] M (fX12_jumps p1 M) := CtrI.of mX12_jumps rfl (Nat.le_of_ble_eq_true rfl) rfl (vX12_jumps p1 M)
set_option maxHeartbeats 4000000 in
set_option maxRecDepth 100000 in
theorem vX5_walksFrom {g : G} (nn : Nat) {rX5_walksFrom : Int32 → Int32 → Int32 → Mem → Option (Int32 × Mem)} (hrX5_walksFrom : ∀ (p1 : Int32) (p2 : Int32) (p3 : Int32) (M : Mem), CtrI g uX5_walksFrom (nn + 10) (fun r => r.1) rmW [.ref (ga g 196), .int p1, .int p2, .int p3] M (rX5_walksFrom p1 p2 p3 M))   (p1 : Int32) (p2 : Int32) (p3 : Int32) (M : Mem) : V g uX5_walksFrom (nn + 11) rvW rmW 0 [.ref (ga g 196), .int p1, .int p2, .int p3, .null] [] M (hX5_walksFrom rX5_walksFrom p1 p2 p3 M) := by
  unfold hX5_walksFrom
  refine r_iload_n dX5_walksFrom_0 rfl rfl ?_
  refine r_if_lt dX5_walksFrom_1 (fun h => eT h ?_) (fun h => eF h ?_)
  · refine r_iconst ic_0 dX5_walksFrom_16 ?_
    exact vRet rfl rfl rfl dX5_walksFrom_17
  · refine r_iload_n dX5_walksFrom_4 rfl rfl ?_
    refine r_aload_n dX5_walksFrom_5 rfl rfl ?_
    refine r_alen (v := 289) dX5_walksFrom_6 kdc_196 (by decide) (by decide) (by decide) ?_
    refine r_icmp_ge dX5_walksFrom_7 (fun h => eT h ?_) (fun h => eF h ?_)
    · refine r_iconst ic_0 dX5_walksFrom_16 ?_
      exact vRet rfl rfl rfl dX5_walksFrom_17
    · refine r_aload_n dX5_walksFrom_10 rfl rfl ?_
      refine r_iload_n dX5_walksFrom_11 rfl rfl ?_
      refine r_zald dX5_walksFrom_12 kdc_196 (fun v1 => ?_)
      refine r_if_eq dX5_walksFrom_13 (fun h => eT h ?_) (fun h => eF h ?_)
      · refine r_iload_n dX5_walksFrom_18 rfl rfl ?_
        refine r_if_gt dX5_walksFrom_19 (fun h => eT h ?_) (fun h => eF h ?_)
        · refine r_aload_n dX5_walksFrom_38 rfl rfl ?_
          refine r_iload_n dX5_walksFrom_39 rfl rfl ?_
          refine r_iconst ic_1 dX5_walksFrom_40 ?_
          refine r_zast dX5_walksFrom_41 kdc_196 (fun M2 => ?_)
          refine r_aload_n dX5_walksFrom_42 rfl rfl ?_
          refine r_iload_n dX5_walksFrom_43 rfl rfl ?_
          refine r_bipush bp_17 dX5_walksFrom_44 ?_
          refine r_iadd dX5_walksFrom_46 ?_
          refine r_iload_n dX5_walksFrom_47 rfl rfl ?_
          refine r_iconst ic_1 dX5_walksFrom_48 ?_
          refine r_isub dX5_walksFrom_49 ?_
          refine r_iload_n dX5_walksFrom_50 rfl rfl ?_
          refine r_calli (cl_S [.ref (ga g 196), .int (p1 + 17), .int (p2 - 1), .int p3] bX5_walksFrom (by omega) dX5_walksFrom_51 ml_X5_19 rfl (Nat.le_of_ble_eq_true rfl) rfl) (hrX5_walksFrom _ _ _ _) (fun r3 _ => ?_)
          refine r_aload_n dX5_walksFrom_54 rfl rfl ?_
          refine r_iload_n dX5_walksFrom_55 rfl rfl ?_
          refine r_iconst ic_1 dX5_walksFrom_56 ?_
          refine r_iadd dX5_walksFrom_57 ?_
          refine r_iload_n dX5_walksFrom_58 rfl rfl ?_
          refine r_iconst ic_1 dX5_walksFrom_59 ?_
          refine r_isub dX5_walksFrom_60 ?_
          refine r_iload_n dX5_walksFrom_61 rfl rfl ?_
          refine r_calli (cl_S [.ref (ga g 196), .int (p1 + 1), .int (p2 - 1), .int p3] bX5_walksFrom (by omega) dX5_walksFrom_62 ml_X5_19 rfl (Nat.le_of_ble_eq_true rfl) rfl) (hrX5_walksFrom _ _ _ _) (fun r4 _ => ?_)
          refine r_iadd dX5_walksFrom_65 ?_
          refine r_aload_n dX5_walksFrom_66 rfl rfl ?_
          refine r_iload_n dX5_walksFrom_67 rfl rfl ?_
          refine r_bipush bp_17 dX5_walksFrom_68 ?_
          refine r_isub dX5_walksFrom_70 ?_
          refine r_iload_n dX5_walksFrom_71 rfl rfl ?_
          refine r_iconst ic_1 dX5_walksFrom_72 ?_
          refine r_isub dX5_walksFrom_73 ?_
          refine r_iload_n dX5_walksFrom_74 rfl rfl ?_
          refine r_calli (cl_S [.ref (ga g 196), .int (p1 - 17), .int (p2 - 1), .int p3] bX5_walksFrom (by omega) dX5_walksFrom_75 ml_X5_19 rfl (Nat.le_of_ble_eq_true rfl) rfl) (hrX5_walksFrom _ _ _ _) (fun r5 _ => ?_)
          refine r_iadd dX5_walksFrom_78 ?_
          refine r_aload_n dX5_walksFrom_79 rfl rfl ?_
          refine r_iload_n dX5_walksFrom_80 rfl rfl ?_
          refine r_iconst ic_1 dX5_walksFrom_81 ?_
          refine r_isub dX5_walksFrom_82 ?_
          refine r_iload_n dX5_walksFrom_83 rfl rfl ?_
          refine r_iconst ic_1 dX5_walksFrom_84 ?_
          refine r_isub dX5_walksFrom_85 ?_
          refine r_iload_n dX5_walksFrom_86 rfl rfl ?_
          refine r_calli (cl_S [.ref (ga g 196), .int (p1 - 1), .int (p2 - 1), .int p3] bX5_walksFrom (by omega) dX5_walksFrom_87 ml_X5_19 rfl (Nat.le_of_ble_eq_true rfl) rfl) (hrX5_walksFrom _ _ _ _) (fun r6 _ => ?_)
          refine r_iadd dX5_walksFrom_90 ?_
          refine r_bndi (fun x7 => ?_)
          refine r_istore (l' := [.ref (ga g 196), .int p1, .int p2, .int p3, .int x7]) dX5_walksFrom_91 (Nat.le_of_ble_eq_true rfl) rfl rfl ?_
          refine r_aload_n dX5_walksFrom_93 rfl rfl ?_
          refine r_iload_n dX5_walksFrom_94 rfl rfl ?_
          refine r_iconst ic_0 dX5_walksFrom_95 ?_
          refine r_zast dX5_walksFrom_96 kdc_196 (fun M8 => ?_)
          refine r_iload dX5_walksFrom_97 rfl ?_
          exact vRet rfl rfl rfl dX5_walksFrom_99
        · refine r_iload_n dX5_walksFrom_22 rfl rfl ?_
          refine r_iconst ic_m1 dX5_walksFrom_23 ?_
          refine r_icmp_eq dX5_walksFrom_24 (fun h => eT h ?_) (fun h => eF h ?_)
          · refine r_iconst ic_1 dX5_walksFrom_32 ?_
            refine r_goto dX5_walksFrom_33 ?_
            exact vRet rfl rfl rfl dX5_walksFrom_37
          · refine r_iload_n dX5_walksFrom_27 rfl rfl ?_
            refine r_iload_n dX5_walksFrom_28 rfl rfl ?_
            refine r_icmp_ne dX5_walksFrom_29 (fun h => eF h ?_) (fun h => eT h ?_)
            · refine r_iconst ic_0 dX5_walksFrom_36 ?_
              exact vRet rfl rfl rfl dX5_walksFrom_37
            · refine r_iconst ic_1 dX5_walksFrom_32 ?_
              refine r_goto dX5_walksFrom_33 ?_
              exact vRet rfl rfl rfl dX5_walksFrom_37
      · refine r_iconst ic_0 dX5_walksFrom_16 ?_
        exact vRet rfl rfl rfl dX5_walksFrom_17
set_option maxHeartbeats 4000000 in
set_option maxRecDepth 100000 in
theorem kX5_walksFrom {g : G} : ∀ (n : Nat) (p1 : Int32) (p2 : Int32) (p3 : Int32) (M : Mem), CtrI g uX5_walksFrom (n + 10) (fun r => r.1) rmW [.ref (ga g 196), .int p1, .int p2, .int p3] M (fX5_walksFrom n p1 p2 p3 M)
  | 0 => fun _ _ _ _ => fun _ h => (by cases h)
  | n + 1 => fun p1 p2 p3 M => CtrI.of mX5_walksFrom rfl (Nat.le_of_ble_eq_true rfl) rfl (vX5_walksFrom n (kX5_walksFrom n) p1 p2 p3 M)
set_option maxHeartbeats 4000000 in
set_option maxRecDepth 100000 in
theorem vX5_walksTo {g : G}   (p1 : Int32) (p2 : Int32) (M : Mem) : V g uX5_walksTo 41 rvW rmW 0 [.ref (ga g 195), .int p1, .int p2] [] M (fX5_walksTo p1 p2 M) := by
  unfold fX5_walksTo
  refine r_aload_n dX5_walksTo_0 rfl rfl ?_
  refine r_getR (k' := 196) dX5_walksTo_1 fl_X5_9 kdc_195 rfl ?_
  refine r_sipush sp_144 dX5_walksTo_4 ?_
  refine r_iload_n dX5_walksTo_7 rfl rfl ?_
  refine r_iload_n dX5_walksTo_8 rfl rfl ?_
  refine r_calli (cl_S [.ref (ga g 196), .int 144, .int p1, .int p2] bX5_walksFrom (by decide) dX5_walksTo_9 ml_X5_19 rfl (Nat.le_of_ble_eq_true rfl) rfl) (kX5_walksFrom RU _ _ _ _) (fun r1 _ => ?_)
  exact vRet rfl rfl rfl dX5_walksTo_12
theorem kX5_walksTo {g : G}   (p1 : Int32) (p2 : Int32) (M : Mem) : CtrI g uX5_walksTo 41 (fun r => r.1) rmW [.ref (ga g 195), .int p1, .int p2] M (fX5_walksTo p1 p2 M) := CtrI.of mX5_walksTo rfl (Nat.le_of_ble_eq_true rfl) rfl (vX5_walksTo p1 p2 M)
set_option maxHeartbeats 4000000 in
set_option maxRecDepth 100000 in
theorem vX11_walks {g : G}   (p1 : Int32) (p2 : Int32) (p3 : Int32) (M : Mem) : V g uX11_walks 42 rvW rmW 0 [.ref (ga g 0), .int p1, .int p2, .int p3] [] M (fX11_walks p1 p2 p3 M) := by
  unfold fX11_walks
  refine r_iload_n dX11_walks_0 rfl rfl ?_
  refine r_iconst ic_0 dX11_walks_1 ?_
  refine r_bipush bp_8 dX11_walks_2 ?_
  refine r_calliT (cl_S [.int p1, .int 0, .int 8] bX11_isWithin (by decide) dX11_walks_4 ml_X11_71 rfl (Nat.le_of_ble_eq_true rfl) rfl) (kX11_isWithin _ _ _ _) ?_
  refine r_if_ne dX11_walks_7 (fun h => eF h ?_) (fun h => eT h ?_)
  · refine r_iload_n dX11_walks_12 rfl rfl ?_
    refine r_bipush bp_m100 dX11_walks_13 ?_
    refine r_icmp_ne dX11_walks_15 (fun h => eF h ?_) (fun h => eT h ?_)
    · refine r_iload_n dX11_walks_28 rfl rfl ?_
      refine r_bipush bp_m8 dX11_walks_29 ?_
      refine r_bipush bp_8 dX11_walks_31 ?_
      refine r_calliT (cl_S [.int p2, .int (-8), .int 8] bX11_isWithin (by decide) dX11_walks_33 ml_X11_71 rfl (Nat.le_of_ble_eq_true rfl) rfl) (kX11_isWithin _ _ _ _) ?_
      refine r_if_eq dX11_walks_36 (fun h => eT h ?_) (fun h => eF h ?_)
      · refine r_iconst ic_m1 dX11_walks_50 ?_
        exact vRet rfl rfl rfl dX11_walks_51
      · refine r_iload_n dX11_walks_39 rfl rfl ?_
        refine r_bipush bp_m8 dX11_walks_40 ?_
        refine r_bipush bp_8 dX11_walks_42 ?_
        refine r_calliT (cl_S [.int p3, .int (-8), .int 8] bX11_isWithin (by decide) dX11_walks_44 ml_X11_71 rfl (Nat.le_of_ble_eq_true rfl) rfl) (kX11_isWithin _ _ _ _) ?_
        refine r_if_ne dX11_walks_47 (fun h => eF h ?_) (fun h => eT h ?_)
        · refine r_aload_n dX11_walks_52 rfl rfl ?_
          refine r_getR (k' := 195) dX11_walks_53 fl_X11_57 kdc_0 rfl ?_
          refine r_iload_n dX11_walks_56 rfl rfl ?_
          refine r_iload_n dX11_walks_57 rfl rfl ?_
          refine r_bipush bp_8 dX11_walks_58 ?_
          refine r_iadd dX11_walks_60 ?_
          refine r_bipush bp_17 dX11_walks_61 ?_
          refine r_imul dX11_walks_63 ?_
          refine r_iload_n dX11_walks_64 rfl rfl ?_
          refine r_iadd dX11_walks_65 ?_
          refine r_bipush bp_8 dX11_walks_66 ?_
          refine r_iadd dX11_walks_68 ?_
          refine r_calli (cl_V [.int p1, .int ((((p3 + 8) * 17) + p2) + 8)] bX5_walksTo (by decide) dX11_walks_69 ml_X11_283 kdc_195 rfl (Nat.le_of_ble_eq_true rfl) rfl) (kX5_walksTo _ _ _) (fun r1 _ => ?_)
          exact vRet rfl rfl rfl dX11_walks_72
        · refine r_iconst ic_m1 dX11_walks_50 ?_
          exact vRet rfl rfl rfl dX11_walks_51
    · refine r_aload_n dX11_walks_18 rfl rfl ?_
      refine r_getR (k' := 195) dX11_walks_19 fl_X11_57 kdc_0 rfl ?_
      refine r_iload_n dX11_walks_22 rfl rfl ?_
      refine r_iconst ic_m1 dX11_walks_23 ?_
      refine r_calli (cl_V [.int p1, .int (-1)] bX5_walksTo (by decide) dX11_walks_24 ml_X11_283 kdc_195 rfl (Nat.le_of_ble_eq_true rfl) rfl) (kX5_walksTo _ _ _) (fun r2 _ => ?_)
      exact vRet rfl rfl rfl dX11_walks_27
  · refine r_iconst ic_m1 dX11_walks_10 ?_
    exact vRet rfl rfl rfl dX11_walks_11
theorem kX11_walks {g : G}   (p1 : Int32) (p2 : Int32) (p3 : Int32) (M : Mem) : CtrI g uX11_walks 42 (fun r => r.1) rmW [.ref (ga g 0), .int p1, .int p2, .int p3] M (fX11_walks p1 p2 p3 M) := CtrI.of mX11_walks rfl (Nat.le_of_ble_eq_true rfl) rfl (vX11_walks p1 p2 p3 M)
set_option maxHeartbeats 4000000 in
set_option maxRecDepth 100000 in
theorem vX12_walkEnds_L69 {g : G}  (K96 : Option (Int32 × Mem)) (z4 : Int32) (z5 : Int32) (c1 : Int32) (c3 : Int32) (M : Mem)  (hK96 : V g uX12_walkEnds 1 rvW rmW 96 [.ref (ga g 198), .int c1, .null, .int c3, .int z4, .int z5, .null, .null] [] M (K96)) : ∀ (n : Nat) (y7 : Int32), V g uX12_walkEnds 1 rvW rmW 69 [.ref (ga g 198), .int c1, .null, .int c3, .int z4, .int z5, .null, .int y7] [] M (fX12_walkEnds_L69 K96 z4 z5 M n y7) := by
  intro n
  induction n with
  | zero => intro y7; exact vNone
  | succ n ih =>
    intro y7
    rw [fX12_walkEnds_L69]
    refine r_iload dX12_walkEnds_69 rfl ?_
    refine r_iload dX12_walkEnds_71 rfl ?_
    refine r_icmp_ge dX12_walkEnds_73 (fun h => eT h ?_) (fun h => eF h ?_)
    · exact vSub (l' := [.ref (ga g 198), .int c1, .null, .int c3, .int z4, .int z5, .null, .null]) ⟨Or.inr rfl, ⟨Or.inr rfl, ⟨Or.inl rfl, ⟨Or.inr rfl, ⟨Or.inr rfl, ⟨Or.inr rfl, ⟨Or.inl rfl, ⟨Or.inl rfl, trivial⟩⟩⟩⟩⟩⟩⟩⟩ (hK96 )
    · refine r_aload_n dX12_walkEnds_76 rfl rfl ?_
      refine r_getR (k' := 223) dX12_walkEnds_77 fl_X12_86 kdc_198 rfl ?_
      refine r_iload dX12_walkEnds_80 rfl ?_
      refine r_iald dX12_walkEnds_82 kdc_223 (fun v6 => ?_)
      refine r_iload dX12_walkEnds_83 rfl ?_
      refine r_icmp_ne dX12_walkEnds_85 (fun h => eF h ?_) (fun h => eT h ?_)
      · refine r_iinc (l' := [.ref (ga g 198), .int c1, .null, .int c3, .int z4, .int z5, .null, .int (y7 + 1)]) dX12_walkEnds_90 rfl (inc_1 _) (Nat.le_of_ble_eq_true rfl) rfl rfl ?_
        refine r_goto dX12_walkEnds_93 ?_
        exact ih _
      · refine r_iconst ic_m1 dX12_walkEnds_88 ?_
        exact vRet rfl rfl rfl dX12_walkEnds_89
set_option maxHeartbeats 4000000 in
set_option maxRecDepth 100000 in
theorem vX12_walkEnds_L18 {g : G}   (z1 : Int32)    : ∀ (n : Nat) (y3 : Int32) (y4 : Int32) (y5 : Int32) (M : Mem), V g uX12_walkEnds 1 rvW rmW 18 [.ref (ga g 198), .int z1, .null, .int y3, .int y4, .int y5, .null, .null] [] M (fX12_walkEnds_L18 z1 n y3 y4 y5 M) := by
  intro n
  induction n with
  | zero => intro y3 y4 y5 M; exact vNone
  | succ n ih =>
    intro y3 y4 y5 M
    rw [fX12_walkEnds_L18]
    refine r_iload dX12_walkEnds_18 rfl ?_
    refine r_iload_n dX12_walkEnds_20 rfl rfl ?_
    refine r_icmp_gt dX12_walkEnds_21 (fun h => eT h ?_) (fun h => eF h ?_)
    · refine r_iload dX12_walkEnds_115 rfl ?_
      exact vRet rfl rfl rfl dX12_walkEnds_117
    · refine r_iload_n dX12_walkEnds_24 rfl rfl ?_
      refine r_iconst ic_4 dX12_walkEnds_25 ?_
      refine r_irem dX12_walkEnds_26 (by decide) ?_
      refine r_bndi (fun x2 => ?_)
      refine r_istore (l' := [.ref (ga g 198), .int z1, .null, .int y3, .int y4, .int y5, .int x2, .null]) dX12_walkEnds_27 (Nat.le_of_ble_eq_true rfl) rfl rfl ?_
      refine r_iload dX12_walkEnds_29 rfl ?_
      refine r_iload dX12_walkEnds_31 rfl ?_
      refine eJ (fun (J3 : (Int32) → Option (Int32 × Mem)) => ∀ (t4 : Int32), V g uX12_walkEnds 1 rvW rmW 63 [.ref (ga g 198), .int z1, .null, .int y3, .null, .int y5, .null, .null] [.int t4, .int y4] M (J3 t4)) (fun t4 => ?_) (fun J3 hJ3 => ?_)
      · refine r_iadd dX12_walkEnds_63 ?_
        refine r_bndi (fun x5 => ?_)
        refine r_istore (l' := [.ref (ga g 198), .int z1, .null, .int y3, .int x5, .int y5, .null, .null]) dX12_walkEnds_64 (Nat.le_of_ble_eq_true rfl) rfl rfl ?_
        refine r_iconst ic_0 dX12_walkEnds_66 ?_
        refine r_istore (l' := [.ref (ga g 198), .int z1, .null, .int y3, .int x5, .int y5, .null, .int 0]) dX12_walkEnds_67 (Nat.le_of_ble_eq_true rfl) rfl rfl ?_
        refine vX12_walkEnds_L69 _ _ _ _ _ _ (?_) FU _
        · refine r_aload_n dX12_walkEnds_96 rfl rfl ?_
          refine r_getR (k' := 223) dX12_walkEnds_97 fl_X12_86 kdc_198 rfl ?_
          refine r_iload dX12_walkEnds_100 rfl ?_
          refine r_iload dX12_walkEnds_102 rfl ?_
          refine r_iast dX12_walkEnds_104 kdc_223 (fun M7 => ?_)
          refine r_iload_n dX12_walkEnds_105 rfl rfl ?_
          refine r_iconst ic_4 dX12_walkEnds_106 ?_
          refine r_idiv dX12_walkEnds_107 (by decide) ?_
          refine r_bndi (fun x8 => ?_)
          refine r_istore_n (l' := [.ref (ga g 198), .int z1, .null, .int x8, .int x5, .int y5, .null, .null]) dX12_walkEnds_108 rfl (Nat.le_of_ble_eq_true rfl) rfl rfl ?_
          refine r_iinc (l' := [.ref (ga g 198), .int z1, .null, .int x8, .int x5, .int (y5 + 1), .null, .null]) dX12_walkEnds_109 rfl (inc_1 _) (Nat.le_of_ble_eq_true rfl) rfl rfl ?_
          refine r_goto dX12_walkEnds_112 ?_
          exact ih _ _ _ _
      · refine r_if_ne dX12_walkEnds_33 (fun h => eF h ?_) (fun h => eT h ?_)
        · refine r_iload dX12_walkEnds_40 rfl ?_
          refine r_iconst ic_1 dX12_walkEnds_42 ?_
          refine r_icmp_ne dX12_walkEnds_43 (fun h => eF h ?_) (fun h => eT h ?_)
          · refine r_iload dX12_walkEnds_50 rfl ?_
            refine r_iconst ic_2 dX12_walkEnds_52 ?_
            refine r_icmp_ne dX12_walkEnds_53 (fun h => eF h ?_) (fun h => eT h ?_)
            · refine r_bipush bp_m100 dX12_walkEnds_61 ?_
              exact vSub (l' := [.ref (ga g 198), .int z1, .null, .int y3, .null, .int y5, .null, .null]) ⟨Or.inr rfl, ⟨Or.inr rfl, ⟨Or.inl rfl, ⟨Or.inr rfl, ⟨Or.inl rfl, ⟨Or.inr rfl, ⟨Or.inl rfl, ⟨Or.inl rfl, trivial⟩⟩⟩⟩⟩⟩⟩⟩ (hJ3 _)
            · refine r_bipush bp_100 dX12_walkEnds_56 ?_
              refine r_goto dX12_walkEnds_58 ?_
              exact vSub (l' := [.ref (ga g 198), .int z1, .null, .int y3, .null, .int y5, .null, .null]) ⟨Or.inr rfl, ⟨Or.inr rfl, ⟨Or.inl rfl, ⟨Or.inr rfl, ⟨Or.inl rfl, ⟨Or.inr rfl, ⟨Or.inl rfl, ⟨Or.inl rfl, trivial⟩⟩⟩⟩⟩⟩⟩⟩ (hJ3 _)
          · refine r_iconst ic_m1 dX12_walkEnds_46 ?_
            refine r_goto dX12_walkEnds_47 ?_
            exact vSub (l' := [.ref (ga g 198), .int z1, .null, .int y3, .null, .int y5, .null, .null]) ⟨Or.inr rfl, ⟨Or.inr rfl, ⟨Or.inl rfl, ⟨Or.inr rfl, ⟨Or.inl rfl, ⟨Or.inr rfl, ⟨Or.inl rfl, ⟨Or.inl rfl, trivial⟩⟩⟩⟩⟩⟩⟩⟩ (hJ3 _)
        · refine r_iconst ic_1 dX12_walkEnds_36 ?_
          refine r_goto dX12_walkEnds_37 ?_
          exact vSub (l' := [.ref (ga g 198), .int z1, .null, .int y3, .null, .int y5, .null, .null]) ⟨Or.inr rfl, ⟨Or.inr rfl, ⟨Or.inl rfl, ⟨Or.inr rfl, ⟨Or.inl rfl, ⟨Or.inr rfl, ⟨Or.inl rfl, ⟨Or.inl rfl, trivial⟩⟩⟩⟩⟩⟩⟩⟩ (hJ3 _)
set_option maxHeartbeats 4000000 in
set_option maxRecDepth 100000 in
theorem vX12_walkEnds {g : G}   (p1 : Int32) (p2 : Int32) (M : Mem) : V g uX12_walkEnds 1 rvW rmW 0 [.ref (ga g 198), .int p1, .int p2, .null, .null, .null, .null, .null] [] M (fX12_walkEnds p1 p2 M) := by
  unfold fX12_walkEnds
  refine r_iload_n dX12_walkEnds_0 rfl rfl ?_
  refine r_istore_n (l' := [.ref (ga g 198), .int p1, .int p2, .int p2, .null, .null, .null, .null]) dX12_walkEnds_1 rfl (Nat.le_of_ble_eq_true rfl) rfl rfl ?_
  refine r_sipush sp_5050 dX12_walkEnds_2 ?_
  refine r_istore (l' := [.ref (ga g 198), .int p1, .int p2, .int p2, .int 5050, .null, .null, .null]) dX12_walkEnds_5 (Nat.le_of_ble_eq_true rfl) rfl rfl ?_
  refine r_aload_n dX12_walkEnds_7 rfl rfl ?_
  refine r_getR (k' := 223) dX12_walkEnds_8 fl_X12_86 kdc_198 rfl ?_
  refine r_iconst ic_0 dX12_walkEnds_11 ?_
  refine r_iload dX12_walkEnds_12 rfl ?_
  refine r_iast dX12_walkEnds_14 kdc_223 (fun M1 => ?_)
  refine r_iconst ic_1 dX12_walkEnds_15 ?_
  refine r_istore (l' := [.ref (ga g 198), .int p1, .int p2, .int p2, .int 5050, .int 1, .null, .null]) dX12_walkEnds_16 (Nat.le_of_ble_eq_true rfl) rfl rfl ?_
  refine vSub (l' := [.ref (ga g 198), .int p1, .null, .int p2, .int 5050, .int 1, .null, .null]) ⟨Or.inr rfl, ⟨Or.inr rfl, ⟨Or.inl rfl, ⟨Or.inr rfl, ⟨Or.inr rfl, ⟨Or.inr rfl, ⟨Or.inl rfl, ⟨Or.inl rfl, trivial⟩⟩⟩⟩⟩⟩⟩⟩ ?_
  refine vX12_walkEnds_L18 _ FU _ _ _ _
theorem kX12_walkEnds {g : G}   (p1 : Int32) (p2 : Int32) (M : Mem) : CtrI g uX12_walkEnds 1 (fun r => r.1) rmW [.ref (ga g 198), .int p1, .int p2] M (fX12_walkEnds p1 p2 M) := CtrI.of mX12_walkEnds rfl (Nat.le_of_ble_eq_true rfl) rfl (vX12_walkEnds p1 p2 M)
set_option maxHeartbeats 4000000 in
set_option maxRecDepth 100000 in
theorem vX12_walks_L66 {g : G}   (z1 : Int32) (z2 : Int32) (z3 : Int32) (z4 : Int32)    : ∀ (n : Nat) (y5 : Int32) (y6 : Int32) (M : Mem), V g uX12_walks 2 rvW rmW 66 [.ref (ga g 198), .int z1, .int z2, .int z3, .int z4, .int y5, .int y6, .null] [] M (fX12_walks_L66 z1 z2 z3 z4 n y5 y6 M) := by
  intro n
  induction n with
  | zero => intro y5 y6 M; exact vNone
  | succ n ih =>
    intro y5 y6 M
    rw [fX12_walks_L66]
    refine r_iload dX12_walks_66 rfl ?_
    refine r_iconst ic_1 dX12_walks_68 ?_
    refine r_iconst ic_2 dX12_walks_69 ?_
    refine r_iload_n dX12_walks_70 rfl rfl ?_
    refine r_imul dX12_walks_71 ?_
    refine r_ishl dX12_walks_72 ?_
    refine r_icmp_ge dX12_walks_73 (fun h => eT h ?_) (fun h => eF h ?_)
    · refine r_iload dX12_walks_123 rfl ?_
      exact vRet rfl rfl rfl dX12_walks_125
    · refine r_aload_n dX12_walks_76 rfl rfl ?_
      refine r_iload_n dX12_walks_77 rfl rfl ?_
      refine r_iload dX12_walks_78 rfl ?_
      refine r_calli (cl_V [.int z1, .int y6] bX12_walkEnds (by decide) dX12_walks_80 ml_X12_401 kdc_198 rfl (Nat.le_of_ble_eq_true rfl) rfl) (kX12_walkEnds _ _ _) (fun r5 _ => ?_)
      refine r_istore (l' := [.ref (ga g 198), .int z1, .int z2, .int z3, .int z4, .int y5, .int y6, .int r5.1]) dX12_walks_83 (Nat.le_of_ble_eq_true rfl) rfl rfl ?_
      refine r_iload dX12_walks_85 rfl ?_
      refine r_iconst ic_m1 dX12_walks_87 ?_
      refine eJ (fun (J6 : (Int32) → Option (Int32 × Mem)) => ∀ (a7 : Int32), V g uX12_walks 2 rvW rmW 117 [.ref (ga g 198), .int z1, .int z2, .int z3, .int z4, .int a7, .int y6, .null] [] r5.2 (J6 a7)) (fun a7 => ?_) (fun J6 hJ6 => ?_)
      · refine r_iinc (l' := [.ref (ga g 198), .int z1, .int z2, .int z3, .int z4, .int a7, .int (y6 + 1), .null]) dX12_walks_117 rfl (inc_1 _) (Nat.le_of_ble_eq_true rfl) rfl rfl ?_
        refine r_goto dX12_walks_120 ?_
        exact ih _ _ _
      · refine r_icmp_eq dX12_walks_88 (fun h => eT h ?_) (fun h => eF h ?_)
        · exact vSub (l' := [.ref (ga g 198), .int z1, .int z2, .int z3, .int z4, .int y5, .int y6, .null]) ⟨Or.inr rfl, ⟨Or.inr rfl, ⟨Or.inr rfl, ⟨Or.inr rfl, ⟨Or.inr rfl, ⟨Or.inr rfl, ⟨Or.inr rfl, ⟨Or.inl rfl, trivial⟩⟩⟩⟩⟩⟩⟩⟩ (hJ6 _)
        · refine r_iload dX12_walks_91 rfl ?_
          refine eJ (fun (J8 : Option (Int32 × Mem)) => V g uX12_walks 2 rvW rmW 111 [.ref (ga g 198), .int z1, .int z2, .int z3, .int z4, .int y5, .int y6, .null] [] r5.2 (J8)) ( ?_) (fun J8 hJ8 => ?_)
          · refine r_iload dX12_walks_111 rfl ?_
            refine r_iconst ic_1 dX12_walks_113 ?_
            refine r_iadd dX12_walks_114 ?_
            refine r_bndi (fun x9 => ?_)
            refine r_istore (l' := [.ref (ga g 198), .int z1, .int z2, .int z3, .int z4, .int x9, .int y6, .null]) dX12_walks_115 (Nat.le_of_ble_eq_true rfl) rfl rfl ?_
            exact hJ6 _
          · refine r_if_ne dX12_walks_93 (fun h => eF h ?_) (fun h => eT h ?_)
            · exact vSub (l' := [.ref (ga g 198), .int z1, .int z2, .int z3, .int z4, .int y5, .int y6, .null]) ⟨Or.inr rfl, ⟨Or.inr rfl, ⟨Or.inr rfl, ⟨Or.inr rfl, ⟨Or.inr rfl, ⟨Or.inr rfl, ⟨Or.inr rfl, ⟨Or.inl rfl, trivial⟩⟩⟩⟩⟩⟩⟩⟩ (hJ8 )
            · refine r_iload dX12_walks_96 rfl ?_
              refine r_sipush sp_5050 dX12_walks_98 ?_
              refine r_bipush bp_100 dX12_walks_101 ?_
              refine r_iload_n dX12_walks_103 rfl rfl ?_
              refine r_imul dX12_walks_104 ?_
              refine r_iadd dX12_walks_105 ?_
              refine r_iload_n dX12_walks_106 rfl rfl ?_
              refine r_iadd dX12_walks_107 ?_
              refine r_icmp_ne dX12_walks_108 (fun h => eF h ?_) (fun h => eT h ?_)
              · exact vSub (l' := [.ref (ga g 198), .int z1, .int z2, .int z3, .int z4, .int y5, .int y6, .null]) ⟨Or.inr rfl, ⟨Or.inr rfl, ⟨Or.inr rfl, ⟨Or.inr rfl, ⟨Or.inr rfl, ⟨Or.inr rfl, ⟨Or.inr rfl, ⟨Or.inl rfl, trivial⟩⟩⟩⟩⟩⟩⟩⟩ (hJ6 _)
              · exact vSub (l' := [.ref (ga g 198), .int z1, .int z2, .int z3, .int z4, .int y5, .int y6, .null]) ⟨Or.inr rfl, ⟨Or.inr rfl, ⟨Or.inr rfl, ⟨Or.inr rfl, ⟨Or.inr rfl, ⟨Or.inr rfl, ⟨Or.inr rfl, ⟨Or.inl rfl, trivial⟩⟩⟩⟩⟩⟩⟩⟩ (hJ8 )
set_option maxHeartbeats 4000000 in
set_option maxRecDepth 100000 in
theorem vX12_walks {g : G}   (p1 : Int32) (p2 : Int32) (p3 : Int32) (M : Mem) : V g uX12_walks 2 rvW rmW 0 [.ref (ga g 198), .int p1, .int p2, .int p3, .null, .null, .null, .null] [] M (fX12_walks p1 p2 p3 M) := by
  unfold fX12_walks
  refine r_aload_n dX12_walks_0 rfl rfl ?_
  refine r_iconst ic_0 dX12_walks_1 ?_
  refine r_put dX12_walks_2 fw_X12_122 kdc_198 (fun M1 => ?_)
  refine r_iload_n dX12_walks_5 rfl rfl ?_
  refine r_bipush bp_m100 dX12_walks_6 ?_
  refine eJ (fun (J2 : (Int32) → Option (Int32 × Mem)) => ∀ (t3 : Int32), V g uX12_walks 2 rvW rmW 16 [.ref (ga g 198), .int p1, .int p2, .int p3, .null, .null, .null, .null] [.int t3] M1 (J2 t3)) (fun t3 => ?_) (fun J2 hJ2 => ?_)
  · refine r_istore (l' := [.ref (ga g 198), .int p1, .int p2, .int p3, .int t3, .null, .null, .null]) dX12_walks_16 (Nat.le_of_ble_eq_true rfl) rfl rfl ?_
    refine r_aload_n dX12_walks_18 rfl rfl ?_
    refine r_iload_n dX12_walks_19 rfl rfl ?_
    refine r_iconst ic_0 dX12_walks_20 ?_
    refine r_bipush bp_8 dX12_walks_21 ?_
    refine r_calliT (cl_V [.int p1, .int 0, .int 8] bX12_isIn (by decide) dX12_walks_23 ml_X12_140 kdc_198 rfl (Nat.le_of_ble_eq_true rfl) rfl) (kX12_isIn _ _ _ _) ?_
    refine r_if_eq dX12_walks_26 (fun h => eT h ?_) (fun h => eF h ?_)
    · refine r_iconst ic_m1 dX12_walks_58 ?_
      exact vRet rfl rfl rfl dX12_walks_59
    · refine r_iload dX12_walks_29 rfl ?_
      refine eJ (fun (J4 : Option (Int32 × Mem)) => V g uX12_walks 2 rvW rmW 60 [.ref (ga g 198), .int p1, .int p2, .int p3, .int t3, .null, .null, .null] [] M1 (J4)) ( ?_) (fun J4 hJ4 => ?_)
      · refine r_iconst ic_0 dX12_walks_60 ?_
        refine r_istore (l' := [.ref (ga g 198), .int p1, .int p2, .int p3, .int t3, .int 0, .null, .null]) dX12_walks_61 (Nat.le_of_ble_eq_true rfl) rfl rfl ?_
        refine r_iconst ic_0 dX12_walks_63 ?_
        refine r_istore (l' := [.ref (ga g 198), .int p1, .int p2, .int p3, .int t3, .int 0, .int 0, .null]) dX12_walks_64 (Nat.le_of_ble_eq_true rfl) rfl rfl ?_
        refine vX12_walks_L66 _ _ _ _ FU _ _ _
      · refine r_if_ne dX12_walks_31 (fun h => eF h ?_) (fun h => eT h ?_)
        · exact hJ4
        · refine r_aload_n dX12_walks_34 rfl rfl ?_
          refine r_iload_n dX12_walks_35 rfl rfl ?_
          refine r_bipush bp_m8 dX12_walks_36 ?_
          refine r_bipush bp_8 dX12_walks_38 ?_
          refine r_calliT (cl_V [.int p2, .int (-8), .int 8] bX12_isIn (by decide) dX12_walks_40 ml_X12_140 kdc_198 rfl (Nat.le_of_ble_eq_true rfl) rfl) (kX12_isIn _ _ _ _) ?_
          refine r_if_eq dX12_walks_43 (fun h => eT h ?_) (fun h => eF h ?_)
          · refine r_iconst ic_m1 dX12_walks_58 ?_
            exact vRet rfl rfl rfl dX12_walks_59
          · refine r_aload_n dX12_walks_46 rfl rfl ?_
            refine r_iload_n dX12_walks_47 rfl rfl ?_
            refine r_bipush bp_m8 dX12_walks_48 ?_
            refine r_bipush bp_8 dX12_walks_50 ?_
            refine r_calliT (cl_V [.int p3, .int (-8), .int 8] bX12_isIn (by decide) dX12_walks_52 ml_X12_140 kdc_198 rfl (Nat.le_of_ble_eq_true rfl) rfl) (kX12_isIn _ _ _ _) ?_
            refine r_if_ne dX12_walks_55 (fun h => eF h ?_) (fun h => eT h ?_)
            · exact hJ4
            · refine r_iconst ic_m1 dX12_walks_58 ?_
              exact vRet rfl rfl rfl dX12_walks_59
  · refine r_icmp_ne dX12_walks_8 (fun h => eF h ?_) (fun h => eT h ?_)
    · refine r_iconst ic_0 dX12_walks_15 ?_
      exact hJ2 _
    · refine r_iconst ic_1 dX12_walks_11 ?_
      refine r_goto dX12_walks_12 ?_
      exact hJ2 _
theorem kX12_walks {g : G}   (p1 : Int32) (p2 : Int32) (p3 : Int32) (M : Mem) : CtrI g uX12_walks 2 (fun r => r.1) rmW [.ref (ga g 198), .int p1, .int p2, .int p3] M (fX12_walks p1 p2 p3 M) := CtrI.of mX12_walks rfl (Nat.le_of_ble_eq_true rfl) rfl (vX12_walks p1 p2 p3 M)
set_option maxHeartbeats 4000000 in
set_option maxRecDepth 100000 in
theorem vX5_leastApart_L20 {g : G}  (K41 : Int32 → Option (Int32)) (z4 : Int32) (c0 : Int32) (c1 : Int32) (c3 : Int32) (M : Mem)  (hK41 : ∀ (e2 : Int32), V g uX5_leastApart 1 rvI (rmP M) 41 [.int c0, .int c1, .int e2, .int c3, .int z4] [] M (K41 e2)) : ∀ (n : Nat) (y2 : Int32), V g uX5_leastApart 1 rvI (rmP M) 20 [.int c0, .int c1, .int y2, .int c3, .int z4] [] M (fX5_leastApart_L20 K41 z4 n y2) := by
  intro n
  induction n with
  | zero => intro y2; exact vNone
  | succ n ih =>
    intro y2
    rw [fX5_leastApart_L20]
    refine r_iload_n dX5_leastApart_20 rfl rfl ?_
    refine r_sipush sp_30000 dX5_leastApart_21 ?_
    refine r_icmp_ge dX5_leastApart_24 (fun h => eT h ?_) (fun h => eF h ?_)
    · exact hK41 _
    · refine r_iload_n dX5_leastApart_27 rfl rfl ?_
      refine r_iload_n dX5_leastApart_28 rfl rfl ?_
      refine r_imul dX5_leastApart_29 ?_
      refine r_iload dX5_leastApart_30 rfl ?_
      refine r_icmp_ge dX5_leastApart_32 (fun h => eT h ?_) (fun h => eF h ?_)
      · exact hK41 _
      · refine r_iinc (l' := [.int c0, .int c1, .int (y2 + 1), .int c3, .int z4]) dX5_leastApart_35 rfl (inc_1 _) (Nat.le_of_ble_eq_true rfl) rfl rfl ?_
        refine r_goto dX5_leastApart_38 ?_
        exact ih _
set_option maxHeartbeats 4000000 in
set_option maxRecDepth 100000 in
theorem vX5_leastApart_L4 {g : G}  (K49 : Int32 → Int32 → Option (Int32)) (z0 : Int32) (c1 : Int32) (M : Mem)  (hK49 : ∀ (e2 : Int32) (e3 : Int32), V g uX5_leastApart 1 rvI (rmP M) 49 [.null, .int c1, .int e2, .int e3, .null] [] M (K49 e2 e3)) : ∀ (n : Nat) (y2 : Int32) (y3 : Int32), V g uX5_leastApart 1 rvI (rmP M) 4 [.int z0, .int c1, .int y2, .int y3, .null] [] M (fX5_leastApart_L4 K49 z0 n y2 y3) := by
  intro n
  induction n with
  | zero => intro y2 y3; exact vNone
  | succ n ih =>
    intro y2 y3
    rw [fX5_leastApart_L4]
    refine r_iload_n dX5_leastApart_4 rfl rfl ?_
    refine r_sipush sp_3588 dX5_leastApart_5 ?_
    refine r_icmp_gt dX5_leastApart_8 (fun h => eT h ?_) (fun h => eF h ?_)
    · refine r_iconst ic_m1 dX5_leastApart_65 ?_
      exact vRet rfl rfl rfl dX5_leastApart_66
    · refine r_iconst ic_1 dX5_leastApart_11 ?_
      refine r_iload_n dX5_leastApart_12 rfl rfl ?_
      refine r_iload_n dX5_leastApart_13 rfl rfl ?_
      refine r_imul dX5_leastApart_14 ?_
      refine r_iload_n dX5_leastApart_15 rfl rfl ?_
      refine r_imul dX5_leastApart_16 ?_
      refine r_iadd dX5_leastApart_17 ?_
      refine r_bndi (fun x1 => ?_)
      refine r_istore (l' := [.int z0, .int c1, .int y2, .int y3, .int x1]) dX5_leastApart_18 (Nat.le_of_ble_eq_true rfl) rfl rfl ?_
      refine vX5_leastApart_L20 _ _ _ _ _ _ (fun e2 => ?_) FU _
      · refine r_iload_n dX5_leastApart_41 rfl rfl ?_
        refine r_iload_n dX5_leastApart_42 rfl rfl ?_
        refine r_imul dX5_leastApart_43 ?_
        refine r_iload dX5_leastApart_44 rfl ?_
        refine r_icmp_ne dX5_leastApart_46 (fun h => eF h ?_) (fun h => eT h ?_)
        · refine r_iinc (l' := [.int z0, .int c1, .int e2, .int (y3 + 1), .int x1]) dX5_leastApart_59 rfl (inc_1 _) (Nat.le_of_ble_eq_true rfl) rfl rfl ?_
          refine r_goto dX5_leastApart_62 ?_
          exact vSub (l' := [.int z0, .int c1, .int e2, .int (y3 + 1), .null]) ⟨Or.inr rfl, ⟨Or.inr rfl, ⟨Or.inr rfl, ⟨Or.inr rfl, ⟨Or.inl rfl, trivial⟩⟩⟩⟩⟩ (ih _ _)
        · exact vSub (l' := [.null, .int c1, .int e2, .int y3, .null]) ⟨Or.inl rfl, ⟨Or.inr rfl, ⟨Or.inr rfl, ⟨Or.inr rfl, ⟨Or.inl rfl, trivial⟩⟩⟩⟩⟩ (hK49 _ _)
set_option maxHeartbeats 4000000 in
set_option maxRecDepth 100000 in
theorem vX5_leastApart {g : G}   (p0 : Int32) (p1 : Int32) (M : Mem) : V g uX5_leastApart 1 rvI (rmP M) 0 [.int p0, .int p1, .null, .null, .null] [] M (fX5_leastApart p0 p1) := by
  unfold fX5_leastApart
  refine r_iconst ic_2 dX5_leastApart_0 ?_
  refine r_istore_n (l' := [.int p0, .int p1, .int 2, .null, .null]) dX5_leastApart_1 rfl (Nat.le_of_ble_eq_true rfl) rfl rfl ?_
  refine r_iconst ic_1 dX5_leastApart_2 ?_
  refine r_istore_n (l' := [.int p0, .int p1, .int 2, .int 1, .null]) dX5_leastApart_3 rfl (Nat.le_of_ble_eq_true rfl) rfl rfl ?_
  refine vX5_leastApart_L4 _ _ _ _ (fun e3 e4 => ?_) FU _ _
  · refine r_iload_n dX5_leastApart_49 rfl rfl ?_
    refine r_if_eq dX5_leastApart_50 (fun h => eT h ?_) (fun h => eF h ?_)
    · refine r_iload_n dX5_leastApart_57 rfl rfl ?_
      exact vRet rfl rfl rfl dX5_leastApart_58
    · refine r_iload_n dX5_leastApart_53 rfl rfl ?_
      refine r_goto dX5_leastApart_54 ?_
      exact vRet rfl rfl rfl dX5_leastApart_58
theorem kX5_leastApart {g : G}   (p0 : Int32) (p1 : Int32) (M : Mem) : CtrI g uX5_leastApart 1 (fun r => r) (rmP M) [.int p0, .int p1] M (fX5_leastApart p0 p1) := CtrI.of mX5_leastApart rfl (Nat.le_of_ble_eq_true rfl) rfl (vX5_leastApart p0 p1 M)
