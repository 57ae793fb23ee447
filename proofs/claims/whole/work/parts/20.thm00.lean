set_option maxHeartbeats 4000000 in
set_option maxRecDepth 100000 in
theorem vX6_forget {g : G}    (M : Mem) : V g uX6_forget 1 rvU rmU 0 [.ref (ga g 105)] [] M (fX6_forget M) := by
  unfold fX6_forget
  refine r_aload_n dX6_forget_0 rfl rfl ?_
  refine r_iconst ic_0 dX6_forget_1 ?_
  refine r_put dX6_forget_2 fw_X6_22 kdc_105 (fun M1 => ?_)
  exact vRet rfl rfl trivial dX6_forget_5
theorem kX6_forget {g : G}    (M : Mem) : CtrV g uX6_forget 1 rmU [.ref (ga g 105)] M (fX6_forget M) := CtrV.of mX6_forget rfl (Nat.le_of_ble_eq_true rfl) rfl (vX6_forget M)
set_option maxHeartbeats 4000000 in
set_option maxRecDepth 100000 in
theorem vX11_state {g : G}   (p1 : Int32) (M : Mem) : V g uX11_state 2 rvW rmW 0 [.ref (ga g 0), .int p1, .null] [] M (fX11_state p1 M) := by
  unfold fX11_state
  refine r_aload_n dX11_state_0 rfl rfl ?_
  refine r_getR (k' := 1) dX11_state_1 fl_X11_12 kdc_0 rfl ?_
  refine r_getR (k' := 2) dX11_state_4 fl_X11_61 kdc_1 rfl ?_
  refine r_getI dX11_state_7 fl_X11_64 kdc_2 ?_
  refine r_bndi (fun x1 => ?_)
  refine r_istore_n (l' := [.ref (ga g 0), .int p1, .int x1]) dX11_state_10 rfl (Nat.le_of_ble_eq_true rfl) rfl rfl ?_
  refine r_aload_n dX11_state_11 rfl rfl ?_
  refine r_getR (k' := 1) dX11_state_12 fl_X11_12 kdc_0 rfl ?_
  refine r_getR (k' := 2) dX11_state_15 fl_X11_61 kdc_1 rfl ?_
  refine r_iload_n dX11_state_18 rfl rfl ?_
  refine r_put dX11_state_19 fw_X11_64 kdc_2 (fun M2 => ?_)
  refine r_aload_n dX11_state_22 rfl rfl ?_
  refine r_getR (k' := 105) dX11_state_23 fl_X11_22 kdc_0 rfl ?_
  refine r_callv (cl_V [] bX6_forget (by decide) dX11_state_26 ml_X11_68 kdc_105 rfl (Nat.le_of_ble_eq_true rfl) rfl) (kX6_forget _) (fun M3 _ => ?_)
  refine r_iload_n dX11_state_29 rfl rfl ?_
  exact vRet rfl rfl rfl dX11_state_30
theorem kX11_state {g : G}   (p1 : Int32) (M : Mem) : CtrI g uX11_state 2 (fun r => r.1) rmW [.ref (ga g 0), .int p1] M (fX11_state p1 M) := CtrI.of mX11_state rfl (Nat.le_of_ble_eq_true rfl) rfl (vX11_state p1 M)
set_option maxHeartbeats 4000000 in
set_option maxRecDepth 100000 in
theorem vX12_state {g : G}   (p1 : Int32) (M : Mem) : V g uX12_state 1 rvW rmW 0 [.ref (ga g 198), .int p1, .null] [] M (fX12_state p1 M) := by
  unfold fX12_state
  refine r_aload_n dX12_state_0 rfl rfl ?_
  refine r_iconst ic_0 dX12_state_1 ?_
  refine r_put dX12_state_2 fw_X12_122 kdc_198 (fun M1 => ?_)
  refine r_aload_n dX12_state_5 rfl rfl ?_
  refine r_getR (k' := 199) dX12_state_6 fl_X12_7 kdc_198 rfl ?_
  refine r_iconst ic_1 dX12_state_9 ?_
  refine r_iald dX12_state_10 kdc_199 (fun v2 => ?_)
  refine r_istore_n (l' := [.ref (ga g 198), .int p1, .int v2]) dX12_state_11 rfl (Nat.le_of_ble_eq_true rfl) rfl rfl ?_
  refine r_aload_n dX12_state_12 rfl rfl ?_
  refine r_getR (k' := 199) dX12_state_13 fl_X12_7 kdc_198 rfl ?_
  refine r_iconst ic_1 dX12_state_16 ?_
  refine r_iload_n dX12_state_17 rfl rfl ?_
  refine r_iast dX12_state_18 kdc_199 (fun M3 => ?_)
  refine r_aload_n dX12_state_19 rfl rfl ?_
  refine r_iconst ic_0 dX12_state_20 ?_
  refine r_put dX12_state_21 fw_X12_125 kdc_198 (fun M4 => ?_)
  refine r_iload_n dX12_state_24 rfl rfl ?_
  exact vRet rfl rfl rfl dX12_state_25
theorem kX12_state {g : G}   (p1 : Int32) (M : Mem) : CtrI g uX12_state 1 (fun r => r.1) rmW [.ref (ga g 198), .int p1] M (fX12_state p1 M) := CtrI.of mX12_state rfl (Nat.le_of_ble_eq_true rfl) rfl (vX12_state p1 M)
set_option maxHeartbeats 4000000 in
set_option maxRecDepth 100000 in
theorem vX11_isWithin {g : G}   (p0 : Int32) (p1 : Int32) (p2 : Int32) (M : Mem) : V g uX11_isWithin 1 rvI (rmP M) 0 [.int p0, .int p1, .int p2] [] M (some (fX11_isWithin p0 p1 p2)) := by
  unfold fX11_isWithin
  refine r_iload_n dX11_isWithin_0 rfl rfl ?_
  refine r_iload_n dX11_isWithin_1 rfl rfl ?_
  refine r_icmp_lt dX11_isWithin_2 (fun h => eTT h ?_) (fun h => eFT h ?_)
  · refine r_iconst ic_0 dX11_isWithin_14 ?_
    exact vRet rfl rfl rfl dX11_isWithin_15
  · refine r_iload_n dX11_isWithin_5 rfl rfl ?_
    refine r_iload_n dX11_isWithin_6 rfl rfl ?_
    refine r_icmp_gt dX11_isWithin_7 (fun h => eTT h ?_) (fun h => eFT h ?_)
    · refine r_iconst ic_0 dX11_isWithin_14 ?_
      exact vRet rfl rfl rfl dX11_isWithin_15
    · refine r_iconst ic_1 dX11_isWithin_10 ?_
      refine r_goto dX11_isWithin_11 ?_
      exact vRet rfl rfl rfl dX11_isWithin_15
theorem zX11_isWithin (p0 : Int32) (p1 : Int32) (p2 : Int32) : fX11_isWithin p0 p1 p2 = 0 ∨ fX11_isWithin p0 p1 p2 = 1 := by
  unfold fX11_isWithin
  repeat' split
  all_goals first | exact Or.inl rfl | exact Or.inr rfl
theorem kX11_isWithin {g : G}   (p0 : Int32) (p1 : Int32) (p2 : Int32) (M : Mem) : CtrI g uX11_isWithin 1 (fun r => r) (rmP M) [.int p0, .int p1, .int p2] M (some (fX11_isWithin p0 p1 p2)) := CtrI.of mX11_isWithin rfl (Nat.le_of_ble_eq_true rfl) rfl (vX11_isWithin p0 p1 p2 M)
set_option maxHeartbeats 4000000 in
set_option maxRecDepth 100000 in
theorem vX9_addPerson {g : G}   (p1 : Int32) (M : Mem) : V g uX9_addPerson 1 rvU rmU 0 [.ref (ga g 2), .int p1] [] M (fX9_addPerson p1 M) := by
  unfold fX9_addPerson
  refine r_aload_n dX9_addPerson_0 rfl rfl ?_
  refine r_getI dX9_addPerson_1 fl_X9_52 kdc_2 ?_
  refine r_bipush bp_12 dX9_addPerson_4 ?_
  refine r_icmp_ge dX9_addPerson_6 (fun h => eT h ?_) (fun h => eF h ?_)
  · exact vRet rfl rfl trivial dX9_addPerson_49
  · refine r_aload_n dX9_addPerson_9 rfl rfl ?_
    refine r_getR (k' := 3) dX9_addPerson_10 fl_X9_9 kdc_2 rfl ?_
    refine r_aload_n dX9_addPerson_13 rfl rfl ?_
    refine r_getI dX9_addPerson_14 fl_X9_52 kdc_2 ?_
    refine r_iload_n dX9_addPerson_17 rfl rfl ?_
    refine r_iast dX9_addPerson_18 kdc_3 (fun M1 => ?_)
    refine r_aload_n dX9_addPerson_19 rfl rfl ?_
    refine r_getR (k' := 4) dX9_addPerson_20 fl_X9_15 kdc_2 rfl ?_
    refine r_aload_n dX9_addPerson_23 rfl rfl ?_
    refine r_getI dX9_addPerson_24 fl_X9_52 kdc_2 ?_
    refine r_iconst ic_0 dX9_addPerson_27 ?_
    refine r_iast dX9_addPerson_28 kdc_4 (fun M2 => ?_)
    refine r_aload_n dX9_addPerson_29 rfl rfl ?_
    refine r_getR (k' := 5) dX9_addPerson_30 fl_X9_18 kdc_2 rfl ?_
    refine r_aload_n dX9_addPerson_33 rfl rfl ?_
    refine r_getI dX9_addPerson_34 fl_X9_52 kdc_2 ?_
    refine r_iconst ic_0 dX9_addPerson_37 ?_
    refine r_iast dX9_addPerson_38 kdc_5 (fun M3 => ?_)
    refine r_aload_n dX9_addPerson_39 rfl rfl ?_
    refine r_dup dX9_addPerson_40 rfl ?_
    refine r_getI dX9_addPerson_41 fl_X9_52 kdc_2 ?_
    refine r_iconst ic_1 dX9_addPerson_44 ?_
    refine r_iadd dX9_addPerson_45 ?_
    refine r_put dX9_addPerson_46 fw_X9_52 kdc_2 (fun M4 => ?_)
    exact vRet rfl rfl trivial dX9_addPerson_49
theorem kX9_addPerson {g : G}   (p1 : Int32) (M : Mem) : CtrV g uX9_addPerson 1 rmU [.ref (ga g 2), .int p1] M (fX9_addPerson p1 M) := CtrV.of mX9_addPerson rfl (Nat.le_of_ble_eq_true rfl) rfl (vX9_addPerson p1 M)
set_option maxHeartbeats 4000000 in
set_option maxRecDepth 100000 in
theorem vX11_person {g : G}   (p1 : Int32) (M : Mem) : V g uX11_person 2 rvW rmW 0 [.ref (ga g 0), .int p1, .null] [] M (fX11_person p1 M) := by
  unfold fX11_person
  refine r_aload_n dX11_person_0 rfl rfl ?_
  refine r_getR (k' := 1) dX11_person_1 fl_X11_12 kdc_0 rfl ?_
  refine r_getR (k' := 2) dX11_person_4 fl_X11_61 kdc_1 rfl ?_
  refine r_astore_n (l' := [.ref (ga g 0), .int p1, .ref (ga g 2)]) dX11_person_7 rfl (Nat.le_of_ble_eq_true rfl) rfl rfl ?_
  refine r_iload_n dX11_person_8 rfl rfl ?_
  refine r_iconst ic_0 dX11_person_9 ?_
  refine r_bipush bp_9 dX11_person_10 ?_
  refine r_calliT (cl_S [.int p1, .int 0, .int 9] bX11_isWithin (by decide) dX11_person_12 ml_X11_71 rfl (Nat.le_of_ble_eq_true rfl) rfl) (kX11_isWithin _ _ _ _) ?_
  refine r_if_eq dX11_person_15 (fun h => eT h ?_) (fun h => eF h ?_)
  · refine r_iconst ic_m1 dX11_person_27 ?_
    exact vRet rfl rfl rfl dX11_person_28
  · refine r_aload_n dX11_person_18 rfl rfl ?_
    refine r_getI dX11_person_19 fl_X11_75 kdc_2 ?_
    refine r_bipush bp_12 dX11_person_22 ?_
    refine r_icmp_lt dX11_person_24 (fun h => eT h ?_) (fun h => eF h ?_)
    · refine r_aload_n dX11_person_29 rfl rfl ?_
      refine r_iload_n dX11_person_30 rfl rfl ?_
      refine r_callv (cl_V [.int p1] bX9_addPerson (by decide) dX11_person_31 ml_X11_78 kdc_2 rfl (Nat.le_of_ble_eq_true rfl) rfl) (kX9_addPerson _ _) (fun M1 _ => ?_)
      refine r_aload_n dX11_person_34 rfl rfl ?_
      refine r_getR (k' := 105) dX11_person_35 fl_X11_22 kdc_0 rfl ?_
      refine r_callv (cl_V [] bX6_forget (by decide) dX11_person_38 ml_X11_68 kdc_105 rfl (Nat.le_of_ble_eq_true rfl) rfl) (kX6_forget _) (fun M2 _ => ?_)
      refine r_aload_n dX11_person_41 rfl rfl ?_
      refine r_getI dX11_person_42 fl_X11_75 kdc_2 ?_
      refine r_iconst ic_1 dX11_person_45 ?_
      refine r_isub dX11_person_46 ?_
      exact vRet rfl rfl rfl dX11_person_47
    · refine r_iconst ic_m1 dX11_person_27 ?_
      exact vRet rfl rfl rfl dX11_person_28
theorem kX11_person {g : G}   (p1 : Int32) (M : Mem) : CtrI g uX11_person 2 (fun r => r.1) rmW [.ref (ga g 0), .int p1] M (fX11_person p1 M) := CtrI.of mX11_person rfl (Nat.le_of_ble_eq_true rfl) rfl (vX11_person p1 M)
set_option maxHeartbeats 4000000 in
set_option maxRecDepth 100000 in
theorem vX12_isIn {g : G}   (p1 : Int32) (p2 : Int32) (p3 : Int32) (M : Mem) : V g uX12_isIn 1 rvI (rmP M) 0 [.ref (ga g 198), .int p1, .int p2, .int p3] [] M (some (fX12_isIn p1 p2 p3)) := by
  unfold fX12_isIn
  refine r_iload_n dX12_isIn_0 rfl rfl ?_
  refine r_iload_n dX12_isIn_1 rfl rfl ?_
  refine r_icmp_lt dX12_isIn_2 (fun h => eTT h ?_) (fun h => eFT h ?_)
  · refine r_iconst ic_0 dX12_isIn_14 ?_
    exact vRet rfl rfl rfl dX12_isIn_15
  · refine r_iload_n dX12_isIn_5 rfl rfl ?_
    refine r_iload_n dX12_isIn_6 rfl rfl ?_
    refine r_icmp_gt dX12_isIn_7 (fun h => eTT h ?_) (fun h => eFT h ?_)
    · refine r_iconst ic_0 dX12_isIn_14 ?_
      exact vRet rfl rfl rfl dX12_isIn_15
    · refine r_iconst ic_1 dX12_isIn_10 ?_
      refine r_goto dX12_isIn_11 ?_
      exact vRet rfl rfl rfl dX12_isIn_15
theorem zX12_isIn (p1 : Int32) (p2 : Int32) (p3 : Int32) : fX12_isIn p1 p2 p3 = 0 ∨ fX12_isIn p1 p2 p3 = 1 := by
  unfold fX12_isIn
  repeat' split
  all_goals first | exact Or.inl rfl | exact Or.inr rfl
theorem kX12_isIn {g : G}   (p1 : Int32) (p2 : Int32) (p3 : Int32) (M : Mem) : CtrI g uX12_isIn 1 (fun r => r) (rmP M) [.ref (ga g 198), .int p1, .int p2, .int p3] M (some (fX12_isIn p1 p2 p3)) := CtrI.of mX12_isIn rfl (Nat.le_of_ble_eq_true rfl) rfl (vX12_isIn p1 p2 p3 M)
set_option maxHeartbeats 4000000 in
set_option maxRecDepth 100000 in
theorem vX12_person {g : G}   (p1 : Int32) (M : Mem) : V g uX12_person 2 rvW rmW 0 [.ref (ga g 198), .int p1] [] M (fX12_person p1 M) := by
  unfold fX12_person
  refine r_aload_n dX12_person_0 rfl rfl ?_
  refine r_iconst ic_0 dX12_person_1 ?_
  refine r_put dX12_person_2 fw_X12_122 kdc_198 (fun M1 => ?_)
  refine r_aload_n dX12_person_5 rfl rfl ?_
  refine r_iload_n dX12_person_6 rfl rfl ?_
  refine r_iconst ic_0 dX12_person_7 ?_
  refine r_bipush bp_9 dX12_person_8 ?_
  refine r_calliT (cl_V [.int p1, .int 0, .int 9] bX12_isIn (by decide) dX12_person_10 ml_X12_140 kdc_198 rfl (Nat.le_of_ble_eq_true rfl) rfl) (kX12_isIn _ _ _ _) ?_
  refine r_if_eq dX12_person_13 (fun h => eT h ?_) (fun h => eF h ?_)
  · refine r_iconst ic_m1 dX12_person_25 ?_
    exact vRet rfl rfl rfl dX12_person_26
  · refine r_aload_n dX12_person_16 rfl rfl ?_
    refine r_getI dX12_person_17 fl_X12_134 kdc_198 ?_
    refine r_bipush bp_12 dX12_person_20 ?_
    refine r_icmp_ne dX12_person_22 (fun h => eF h ?_) (fun h => eT h ?_)
    · refine r_aload_n dX12_person_27 rfl rfl ?_
      refine r_getR (k' := 199) dX12_person_28 fl_X12_7 kdc_198 rfl ?_
      refine r_iconst ic_5 dX12_person_31 ?_
      refine r_aload_n dX12_person_32 rfl rfl ?_
      refine r_getI dX12_person_33 fl_X12_134 kdc_198 ?_
      refine r_iadd dX12_person_36 ?_
      refine r_iload_n dX12_person_37 rfl rfl ?_
      refine r_iast dX12_person_38 kdc_199 (fun M2 => ?_)
      refine r_aload_n dX12_person_39 rfl rfl ?_
      refine r_getR (k' := 199) dX12_person_40 fl_X12_7 kdc_198 rfl ?_
      refine r_bipush bp_17 dX12_person_43 ?_
      refine r_aload_n dX12_person_45 rfl rfl ?_
      refine r_getI dX12_person_46 fl_X12_134 kdc_198 ?_
      refine r_iadd dX12_person_49 ?_
      refine r_iconst ic_0 dX12_person_50 ?_
      refine r_iast dX12_person_51 kdc_199 (fun M3 => ?_)
      refine r_aload_n dX12_person_52 rfl rfl ?_
      refine r_getR (k' := 199) dX12_person_53 fl_X12_7 kdc_198 rfl ?_
      refine r_bipush bp_29 dX12_person_56 ?_
      refine r_aload_n dX12_person_58 rfl rfl ?_
      refine r_getI dX12_person_59 fl_X12_134 kdc_198 ?_
      refine r_iadd dX12_person_62 ?_
      refine r_iconst ic_0 dX12_person_63 ?_
      refine r_iast dX12_person_64 kdc_199 (fun M4 => ?_)
      refine r_aload_n dX12_person_65 rfl rfl ?_
      refine r_aload_n dX12_person_66 rfl rfl ?_
      refine r_getI dX12_person_67 fl_X12_134 kdc_198 ?_
      refine r_iconst ic_1 dX12_person_70 ?_
      refine r_iadd dX12_person_71 ?_
      refine r_put dX12_person_72 fw_X12_134 kdc_198 (fun M5 => ?_)
      refine r_aload_n dX12_person_75 rfl rfl ?_
      refine r_iconst ic_0 dX12_person_76 ?_
      refine r_put dX12_person_77 fw_X12_125 kdc_198 (fun M6 => ?_)
      refine r_aload_n dX12_person_80 rfl rfl ?_
      refine r_getI dX12_person_81 fl_X12_134 kdc_198 ?_
      refine r_iconst ic_1 dX12_person_84 ?_
      refine r_isub dX12_person_85 ?_
      exact vRet rfl rfl rfl dX12_person_86
    · refine r_iconst ic_m1 dX12_person_25 ?_
      exact vRet rfl rfl rfl dX12_person_26
theorem kX12_person {g : G}   (p1 : Int32) (M : Mem) : CtrI g uX12_person 2 (fun r => r.1) rmW [.ref (ga g 198), .int p1] M (fX12_person p1 M) := CtrI.of mX12_person rfl (Nat.le_of_ble_eq_true rfl) rfl (vX12_person p1 M)
set_option maxHeartbeats 4000000 in
set_option maxRecDepth 100000 in
theorem vX9_hasPerson {g : G} {k0 : Nat} (hk0 : kd k0 = (9, 15)) (p1 : Int32) (M : Mem) : V g uX9_hasPerson 1 rvI (rmP M) 0 [.ref (ga g k0), .int p1] [] M (some (fX9_hasPerson k0 p1 M)) := by
  unfold fX9_hasPerson
  refine r_iload_n dX9_hasPerson_0 rfl rfl ?_
  refine r_if_lt dX9_hasPerson_1 (fun h => eTT h ?_) (fun h => eFT h ?_)
  · refine r_iconst ic_0 dX9_hasPerson_16 ?_
    exact vRet rfl rfl rfl dX9_hasPerson_17
  · refine r_iload_n dX9_hasPerson_4 rfl rfl ?_
    refine r_aload_n dX9_hasPerson_5 rfl rfl ?_
    refine r_getI dX9_hasPerson_6 fl_X9_52 hk0 ?_
    refine r_icmp_ge dX9_hasPerson_9 (fun h => eTT h ?_) (fun h => eFT h ?_)
    · refine r_iconst ic_0 dX9_hasPerson_16 ?_
      exact vRet rfl rfl rfl dX9_hasPerson_17
    · refine r_iconst ic_1 dX9_hasPerson_12 ?_
      refine r_goto dX9_hasPerson_13 ?_
      exact vRet rfl rfl rfl dX9_hasPerson_17
theorem zX9_hasPerson (k0 : Nat) (p1 : Int32) (M : Mem) : fX9_hasPerson k0 p1 M = 0 ∨ fX9_hasPerson k0 p1 M = 1 := by
  unfold fX9_hasPerson
  repeat' split
  all_goals first | exact Or.inl rfl | exact Or.inr rfl
theorem kX9_hasPerson {g : G} {k0 : Nat} (hk0 : kd k0 = (9, 15)) (p1 : Int32) (M : Mem) : CtrI g uX9_hasPerson 1 (fun r => r) (rmP M) [.ref (ga g k0), .int p1] M (some (fX9_hasPerson k0 p1 M)) := CtrI.of mX9_hasPerson rfl (Nat.le_of_ble_eq_true rfl) rfl (vX9_hasPerson hk0 p1 M)
set_option maxHeartbeats 4000000 in
set_option maxRecDepth 100000 in
theorem vX9_areTwo {g : G}   (p1 : Int32) (p2 : Int32) (M : Mem) : V g uX9_areTwo 2 rvI (rmP M) 0 [.ref (ga g 2), .int p1, .int p2] [] M (some (fX9_areTwo p1 p2 M)) := by
  unfold fX9_areTwo
  refine r_aload_n dX9_areTwo_0 rfl rfl ?_
  refine r_iload_n dX9_areTwo_1 rfl rfl ?_
  refine r_calliT (cl_V [.int p1] bX9_hasPerson (by decide) dX9_areTwo_2 ml_X9_64 kdc_2 rfl (Nat.le_of_ble_eq_true rfl) rfl) (kX9_hasPerson kdc_2 _ _) ?_
  refine r_if_eq dX9_areTwo_5 (fun h => eTT h ?_) (fun h => eFT h ?_)
  · refine r_iconst ic_0 dX9_areTwo_25 ?_
    exact vRet rfl rfl rfl dX9_areTwo_26
  · refine r_aload_n dX9_areTwo_8 rfl rfl ?_
    refine r_iload_n dX9_areTwo_9 rfl rfl ?_
    refine r_calliT (cl_V [.int p2] bX9_hasPerson (by decide) dX9_areTwo_10 ml_X9_64 kdc_2 rfl (Nat.le_of_ble_eq_true rfl) rfl) (kX9_hasPerson kdc_2 _ _) ?_
    refine r_if_eq dX9_areTwo_13 (fun h => eTT h ?_) (fun h => eFT h ?_)
    · refine r_iconst ic_0 dX9_areTwo_25 ?_
      exact vRet rfl rfl rfl dX9_areTwo_26
    · refine r_iload_n dX9_areTwo_16 rfl rfl ?_
      refine r_iload_n dX9_areTwo_17 rfl rfl ?_
      refine r_icmp_eq dX9_areTwo_18 (fun h => eTT h ?_) (fun h => eFT h ?_)
      · refine r_iconst ic_0 dX9_areTwo_25 ?_
        exact vRet rfl rfl rfl dX9_areTwo_26
      · refine r_iconst ic_1 dX9_areTwo_21 ?_
        refine r_goto dX9_areTwo_22 ?_
        exact vRet rfl rfl rfl dX9_areTwo_26
theorem zX9_areTwo (p1 : Int32) (p2 : Int32) (M : Mem) : fX9_areTwo p1 p2 M = 0 ∨ fX9_areTwo p1 p2 M = 1 := by
  unfold fX9_areTwo
  repeat' split
  all_goals first | exact Or.inl rfl | exact Or.inr rfl | apply zX9_hasPerson
theorem kX9_areTwo {g : G}   (p1 : Int32) (p2 : Int32) (M : Mem) : CtrI g uX9_areTwo 2 (fun r => r) (rmP M) [.ref (ga g 2), .int p1, .int p2] M (some (fX9_areTwo p1 p2 M)) := CtrI.of mX9_areTwo rfl (Nat.le_of_ble_eq_true rfl) rfl (vX9_areTwo p1 p2 M)
set_option maxHeartbeats 4000000 in
set_option maxRecDepth 100000 in
theorem vX9_addBargain {g : G}   (p1 : Int32) (p2 : Int32) (p3 : Int32) (M : Mem) : V g uX9_addBargain 1 rvU rmU 0 [.ref (ga g 2), .int p1, .int p2, .int p3] [] M (fX9_addBargain p1 p2 p3 M) := by
  unfold fX9_addBargain
  refine r_aload_n dX9_addBargain_0 rfl rfl ?_
  refine r_getI dX9_addBargain_1 fl_X9_55 kdc_2 ?_
  refine r_bipush bp_14 dX9_addBargain_4 ?_
  refine r_icmp_ge dX9_addBargain_6 (fun h => eT h ?_) (fun h => eF h ?_)
  · exact vRet rfl rfl trivial dX9_addBargain_80
  · refine r_aload_n dX9_addBargain_9 rfl rfl ?_
    refine r_getR (k' := 6) dX9_addBargain_10 fl_X9_21 kdc_2 rfl ?_
    refine r_aload_n dX9_addBargain_13 rfl rfl ?_
    refine r_getI dX9_addBargain_14 fl_X9_55 kdc_2 ?_
    refine r_iload_n dX9_addBargain_17 rfl rfl ?_
    refine r_iast dX9_addBargain_18 kdc_6 (fun M1 => ?_)
    refine r_aload_n dX9_addBargain_19 rfl rfl ?_
    refine r_getR (k' := 7) dX9_addBargain_20 fl_X9_24 kdc_2 rfl ?_
    refine r_aload_n dX9_addBargain_23 rfl rfl ?_
    refine r_getI dX9_addBargain_24 fl_X9_55 kdc_2 ?_
    refine r_iload_n dX9_addBargain_27 rfl rfl ?_
    refine r_iast dX9_addBargain_28 kdc_7 (fun M2 => ?_)
    refine r_aload_n dX9_addBargain_29 rfl rfl ?_
    refine r_getR (k' := 8) dX9_addBargain_30 fl_X9_27 kdc_2 rfl ?_
    refine r_aload_n dX9_addBargain_33 rfl rfl ?_
    refine r_getI dX9_addBargain_34 fl_X9_55 kdc_2 ?_
    refine r_iload_n dX9_addBargain_37 rfl rfl ?_
    refine r_iast dX9_addBargain_38 kdc_8 (fun M3 => ?_)
    refine r_aload_n dX9_addBargain_39 rfl rfl ?_
    refine r_getR (k' := 9) dX9_addBargain_40 fl_X9_30 kdc_2 rfl ?_
    refine r_aload_n dX9_addBargain_43 rfl rfl ?_
    refine r_getI dX9_addBargain_44 fl_X9_55 kdc_2 ?_
    refine r_bipush bp_9 dX9_addBargain_47 ?_
    refine r_iast dX9_addBargain_49 kdc_9 (fun M4 => ?_)
    refine r_aload_n dX9_addBargain_50 rfl rfl ?_
    refine r_getR (k' := 10) dX9_addBargain_51 fl_X9_33 kdc_2 rfl ?_
    refine r_aload_n dX9_addBargain_54 rfl rfl ?_
    refine r_getI dX9_addBargain_55 fl_X9_55 kdc_2 ?_
    refine r_iconst ic_0 dX9_addBargain_58 ?_
    refine r_iast dX9_addBargain_59 kdc_10 (fun M5 => ?_)
    refine r_aload_n dX9_addBargain_60 rfl rfl ?_
    refine r_getR (k' := 11) dX9_addBargain_61 fl_X9_36 kdc_2 rfl ?_
    refine r_aload_n dX9_addBargain_64 rfl rfl ?_
    refine r_getI dX9_addBargain_65 fl_X9_55 kdc_2 ?_
    refine r_iconst ic_0 dX9_addBargain_68 ?_
    refine r_iast dX9_addBargain_69 kdc_11 (fun M6 => ?_)
    refine r_aload_n dX9_addBargain_70 rfl rfl ?_
    refine r_dup dX9_addBargain_71 rfl ?_
    refine r_getI dX9_addBargain_72 fl_X9_55 kdc_2 ?_
    refine r_iconst ic_1 dX9_addBargain_75 ?_
    refine r_iadd dX9_addBargain_76 ?_
    refine r_put dX9_addBargain_77 fw_X9_55 kdc_2 (fun M7 => ?_)
    exact vRet rfl rfl trivial dX9_addBargain_80
theorem kX9_addBargain {g : G}   (p1 : Int32) (p2 : Int32) (p3 : Int32) (M : Mem) : CtrV g uX9_addBargain 1 rmU [.ref (ga g 2), .int p1, .int p2, .int p3] M (fX9_addBargain p1 p2 p3 M) := CtrV.of mX9_addBargain rfl (Nat.le_of_ble_eq_true rfl) rfl (vX9_addBargain p1 p2 p3 M)
set_option maxHeartbeats 4000000 in
set_option maxRecDepth 100000 in
theorem vX11_bargain {g : G}   (p1 : Int32) (p2 : Int32) (p3 : Int32) (M : Mem) : V g uX11_bargain 3 rvW rmW 0 [.ref (ga g 0), .int p1, .int p2, .int p3, .null] [] M (fX11_bargain p1 p2 p3 M) := by
  unfold fX11_bargain
  refine r_aload_n dX11_bargain_0 rfl rfl ?_
  refine r_getR (k' := 1) dX11_bargain_1 fl_X11_12 kdc_0 rfl ?_
  refine r_getR (k' := 2) dX11_bargain_4 fl_X11_61 kdc_1 rfl ?_
  refine r_astore (l' := [.ref (ga g 0), .int p1, .int p2, .int p3, .ref (ga g 2)]) dX11_bargain_7 (Nat.le_of_ble_eq_true rfl) rfl rfl ?_
  refine r_aload dX11_bargain_9 rfl ?_
  refine r_iload_n dX11_bargain_11 rfl rfl ?_
  refine r_iload_n dX11_bargain_12 rfl rfl ?_
  refine r_calliT (cl_V [.int p1, .int p2] bX9_areTwo (by decide) dX11_bargain_13 ml_X11_82 kdc_2 rfl (Nat.le_of_ble_eq_true rfl) rfl) (kX9_areTwo _ _ _) ?_
  refine r_if_eq dX11_bargain_16 (fun h => eT h ?_) (fun h => eF h ?_)
  · refine r_iconst ic_m1 dX11_bargain_39 ?_
    exact vRet rfl rfl rfl dX11_bargain_40
  · refine r_iload_n dX11_bargain_19 rfl rfl ?_
    refine r_iconst ic_1 dX11_bargain_20 ?_
    refine r_bipush bp_9 dX11_bargain_21 ?_
    refine r_calliT (cl_S [.int p3, .int 1, .int 9] bX11_isWithin (by decide) dX11_bargain_23 ml_X11_71 rfl (Nat.le_of_ble_eq_true rfl) rfl) (kX11_isWithin _ _ _ _) ?_
    refine r_if_eq dX11_bargain_26 (fun h => eT h ?_) (fun h => eF h ?_)
    · refine r_iconst ic_m1 dX11_bargain_39 ?_
      exact vRet rfl rfl rfl dX11_bargain_40
    · refine r_aload dX11_bargain_29 rfl ?_
      refine r_getI dX11_bargain_31 fl_X11_86 kdc_2 ?_
      refine r_bipush bp_14 dX11_bargain_34 ?_
      refine r_icmp_lt dX11_bargain_36 (fun h => eT h ?_) (fun h => eF h ?_)
      · refine r_aload dX11_bargain_41 rfl ?_
        refine r_iload_n dX11_bargain_43 rfl rfl ?_
        refine r_iload_n dX11_bargain_44 rfl rfl ?_
        refine r_iload_n dX11_bargain_45 rfl rfl ?_
        refine r_callv (cl_V [.int p1, .int p2, .int p3] bX9_addBargain (by decide) dX11_bargain_46 ml_X11_89 kdc_2 rfl (Nat.le_of_ble_eq_true rfl) rfl) (kX9_addBargain _ _ _ _) (fun M1 _ => ?_)
        refine r_aload_n dX11_bargain_49 rfl rfl ?_
        refine r_getR (k' := 105) dX11_bargain_50 fl_X11_22 kdc_0 rfl ?_
        refine r_callv (cl_V [] bX6_forget (by decide) dX11_bargain_53 ml_X11_68 kdc_105 rfl (Nat.le_of_ble_eq_true rfl) rfl) (kX6_forget _) (fun M2 _ => ?_)
        refine r_aload dX11_bargain_56 rfl ?_
        refine r_getI dX11_bargain_58 fl_X11_86 kdc_2 ?_
        refine r_iconst ic_1 dX11_bargain_61 ?_
        refine r_isub dX11_bargain_62 ?_
        exact vRet rfl rfl rfl dX11_bargain_63
      · refine r_iconst ic_m1 dX11_bargain_39 ?_
        exact vRet rfl rfl rfl dX11_bargain_40
theorem kX11_bargain {g : G}   (p1 : Int32) (p2 : Int32) (p3 : Int32) (M : Mem) : CtrI g uX11_bargain 3 (fun r => r.1) rmW [.ref (ga g 0), .int p1, .int p2, .int p3] M (fX11_bargain p1 p2 p3 M) := CtrI.of mX11_bargain rfl (Nat.le_of_ble_eq_true rfl) rfl (vX11_bargain p1 p2 p3 M)
set_option maxHeartbeats 4000000 in
set_option maxRecDepth 100000 in
theorem vX12_isPerson {g : G}   (p1 : Int32) (M : Mem) : V g uX12_isPerson 1 rvI (rmP M) 0 [.ref (ga g 198), .int p1] [] M (some (fX12_isPerson p1 M)) := by
  unfold fX12_isPerson
  refine r_iload_n dX12_isPerson_0 rfl rfl ?_
  refine r_if_lt dX12_isPerson_1 (fun h => eTT h ?_) (fun h => eFT h ?_)
  · refine r_iconst ic_0 dX12_isPerson_16 ?_
    exact vRet rfl rfl rfl dX12_isPerson_17
  · refine r_iload_n dX12_isPerson_4 rfl rfl ?_
    refine r_aload_n dX12_isPerson_5 rfl rfl ?_
    refine r_getI dX12_isPerson_6 fl_X12_134 kdc_198 ?_
    refine r_icmp_ge dX12_isPerson_9 (fun h => eTT h ?_) (fun h => eFT h ?_)
    · refine r_iconst ic_0 dX12_isPerson_16 ?_
      exact vRet rfl rfl rfl dX12_isPerson_17
    · refine r_iconst ic_1 dX12_isPerson_12 ?_
      refine r_goto dX12_isPerson_13 ?_
      exact vRet rfl rfl rfl dX12_isPerson_17
theorem zX12_isPerson (p1 : Int32) (M : Mem) : fX12_isPerson p1 M = 0 ∨ fX12_isPerson p1 M = 1 := by
  unfold fX12_isPerson
  repeat' split
  all_goals first | exact Or.inl rfl | exact Or.inr rfl
theorem kX12_isPerson {g : G}   (p1 : Int32) (M : Mem) : CtrI g uX12_isPerson 1 (fun r => r) (rmP M) [.ref (ga g 198), .int p1] M (some (fX12_isPerson p1 M)) := CtrI.of mX12_isPerson rfl (Nat.le_of_ble_eq_true rfl) rfl (vX12_isPerson p1 M)
set_option maxHeartbeats 4000000 in
set_option maxRecDepth 100000 in
theorem vX12_bargain {g : G}   (p1 : Int32) (p2 : Int32) (p3 : Int32) (M : Mem) : V g uX12_bargain 2 rvW rmW 0 [.ref (ga g 198), .int p1, .int p2, .int p3] [] M (fX12_bargain p1 p2 p3 M) := by
  unfold fX12_bargain
  refine r_aload_n dX12_bargain_0 rfl rfl ?_
  refine r_iconst ic_0 dX12_bargain_1 ?_
  refine r_put dX12_bargain_2 fw_X12_122 kdc_198 (fun M1 => ?_)
  refine r_aload_n dX12_bargain_5 rfl rfl ?_
  refine r_iload_n dX12_bargain_6 rfl rfl ?_
  refine r_calliT (cl_V [.int p1] bX12_isPerson (by decide) dX12_bargain_7 ml_X12_144 kdc_198 rfl (Nat.le_of_ble_eq_true rfl) rfl) (kX12_isPerson _ _) ?_
  refine r_if_eq dX12_bargain_10 (fun h => eT h ?_) (fun h => eF h ?_)
  · refine r_iconst ic_m1 dX12_bargain_46 ?_
    exact vRet rfl rfl rfl dX12_bargain_47
  · refine r_aload_n dX12_bargain_13 rfl rfl ?_
    refine r_iload_n dX12_bargain_14 rfl rfl ?_
    refine r_calliT (cl_V [.int p2] bX12_isPerson (by decide) dX12_bargain_15 ml_X12_144 kdc_198 rfl (Nat.le_of_ble_eq_true rfl) rfl) (kX12_isPerson _ _) ?_
    refine r_if_eq dX12_bargain_18 (fun h => eT h ?_) (fun h => eF h ?_)
    · refine r_iconst ic_m1 dX12_bargain_46 ?_
      exact vRet rfl rfl rfl dX12_bargain_47
    · refine r_iload_n dX12_bargain_21 rfl rfl ?_
      refine r_iload_n dX12_bargain_22 rfl rfl ?_
      refine r_icmp_eq dX12_bargain_23 (fun h => eT h ?_) (fun h => eF h ?_)
      · refine r_iconst ic_m1 dX12_bargain_46 ?_
        exact vRet rfl rfl rfl dX12_bargain_47
      · refine r_aload_n dX12_bargain_26 rfl rfl ?_
        refine r_iload_n dX12_bargain_27 rfl rfl ?_
        refine r_iconst ic_1 dX12_bargain_28 ?_
        refine r_bipush bp_9 dX12_bargain_29 ?_
        refine r_calliT (cl_V [.int p3, .int 1, .int 9] bX12_isIn (by decide) dX12_bargain_31 ml_X12_140 kdc_198 rfl (Nat.le_of_ble_eq_true rfl) rfl) (kX12_isIn _ _ _ _) ?_
        refine r_if_eq dX12_bargain_34 (fun h => eT h ?_) (fun h => eF h ?_)
        · refine r_iconst ic_m1 dX12_bargain_46 ?_
          exact vRet rfl rfl rfl dX12_bargain_47
        · refine r_aload_n dX12_bargain_37 rfl rfl ?_
          refine r_getI dX12_bargain_38 fl_X12_137 kdc_198 ?_
          refine r_bipush bp_14 dX12_bargain_41 ?_
          refine r_icmp_ne dX12_bargain_43 (fun h => eF h ?_) (fun h => eT h ?_)
          · refine r_aload_n dX12_bargain_48 rfl rfl ?_
            refine r_getR (k' := 202) dX12_bargain_49 fl_X12_19 kdc_198 rfl ?_
            refine r_aload_n dX12_bargain_52 rfl rfl ?_
            refine r_getI dX12_bargain_53 fl_X12_137 kdc_198 ?_
            refine r_iload_n dX12_bargain_56 rfl rfl ?_
            refine r_iast dX12_bargain_57 kdc_202 (fun M2 => ?_)
            refine r_aload_n dX12_bargain_58 rfl rfl ?_
            refine r_getR (k' := 203) dX12_bargain_59 fl_X12_22 kdc_198 rfl ?_
            refine r_aload_n dX12_bargain_62 rfl rfl ?_
            refine r_getI dX12_bargain_63 fl_X12_137 kdc_198 ?_
            refine r_iload_n dX12_bargain_66 rfl rfl ?_
            refine r_iast dX12_bargain_67 kdc_203 (fun M3 => ?_)
            refine r_aload_n dX12_bargain_68 rfl rfl ?_
            refine r_getR (k' := 204) dX12_bargain_69 fl_X12_25 kdc_198 rfl ?_
            refine r_aload_n dX12_bargain_72 rfl rfl ?_
            refine r_getI dX12_bargain_73 fl_X12_137 kdc_198 ?_
            refine r_iload_n dX12_bargain_76 rfl rfl ?_
            refine r_iast dX12_bargain_77 kdc_204 (fun M4 => ?_)
            refine r_aload_n dX12_bargain_78 rfl rfl ?_
            refine r_getR (k' := 199) dX12_bargain_79 fl_X12_7 kdc_198 rfl ?_
            refine r_bipush bp_41 dX12_bargain_82 ?_
            refine r_aload_n dX12_bargain_84 rfl rfl ?_
            refine r_getI dX12_bargain_85 fl_X12_137 kdc_198 ?_
            refine r_iadd dX12_bargain_88 ?_
            refine r_bipush bp_9 dX12_bargain_89 ?_
            refine r_iast dX12_bargain_91 kdc_199 (fun M5 => ?_)
            refine r_aload_n dX12_bargain_92 rfl rfl ?_
            refine r_getR (k' := 199) dX12_bargain_93 fl_X12_7 kdc_198 rfl ?_
            refine r_bipush bp_55 dX12_bargain_96 ?_
            refine r_aload_n dX12_bargain_98 rfl rfl ?_
            refine r_getI dX12_bargain_99 fl_X12_137 kdc_198 ?_
            refine r_iadd dX12_bargain_102 ?_
            refine r_iconst ic_0 dX12_bargain_103 ?_
            refine r_iast dX12_bargain_104 kdc_199 (fun M6 => ?_)
            refine r_aload_n dX12_bargain_105 rfl rfl ?_
            refine r_getR (k' := 199) dX12_bargain_106 fl_X12_7 kdc_198 rfl ?_
            refine r_bipush bp_69 dX12_bargain_109 ?_
            refine r_aload_n dX12_bargain_111 rfl rfl ?_
            refine r_getI dX12_bargain_112 fl_X12_137 kdc_198 ?_
            refine r_iadd dX12_bargain_115 ?_
            refine r_iconst ic_0 dX12_bargain_116 ?_
            refine r_iast dX12_bargain_117 kdc_199 (fun M7 => ?_)
            refine r_aload_n dX12_bargain_118 rfl rfl ?_
            refine r_aload_n dX12_bargain_119 rfl rfl ?_
            refine r_getI dX12_bargain_120 fl_X12_137 kdc_198 ?_
            refine r_iconst ic_1 dX12_bargain_123 ?_
            refine r_iadd dX12_bargain_124 ?_
            refine r_put dX12_bargain_125 fw_X12_137 kdc_198 (fun M8 => ?_)
            refine r_aload_n dX12_bargain_128 rfl rfl ?_
            refine r_iconst ic_0 dX12_bargain_129 ?_
            refine r_put dX12_bargain_130 fw_X12_125 kdc_198 (fun M9 => ?_)
            refine r_aload_n dX12_bargain_133 rfl rfl ?_
            refine r_getI dX12_bargain_134 fl_X12_137 kdc_198 ?_
            refine r_iconst ic_1 dX12_bargain_137 ?_
            refine r_isub dX12_bargain_138 ?_
            exact vRet rfl rfl rfl dX12_bargain_139
          · refine r_iconst ic_m1 dX12_bargain_46 ?_
            exact vRet rfl rfl rfl dX12_bargain_47
theorem kX12_bargain {g : G}   (p1 : Int32) (p2 : Int32) (p3 : Int32) (M : Mem) : CtrI g uX12_bargain 2 (fun r => r.1) rmW [.ref (ga g 198), .int p1, .int p2, .int p3] M (fX12_bargain p1 p2 p3 M) := CtrI.of mX12_bargain rfl (Nat.le_of_ble_eq_true rfl) rfl (vX12_bargain p1 p2 p3 M)
set_option maxHeartbeats 4000000 in
set_option maxRecDepth 100000 in
theorem vX9_hasBargain {g : G} {k0 : Nat} (hk0 : kd k0 = (9, 15)) (p1 : Int32) (M : Mem) : V g uX9_hasBargain 1 rvI (rmP M) 0 [.ref (ga g k0), .int p1] [] M (some (fX9_hasBargain k0 p1 M)) := by
  unfold fX9_hasBargain
  refine r_iload_n dX9_hasBargain_0 rfl rfl ?_
  refine r_if_lt dX9_hasBargain_1 (fun h => eTT h ?_) (fun h => eFT h ?_)
  · refine r_iconst ic_0 dX9_hasBargain_16 ?_
    exact vRet rfl rfl rfl dX9_hasBargain_17
  · refine r_iload_n dX9_hasBargain_4 rfl rfl ?_
    refine r_aload_n dX9_hasBargain_5 rfl rfl ?_
    refine r_getI dX9_hasBargain_6 fl_X9_55 hk0 ?_
    refine r_icmp_ge dX9_hasBargain_9 (fun h => eTT h ?_) (fun h => eFT h ?_)
    · refine r_iconst ic_0 dX9_hasBargain_16 ?_
      exact vRet rfl rfl rfl dX9_hasBargain_17
    · refine r_iconst ic_1 dX9_hasBargain_12 ?_
      refine r_goto dX9_hasBargain_13 ?_
      exact vRet rfl rfl rfl dX9_hasBargain_17
theorem zX9_hasBargain (k0 : Nat) (p1 : Int32) (M : Mem) : fX9_hasBargain k0 p1 M = 0 ∨ fX9_hasBargain k0 p1 M = 1 := by
  unfold fX9_hasBargain
  repeat' split
  all_goals first | exact Or.inl rfl | exact Or.inr rfl
theorem kX9_hasBargain {g : G} {k0 : Nat} (hk0 : kd k0 = (9, 15)) (p1 : Int32) (M : Mem) : CtrI g uX9_hasBargain 1 (fun r => r) (rmP M) [.ref (ga g k0), .int p1] M (some (fX9_hasBargain k0 p1 M)) := CtrI.of mX9_hasBargain rfl (Nat.le_of_ble_eq_true rfl) rfl (vX9_hasBargain hk0 p1 M)
set_option maxHeartbeats 4000000 in
set_option maxRecDepth 100000 in
theorem vX9_isOpen {g : G} {k0 : Nat} (hk0 : kd k0 = (9, 15)) (p1 : Int32) (M : Mem) : V g uX9_isOpen 2 rvI (rmP M) 0 [.ref (ga g k0), .int p1] [] M (fX9_isOpen k0 p1 M) := by
  unfold fX9_isOpen
  refine r_aload_n dX9_isOpen_0 rfl rfl ?_
  refine r_iload_n dX9_isOpen_1 rfl rfl ?_
  refine r_calliT (cl_V [.int p1] bX9_hasBargain (by decide) dX9_isOpen_2 ml_X9_68 hk0 rfl (Nat.le_of_ble_eq_true rfl) rfl) (kX9_hasBargain hk0 _ _) ?_
  refine r_if_eq dX9_isOpen_5 (fun h => eT h ?_) (fun h => eF h ?_)
  · refine r_iconst ic_0 dX9_isOpen_21 ?_
    exact vRet rfl rfl rfl dX9_isOpen_22
  · refine r_aload_n dX9_isOpen_8 rfl rfl ?_
    refine r_getR (k' := (k0 + 9)) dX9_isOpen_9 fl_X9_36 hk0 rfl ?_
    refine r_iload_n dX9_isOpen_12 rfl rfl ?_
    refine r_iald dX9_isOpen_13 (kx_9_9 hk0) (fun v1 => ?_)
    refine r_if_ne dX9_isOpen_14 (fun h => eF h ?_) (fun h => eT h ?_)
    · refine r_iconst ic_0 dX9_isOpen_21 ?_
      exact vRet rfl rfl rfl dX9_isOpen_22
    · refine r_iconst ic_1 dX9_isOpen_17 ?_
      refine r_goto dX9_isOpen_18 ?_
      exact vRet rfl rfl rfl dX9_isOpen_22
theorem kX9_isOpen {g : G} {k0 : Nat} (hk0 : kd k0 = (9, 15)) (p1 : Int32) (M : Mem) : CtrI g uX9_isOpen 2 (fun r => r) (rmP M) [.ref (ga g k0), .int p1] M (fX9_isOpen k0 p1 M) := CtrI.of mX9_isOpen rfl (Nat.le_of_ble_eq_true rfl) rfl (vX9_isOpen hk0 p1 M)
set_option maxHeartbeats 4000000 in
set_option maxRecDepth 100000 in
theorem vX11_set {g : G}   (p1 : Int32) (p2 : Int32) (p3 : Int32) (M : Mem) : V g uX11_set 3 rvW rmW 0 [.ref (ga g 0), .int p1, .int p2, .int p3, .null] [] M (fX11_set p1 p2 p3 M) := by
  unfold fX11_set
  refine r_aload_n dX11_set_0 rfl rfl ?_
  refine r_getR (k' := 1) dX11_set_1 fl_X11_12 kdc_0 rfl ?_
  refine r_getR (k' := 2) dX11_set_4 fl_X11_61 kdc_1 rfl ?_
  refine r_astore (l' := [.ref (ga g 0), .int p1, .int p2, .int p3, .ref (ga g 2)]) dX11_set_7 (Nat.le_of_ble_eq_true rfl) rfl rfl ?_
  refine r_iload_n dX11_set_9 rfl rfl ?_
  refine r_iconst ic_0 dX11_set_10 ?_
  refine r_bipush bp_9 dX11_set_11 ?_
  refine r_calliT (cl_S [.int p3, .int 0, .int 9] bX11_isWithin (by decide) dX11_set_13 ml_X11_71 rfl (Nat.le_of_ble_eq_true rfl) rfl) (kX11_isWithin _ _ _ _) ?_
  refine r_if_ne dX11_set_16 (fun h => eF h ?_) (fun h => eT h ?_)
  · refine r_iload_n dX11_set_21 rfl rfl ?_
    refine eJ (fun (J1 : (Mem) → Option (Int32 × Mem)) => ∀ (M2 : Mem), V g uX11_set 3 rvW rmW 104 [.ref (ga g 0), .null, .null, .null, .null] [] M2 (J1 M2)) (fun M2 => ?_) (fun J1 hJ1 => ?_)
    · refine r_aload_n dX11_set_104 rfl rfl ?_
      refine r_getR (k' := 105) dX11_set_105 fl_X11_22 kdc_0 rfl ?_
      refine r_callv (cl_V [] bX6_forget (by decide) dX11_set_108 ml_X11_68 kdc_105 rfl (Nat.le_of_ble_eq_true rfl) rfl) (kX6_forget _) (fun M3 _ => ?_)
      refine r_iconst ic_1 dX11_set_111 ?_
      exact vRet rfl rfl rfl dX11_set_112
    · refine eJ (fun (J4 : Option (Int32 × Mem)) => V g uX11_set 3 rvW rmW 45 [.ref (ga g 0), .int p1, .int p2, .int p3, .ref (ga g 2)] [] M (J4)) ( ?_) (fun J4 hJ4 => ?_)
      · refine r_iload_n dX11_set_45 rfl rfl ?_
        refine r_iconst ic_1 dX11_set_46 ?_
        refine eJ (fun (J5 : Option (Int32 × Mem)) => V g uX11_set 3 rvW rmW 74 [.ref (ga g 0), .int p1, .null, .int p3, .ref (ga g 2)] [] M (J5)) ( ?_) (fun J5 hJ5 => ?_)
        · refine r_iload_n dX11_set_74 rfl rfl ?_
          refine r_iconst ic_2 dX11_set_75 ?_
          refine r_icmp_ne dX11_set_76 (fun h => eF h ?_) (fun h => eT h ?_)
          · refine r_iload_n dX11_set_88 rfl rfl ?_
            refine r_iconst ic_3 dX11_set_89 ?_
            refine r_icmp_ne dX11_set_90 (fun h => eF h ?_) (fun h => eT h ?_)
            · refine r_iconst ic_0 dX11_set_102 ?_
              exact vRet rfl rfl rfl dX11_set_103
            · refine r_aload dX11_set_93 rfl ?_
              refine r_iload_n dX11_set_95 rfl rfl ?_
              refine r_put dX11_set_96 fw_X11_110 kdc_2 (fun M6 => ?_)
              refine r_goto dX11_set_99 ?_
              exact vSub (l' := [.ref (ga g 0), .null, .null, .null, .null]) ⟨Or.inr rfl, ⟨Or.inl rfl, ⟨Or.inl rfl, ⟨Or.inl rfl, ⟨Or.inl rfl, trivial⟩⟩⟩⟩⟩ (hJ1 _)
          · refine r_aload dX11_set_79 rfl ?_
            refine r_iload_n dX11_set_81 rfl rfl ?_
            refine r_put dX11_set_82 fw_X11_107 kdc_2 (fun M7 => ?_)
            refine r_goto dX11_set_85 ?_
            exact vSub (l' := [.ref (ga g 0), .null, .null, .null, .null]) ⟨Or.inr rfl, ⟨Or.inl rfl, ⟨Or.inl rfl, ⟨Or.inl rfl, ⟨Or.inl rfl, trivial⟩⟩⟩⟩⟩ (hJ1 _)
        · refine r_icmp_ne dX11_set_47 (fun h => eF h ?_) (fun h => eT h ?_)
          · exact vSub (l' := [.ref (ga g 0), .int p1, .null, .int p3, .ref (ga g 2)]) ⟨Or.inr rfl, ⟨Or.inr rfl, ⟨Or.inl rfl, ⟨Or.inr rfl, ⟨Or.inr rfl, trivial⟩⟩⟩⟩⟩ (hJ5 )
          · refine r_aload dX11_set_50 rfl ?_
            refine r_iload_n dX11_set_52 rfl rfl ?_
            refine r_calli (cl_V [.int p2] bX9_isOpen (by decide) dX11_set_53 ml_X11_101 kdc_2 rfl (Nat.le_of_ble_eq_true rfl) rfl) (kX9_isOpen kdc_2 _ _) (fun v8 _ => ?_)
            refine r_if_eq dX11_set_56 (fun h => eT h ?_) (fun h => eF h ?_)
            · exact vSub (l' := [.ref (ga g 0), .int p1, .null, .int p3, .ref (ga g 2)]) ⟨Or.inr rfl, ⟨Or.inr rfl, ⟨Or.inl rfl, ⟨Or.inr rfl, ⟨Or.inr rfl, trivial⟩⟩⟩⟩⟩ (hJ5 )
            · refine r_iload_n dX11_set_59 rfl rfl ?_
              refine r_if_le dX11_set_60 (fun h => eT h ?_) (fun h => eF h ?_)
              · exact vSub (l' := [.ref (ga g 0), .int p1, .null, .int p3, .ref (ga g 2)]) ⟨Or.inr rfl, ⟨Or.inr rfl, ⟨Or.inl rfl, ⟨Or.inr rfl, ⟨Or.inr rfl, trivial⟩⟩⟩⟩⟩ (hJ5 )
              · refine r_aload dX11_set_63 rfl ?_
                refine r_getR (k' := 9) dX11_set_65 fl_X11_104 kdc_2 rfl ?_
                refine r_iload_n dX11_set_68 rfl rfl ?_
                refine r_iload_n dX11_set_69 rfl rfl ?_
                refine r_iast dX11_set_70 kdc_9 (fun M9 => ?_)
                refine r_goto dX11_set_71 ?_
                exact vSub (l' := [.ref (ga g 0), .null, .null, .null, .null]) ⟨Or.inr rfl, ⟨Or.inl rfl, ⟨Or.inl rfl, ⟨Or.inl rfl, ⟨Or.inl rfl, trivial⟩⟩⟩⟩⟩ (hJ1 _)
      · refine r_if_ne dX11_set_22 (fun h => eF h ?_) (fun h => eT h ?_)
        · exact hJ4
        · refine r_aload dX11_set_25 rfl ?_
          refine r_iload_n dX11_set_27 rfl rfl ?_
          refine r_calliT (cl_V [.int p2] bX9_hasPerson (by decide) dX11_set_28 ml_X11_93 kdc_2 rfl (Nat.le_of_ble_eq_true rfl) rfl) (kX9_hasPerson kdc_2 _ _) ?_
          refine r_if_eq dX11_set_31 (fun h => eT h ?_) (fun h => eF h ?_)
          · exact hJ4
          · refine r_aload dX11_set_34 rfl ?_
            refine r_getR (k' := 3) dX11_set_36 fl_X11_97 kdc_2 rfl ?_
            refine r_iload_n dX11_set_39 rfl rfl ?_
            refine r_iload_n dX11_set_40 rfl rfl ?_
            refine r_iast dX11_set_41 kdc_3 (fun M10 => ?_)
            refine r_goto dX11_set_42 ?_
            exact vSub (l' := [.ref (ga g 0), .null, .null, .null, .null]) ⟨Or.inr rfl, ⟨Or.inl rfl, ⟨Or.inl rfl, ⟨Or.inl rfl, ⟨Or.inl rfl, trivial⟩⟩⟩⟩⟩ (hJ1 _)
  · refine r_iconst ic_0 dX11_set_19 ?_
    exact vRet rfl rfl rfl dX11_set_20
theorem kX11_set {g : G}   (p1 : Int32) (p2 : Int32) (p3 : Int32) (M : Mem) : CtrI g uX11_set 3 (fun r => r.1) rmW [.ref (ga g 0), .int p1, .int p2, .int p3] M (fX11_set p1 p2 p3 M) := CtrI.of mX11_set rfl (Nat.le_of_ble_eq_true rfl) rfl (vX11_set p1 p2 p3 M)
set_option maxHeartbeats 4000000 in
set_option maxRecDepth 100000 in
theorem vX12_isBargain {g : G}   (p1 : Int32) (M : Mem) : V g uX12_isBargain 1 rvI (rmP M) 0 [.ref (ga g 198), .int p1] [] M (some (fX12_isBargain p1 M)) := by
  unfold fX12_isBargain
  refine r_iload_n dX12_isBargain_0 rfl rfl ?_
  refine r_if_lt dX12_isBargain_1 (fun h => eTT h ?_) (fun h => eFT h ?_)
  · refine r_iconst ic_0 dX12_isBargain_16 ?_
    exact vRet rfl rfl rfl dX12_isBargain_17
  · refine r_iload_n dX12_isBargain_4 rfl rfl ?_
    refine r_aload_n dX12_isBargain_5 rfl rfl ?_
    refine r_getI dX12_isBargain_6 fl_X12_137 kdc_198 ?_
    refine r_icmp_ge dX12_isBargain_9 (fun h => eTT h ?_) (fun h => eFT h ?_)
    · refine r_iconst ic_0 dX12_isBargain_16 ?_
      exact vRet rfl rfl rfl dX12_isBargain_17
    · refine r_iconst ic_1 dX12_isBargain_12 ?_
      refine r_goto dX12_isBargain_13 ?_
      exact vRet rfl rfl rfl dX12_isBargain_17
theorem zX12_isBargain (p1 : Int32) (M : Mem) : fX12_isBargain p1 M = 0 ∨ fX12_isBargain p1 M = 1 := by
  unfold fX12_isBargain
  repeat' split
  all_goals first | exact Or.inl rfl | exact Or.inr rfl
theorem kX12_isBargain {g : G}   (p1 : Int32) (M : Mem) : CtrI g uX12_isBargain 1 (fun r => r) (rmP M) [.ref (ga g 198), .int p1] M (some (fX12_isBargain p1 M)) := CtrI.of mX12_isBargain rfl (Nat.le_of_ble_eq_true rfl) rfl (vX12_isBargain p1 M)
set_option maxHeartbeats 4000000 in
set_option maxRecDepth 100000 in
theorem vX12_set {g : G}   (p1 : Int32) (p2 : Int32) (p3 : Int32) (M : Mem) : V g uX12_set 2 rvW rmW 0 [.ref (ga g 198), .int p1, .int p2, .int p3, .null] [] M (fX12_set p1 p2 p3 M) := by
  unfold fX12_set
  refine r_aload_n dX12_set_0 rfl rfl ?_
  refine r_iconst ic_0 dX12_set_1 ?_
  refine r_put dX12_set_2 fw_X12_122 kdc_198 (fun M1 => ?_)
  refine r_iload_n dX12_set_5 rfl rfl ?_
  refine eJ (fun (J2 : (Int32) → Option (Int32 × Mem)) => ∀ (t3 : Int32), V g uX12_set 2 rvW rmW 106 [.ref (ga g 198), .int p1, .int p2, .int p3, .null] [.int t3] M1 (J2 t3)) (fun t3 => ?_) (fun J2 hJ2 => ?_)
  · refine r_istore (l' := [.ref (ga g 198), .int p1, .int p2, .int p3, .int t3]) dX12_set_106 (Nat.le_of_ble_eq_true rfl) rfl rfl ?_
    refine r_iload dX12_set_108 rfl ?_
    refine r_if_ne dX12_set_110 (fun h => eF h ?_) (fun h => eT h ?_)
    · refine r_iload_n dX12_set_115 rfl rfl ?_
      refine eJ (fun (J4 : (Mem) → Option (Int32 × Mem)) => ∀ (M5 : Mem), V g uX12_set 2 rvW rmW 128 [.ref (ga g 198), .int p1, .int p2, .int p3, .null] [] M5 (J4 M5)) (fun M5 => ?_) (fun J4 hJ4 => ?_)
      · refine r_iload_n dX12_set_128 rfl rfl ?_
        refine r_iconst ic_1 dX12_set_129 ?_
        refine eJ (fun (J6 : (Mem) → Option (Int32 × Mem)) => ∀ (M7 : Mem), V g uX12_set 2 rvW rmW 143 [.ref (ga g 198), .int p1, .null, .int p3, .null] [] M7 (J6 M7)) (fun M7 => ?_) (fun J6 hJ6 => ?_)
        · refine r_iload_n dX12_set_143 rfl rfl ?_
          refine r_iconst ic_1 dX12_set_144 ?_
          refine eJ (fun (J8 : (Mem) → Option (Int32 × Mem)) => ∀ (M9 : Mem), V g uX12_set 2 rvW rmW 159 [.ref (ga g 198), .null, .null, .null, .null] [] M9 (J8 M9)) (fun M9 => ?_) (fun J8 hJ8 => ?_)
          · refine r_aload_n dX12_set_159 rfl rfl ?_
            refine r_iconst ic_0 dX12_set_160 ?_
            refine r_put dX12_set_161 fw_X12_125 kdc_198 (fun M10 => ?_)
            refine r_iconst ic_1 dX12_set_164 ?_
            exact vRet rfl rfl rfl dX12_set_165
          · refine r_icmp_le dX12_set_145 (fun h => eT h ?_) (fun h => eF h ?_)
            · exact vSub (l' := [.ref (ga g 198), .null, .null, .null, .null]) ⟨Or.inr rfl, ⟨Or.inl rfl, ⟨Or.inl rfl, ⟨Or.inl rfl, ⟨Or.inl rfl, trivial⟩⟩⟩⟩⟩ (hJ8 _)
            · refine r_aload_n dX12_set_148 rfl rfl ?_
              refine r_getR (k' := 199) dX12_set_149 fl_X12_7 kdc_198 rfl ?_
              refine r_iconst ic_3 dX12_set_152 ?_
              refine r_iload_n dX12_set_153 rfl rfl ?_
              refine r_iadd dX12_set_154 ?_
              refine r_iconst ic_2 dX12_set_155 ?_
              refine r_isub dX12_set_156 ?_
              refine r_iload_n dX12_set_157 rfl rfl ?_
              refine r_iast dX12_set_158 kdc_199 (fun M11 => ?_)
              exact vSub (l' := [.ref (ga g 198), .null, .null, .null, .null]) ⟨Or.inr rfl, ⟨Or.inl rfl, ⟨Or.inl rfl, ⟨Or.inl rfl, ⟨Or.inl rfl, trivial⟩⟩⟩⟩⟩ (hJ8 _)
        · refine r_icmp_ne dX12_set_130 (fun h => eF h ?_) (fun h => eT h ?_)
          · exact vSub (l' := [.ref (ga g 198), .int p1, .null, .int p3, .null]) ⟨Or.inr rfl, ⟨Or.inr rfl, ⟨Or.inl rfl, ⟨Or.inr rfl, ⟨Or.inl rfl, trivial⟩⟩⟩⟩⟩ (hJ6 _)
          · refine r_aload_n dX12_set_133 rfl rfl ?_
            refine r_getR (k' := 199) dX12_set_134 fl_X12_7 kdc_198 rfl ?_
            refine r_bipush bp_41 dX12_set_137 ?_
            refine r_iload_n dX12_set_139 rfl rfl ?_
            refine r_iadd dX12_set_140 ?_
            refine r_iload_n dX12_set_141 rfl rfl ?_
            refine r_iast dX12_set_142 kdc_199 (fun M12 => ?_)
            exact vSub (l' := [.ref (ga g 198), .int p1, .null, .int p3, .null]) ⟨Or.inr rfl, ⟨Or.inr rfl, ⟨Or.inl rfl, ⟨Or.inr rfl, ⟨Or.inl rfl, trivial⟩⟩⟩⟩⟩ (hJ6 _)
      · refine r_if_ne dX12_set_116 (fun h => eF h ?_) (fun h => eT h ?_)
        · exact vSub (l' := [.ref (ga g 198), .int p1, .int p2, .int p3, .null]) ⟨Or.inr rfl, ⟨Or.inr rfl, ⟨Or.inr rfl, ⟨Or.inr rfl, ⟨Or.inl rfl, trivial⟩⟩⟩⟩⟩ (hJ4 _)
        · refine r_aload_n dX12_set_119 rfl rfl ?_
          refine r_getR (k' := 199) dX12_set_120 fl_X12_7 kdc_198 rfl ?_
          refine r_iconst ic_5 dX12_set_123 ?_
          refine r_iload_n dX12_set_124 rfl rfl ?_
          refine r_iadd dX12_set_125 ?_
          refine r_iload_n dX12_set_126 rfl rfl ?_
          refine r_iast dX12_set_127 kdc_199 (fun M13 => ?_)
          exact vSub (l' := [.ref (ga g 198), .int p1, .int p2, .int p3, .null]) ⟨Or.inr rfl, ⟨Or.inr rfl, ⟨Or.inr rfl, ⟨Or.inr rfl, ⟨Or.inl rfl, trivial⟩⟩⟩⟩⟩ (hJ4 _)
    · refine r_iconst ic_0 dX12_set_113 ?_
      exact vRet rfl rfl rfl dX12_set_114
  · refine r_if_ne dX12_set_6 (fun h => eF h ?_) (fun h => eT h ?_)
    · refine r_iload_n dX12_set_36 rfl rfl ?_
      refine r_iconst ic_1 dX12_set_37 ?_
      refine r_icmp_ne dX12_set_38 (fun h => eF h ?_) (fun h => eT h ?_)
      · refine r_aload_n dX12_set_80 rfl rfl ?_
        refine r_iload_n dX12_set_81 rfl rfl ?_
        refine r_iconst ic_2 dX12_set_82 ?_
        refine r_iconst ic_3 dX12_set_83 ?_
        refine r_calliT (cl_V [.int p1, .int 2, .int 3] bX12_isIn (by decide) dX12_set_84 ml_X12_140 kdc_198 rfl (Nat.le_of_ble_eq_true rfl) rfl) (kX12_isIn _ _ _ _) ?_
        refine eJ (fun (J14 : Option (Int32 × Mem)) => V g uX12_set 2 rvW rmW 105 [.ref (ga g 198), .int p1, .int p2, .int p3, .null] [] M1 (J14)) ( ?_) (fun J14 hJ14 => ?_)
        · refine r_iconst ic_0 dX12_set_105 ?_
          exact hJ2 _
        · refine r_if_eq dX12_set_87 (fun h => eT h ?_) (fun h => eF h ?_)
          · exact hJ14
          · refine r_aload_n dX12_set_90 rfl rfl ?_
            refine r_iload_n dX12_set_91 rfl rfl ?_
            refine r_iconst ic_0 dX12_set_92 ?_
            refine r_bipush bp_9 dX12_set_93 ?_
            refine r_calliT (cl_V [.int p3, .int 0, .int 9] bX12_isIn (by decide) dX12_set_95 ml_X12_140 kdc_198 rfl (Nat.le_of_ble_eq_true rfl) rfl) (kX12_isIn _ _ _ _) ?_
            refine r_if_eq dX12_set_98 (fun h => eT h ?_) (fun h => eF h ?_)
            · exact hJ14
            · refine r_iconst ic_1 dX12_set_101 ?_
              refine r_goto dX12_set_102 ?_
              exact hJ2 _
      · refine r_aload_n dX12_set_41 rfl rfl ?_
        refine r_iload_n dX12_set_42 rfl rfl ?_
        refine r_calliT (cl_V [.int p2] bX12_isBargain (by decide) dX12_set_43 ml_X12_148 kdc_198 rfl (Nat.le_of_ble_eq_true rfl) rfl) (kX12_isBargain _ _) ?_
        refine eJ (fun (J15 : Option (Int32 × Mem)) => V g uX12_set 2 rvW rmW 76 [.ref (ga g 198), .int p1, .int p2, .int p3, .null] [] M1 (J15)) ( ?_) (fun J15 hJ15 => ?_)
        · refine r_iconst ic_0 dX12_set_76 ?_
          refine r_goto dX12_set_77 ?_
          exact hJ2 _
        · refine r_if_eq dX12_set_46 (fun h => eT h ?_) (fun h => eF h ?_)
          · exact hJ15
          · refine r_aload_n dX12_set_49 rfl rfl ?_
            refine r_getR (k' := 199) dX12_set_50 fl_X12_7 kdc_198 rfl ?_
            refine r_bipush bp_69 dX12_set_53 ?_
            refine r_iload_n dX12_set_55 rfl rfl ?_
            refine r_iadd dX12_set_56 ?_
            refine r_iald dX12_set_57 kdc_199 (fun v16 => ?_)
            refine r_if_ne dX12_set_58 (fun h => eF h ?_) (fun h => eT h ?_)
            · exact hJ15
            · refine r_aload_n dX12_set_61 rfl rfl ?_
              refine r_iload_n dX12_set_62 rfl rfl ?_
              refine r_iconst ic_1 dX12_set_63 ?_
              refine r_bipush bp_9 dX12_set_64 ?_
              refine r_calliT (cl_V [.int p3, .int 1, .int 9] bX12_isIn (by decide) dX12_set_66 ml_X12_140 kdc_198 rfl (Nat.le_of_ble_eq_true rfl) rfl) (kX12_isIn _ _ _ _) ?_
              refine r_if_eq dX12_set_69 (fun h => eT h ?_) (fun h => eF h ?_)
              · exact hJ15
              · refine r_iconst ic_1 dX12_set_72 ?_
                refine r_goto dX12_set_73 ?_
                exact hJ2 _
    · refine r_aload_n dX12_set_9 rfl rfl ?_
      refine r_iload_n dX12_set_10 rfl rfl ?_
      refine r_calliT (cl_V [.int p2] bX12_isPerson (by decide) dX12_set_11 ml_X12_144 kdc_198 rfl (Nat.le_of_ble_eq_true rfl) rfl) (kX12_isPerson _ _) ?_
      refine eJ (fun (J17 : Option (Int32 × Mem)) => V g uX12_set 2 rvW rmW 32 [.ref (ga g 198), .int p1, .int p2, .int p3, .null] [] M1 (J17)) ( ?_) (fun J17 hJ17 => ?_)
      · refine r_iconst ic_0 dX12_set_32 ?_
        refine r_goto dX12_set_33 ?_
        exact hJ2 _
      · refine r_if_eq dX12_set_14 (fun h => eT h ?_) (fun h => eF h ?_)
        · exact hJ17
        · refine r_aload_n dX12_set_17 rfl rfl ?_
          refine r_iload_n dX12_set_18 rfl rfl ?_
          refine r_iconst ic_0 dX12_set_19 ?_
          refine r_bipush bp_9 dX12_set_20 ?_
          refine r_calliT (cl_V [.int p3, .int 0, .int 9] bX12_isIn (by decide) dX12_set_22 ml_X12_140 kdc_198 rfl (Nat.le_of_ble_eq_true rfl) rfl) (kX12_isIn _ _ _ _) ?_
          refine r_if_eq dX12_set_25 (fun h => eT h ?_) (fun h => eF h ?_)
          · exact hJ17
          · refine r_iconst ic_1 dX12_set_28 ?_
            refine r_goto dX12_set_29 ?_
            exact hJ2 _
theorem kX12_set {g : G}   (p1 : Int32) (p2 : Int32) (p3 : Int32) (M : Mem) : CtrI g uX12_set 2 (fun r => r.1) rmW [.ref (ga g 198), .int p1, .int p2, .int p3] M (fX12_set p1 p2 p3 M) := CtrI.of mX12_set rfl (Nat.le_of_ble_eq_true rfl) rfl (vX12_set p1 p2 p3 M)
set_option maxHeartbeats 4000000 in
set_option maxRecDepth 100000 in
theorem vX9_hasSaid {g : G} {k0 : Nat} (hk0 : kd k0 = (9, 15)) (p1 : Int32) (p2 : Int32) (M : Mem) : V g uX9_hasSaid 2 rvI (rmP M) 0 [.ref (ga g k0), .int p1, .int p2] [] M (fX9_hasSaid k0 p1 p2 M) := by
  unfold fX9_hasSaid
  refine r_aload_n dX9_hasSaid_0 rfl rfl ?_
  refine r_iload_n dX9_hasSaid_1 rfl rfl ?_
  refine r_calliT (cl_V [.int p1] bX9_hasBargain (by decide) dX9_hasSaid_2 ml_X9_68 hk0 rfl (Nat.le_of_ble_eq_true rfl) rfl) (kX9_hasBargain hk0 _ _) ?_
  refine r_if_eq dX9_hasSaid_5 (fun h => eT h ?_) (fun h => eF h ?_)
  · refine r_iconst ic_0 dX9_hasSaid_26 ?_
    exact vRet rfl rfl rfl dX9_hasSaid_27
  · refine r_aload_n dX9_hasSaid_8 rfl rfl ?_
    refine r_getR (k' := (k0 + 8)) dX9_hasSaid_9 fl_X9_33 hk0 rfl ?_
    refine r_iload_n dX9_hasSaid_12 rfl rfl ?_
    refine r_iald dX9_hasSaid_13 (kx_9_8 hk0) (fun v1 => ?_)
    refine r_iload_n dX9_hasSaid_14 rfl rfl ?_
    refine r_ishr dX9_hasSaid_15 ?_
    refine r_iconst ic_1 dX9_hasSaid_16 ?_
    refine r_iand dX9_hasSaid_17 ?_
    refine r_iconst ic_1 dX9_hasSaid_18 ?_
    refine r_icmp_ne dX9_hasSaid_19 (fun h => eF h ?_) (fun h => eT h ?_)
    · refine r_iconst ic_0 dX9_hasSaid_26 ?_
      exact vRet rfl rfl rfl dX9_hasSaid_27
    · refine r_iconst ic_1 dX9_hasSaid_22 ?_
      refine r_goto dX9_hasSaid_23 ?_
      exact vRet rfl rfl rfl dX9_hasSaid_27
theorem kX9_hasSaid {g : G} {k0 : Nat} (hk0 : kd k0 = (9, 15)) (p1 : Int32) (p2 : Int32) (M : Mem) : CtrI g uX9_hasSaid 2 (fun r => r) (rmP M) [.ref (ga g k0), .int p1, .int p2] M (fX9_hasSaid k0 p1 p2 M) := CtrI.of mX9_hasSaid rfl (Nat.le_of_ble_eq_true rfl) rfl (vX9_hasSaid hk0 p1 p2 M)
set_option maxHeartbeats 4000000 in
set_option maxRecDepth 100000 in
theorem vX9_canClear {g : G} {k0 : Nat} (hk0 : kd k0 = (9, 15)) (p1 : Int32) (M : Mem) : V g uX9_canClear 2 rvI (rmP M) 0 [.ref (ga g k0), .int p1] [] M (fX9_canClear k0 p1 M) := by
  unfold fX9_canClear
  refine r_aload_n dX9_canClear_0 rfl rfl ?_
  refine r_iload_n dX9_canClear_1 rfl rfl ?_
  refine r_calliT (cl_V [.int p1] bX9_hasBargain (by decide) dX9_canClear_2 ml_X9_68 hk0 rfl (Nat.le_of_ble_eq_true rfl) rfl) (kX9_hasBargain hk0 _ _) ?_
  refine r_if_eq dX9_canClear_5 (fun h => eT h ?_) (fun h => eF h ?_)
  · refine r_iconst ic_0 dX9_canClear_22 ?_
    exact vRet rfl rfl rfl dX9_canClear_23
  · refine r_aload_n dX9_canClear_8 rfl rfl ?_
    refine r_getR (k' := (k0 + 9)) dX9_canClear_9 fl_X9_36 hk0 rfl ?_
    refine r_iload_n dX9_canClear_12 rfl rfl ?_
    refine r_iald dX9_canClear_13 (kx_9_9 hk0) (fun v1 => ?_)
    refine r_iconst ic_1 dX9_canClear_14 ?_
    refine r_icmp_eq dX9_canClear_15 (fun h => eT h ?_) (fun h => eF h ?_)
    · refine r_iconst ic_0 dX9_canClear_22 ?_
      exact vRet rfl rfl rfl dX9_canClear_23
    · refine r_iconst ic_1 dX9_canClear_18 ?_
      refine r_goto dX9_canClear_19 ?_
      exact vRet rfl rfl rfl dX9_canClear_23
theorem kX9_canClear {g : G} {k0 : Nat} (hk0 : kd k0 = (9, 15)) (p1 : Int32) (M : Mem) : CtrI g uX9_canClear 2 (fun r => r) (rmP M) [.ref (ga g k0), .int p1] M (fX9_canClear k0 p1 M) := CtrI.of mX9_canClear rfl (Nat.le_of_ble_eq_true rfl) rfl (vX9_canClear hk0 p1 M)
set_option maxHeartbeats 4000000 in
set_option maxRecDepth 100000 in
theorem vX11_canAct {g : G}   (p1 : Int32) (p2 : Int32) (M : Mem) : V g uX11_canAct 3 rvI (rmP M) 0 [.ref (ga g 0), .int p1, .int p2, .null] [] M (fX11_canAct p1 p2 M) := by
  unfold fX11_canAct
  refine r_aload_n dX11_canAct_0 rfl rfl ?_
  refine r_getR (k' := 1) dX11_canAct_1 fl_X11_12 kdc_0 rfl ?_
  refine r_getR (k' := 2) dX11_canAct_4 fl_X11_61 kdc_1 rfl ?_
  refine r_astore_n (l' := [.ref (ga g 0), .int p1, .int p2, .ref (ga g 2)]) dX11_canAct_7 rfl (Nat.le_of_ble_eq_true rfl) rfl rfl ?_
  refine r_iload_n dX11_canAct_8 rfl rfl ?_
  refine r_tsw (n := 5) (tg := [44, 44, 67, 92, 98]) (td := 121) dX11_canAct_9 rfl (by decide) (by decide) (by decide) (by decide) (by decide +kernel) (by decide) (lt_s (lt_s (lt_s (lt_s (lt_s (lt_0) ?_) ?_) ?_) ?_) ?_) ?_
  · refine r_aload_n dX11_canAct_44 rfl rfl ?_
    refine r_iload_n dX11_canAct_45 rfl rfl ?_
    refine r_calli (cl_V [.int p2] bX9_isOpen (by decide) dX11_canAct_46 ml_X11_101 kdc_2 rfl (Nat.le_of_ble_eq_true rfl) rfl) (kX9_isOpen kdc_2 _ _) (fun v1 _ => ?_)
    refine r_if_eq dX11_canAct_49 (fun h => eT h ?_) (fun h => eF h ?_)
    · refine r_iconst ic_0 dX11_canAct_65 ?_
      exact vRet rfl rfl rfl dX11_canAct_66
    · refine r_aload_n dX11_canAct_52 rfl rfl ?_
      refine r_iload_n dX11_canAct_53 rfl rfl ?_
      refine r_iload_n dX11_canAct_54 rfl rfl ?_
      refine r_calli (cl_V [.int p2, .int p1] bX9_hasSaid (by decide) dX11_canAct_55 ml_X11_216 kdc_2 rfl (Nat.le_of_ble_eq_true rfl) rfl) (kX9_hasSaid kdc_2 _ _ _) (fun v2 _ => ?_)
      refine r_if_ne dX11_canAct_58 (fun h => eF h ?_) (fun h => eT h ?_)
      · refine r_iconst ic_0 dX11_canAct_65 ?_
        exact vRet rfl rfl rfl dX11_canAct_66
      · refine r_iconst ic_1 dX11_canAct_61 ?_
        refine r_goto dX11_canAct_62 ?_
        exact vRet rfl rfl rfl dX11_canAct_66
  · refine r_aload_n dX11_canAct_44 rfl rfl ?_
    refine r_iload_n dX11_canAct_45 rfl rfl ?_
    refine r_calli (cl_V [.int p2] bX9_isOpen (by decide) dX11_canAct_46 ml_X11_101 kdc_2 rfl (Nat.le_of_ble_eq_true rfl) rfl) (kX9_isOpen kdc_2 _ _) (fun v3 _ => ?_)
    refine r_if_eq dX11_canAct_49 (fun h => eT h ?_) (fun h => eF h ?_)
    · refine r_iconst ic_0 dX11_canAct_65 ?_
      exact vRet rfl rfl rfl dX11_canAct_66
    · refine r_aload_n dX11_canAct_52 rfl rfl ?_
      refine r_iload_n dX11_canAct_53 rfl rfl ?_
      refine r_iload_n dX11_canAct_54 rfl rfl ?_
      refine r_calli (cl_V [.int p2, .int p1] bX9_hasSaid (by decide) dX11_canAct_55 ml_X11_216 kdc_2 rfl (Nat.le_of_ble_eq_true rfl) rfl) (kX9_hasSaid kdc_2 _ _ _) (fun v4 _ => ?_)
      refine r_if_ne dX11_canAct_58 (fun h => eF h ?_) (fun h => eT h ?_)
      · refine r_iconst ic_0 dX11_canAct_65 ?_
        exact vRet rfl rfl rfl dX11_canAct_66
      · refine r_iconst ic_1 dX11_canAct_61 ?_
        refine r_goto dX11_canAct_62 ?_
        exact vRet rfl rfl rfl dX11_canAct_66
  · refine r_aload_n dX11_canAct_67 rfl rfl ?_
    refine r_iload_n dX11_canAct_68 rfl rfl ?_
    refine r_calli (cl_V [.int p2] bX9_canClear (by decide) dX11_canAct_69 ml_X11_371 kdc_2 rfl (Nat.le_of_ble_eq_true rfl) rfl) (kX9_canClear kdc_2 _ _) (fun v5 _ => ?_)
    refine r_if_eq dX11_canAct_72 (fun h => eT h ?_) (fun h => eF h ?_)
    · refine r_iconst ic_0 dX11_canAct_90 ?_
      exact vRet rfl rfl rfl dX11_canAct_91
    · refine r_aload_n dX11_canAct_75 rfl rfl ?_
      refine r_getR (k' := 9) dX11_canAct_76 fl_X11_104 kdc_2 rfl ?_
      refine r_iload_n dX11_canAct_79 rfl rfl ?_
      refine r_iald dX11_canAct_80 kdc_9 (fun v6 => ?_)
      refine r_bipush bp_9 dX11_canAct_81 ?_
      refine r_icmp_ge dX11_canAct_83 (fun h => eT h ?_) (fun h => eF h ?_)
      · refine r_iconst ic_0 dX11_canAct_90 ?_
        exact vRet rfl rfl rfl dX11_canAct_91
      · refine r_iconst ic_1 dX11_canAct_86 ?_
        refine r_goto dX11_canAct_87 ?_
        exact vRet rfl rfl rfl dX11_canAct_91
  · refine r_aload_n dX11_canAct_92 rfl rfl ?_
    refine r_iload_n dX11_canAct_93 rfl rfl ?_
    refine r_calli (cl_V [.int p2] bX9_isOpen (by decide) dX11_canAct_94 ml_X11_101 kdc_2 rfl (Nat.le_of_ble_eq_true rfl) rfl) (kX9_isOpen kdc_2 _ _) (fun v7 _ => ?_)
    exact vRetZ rfl rfl rfl dX11_canAct_97
  · refine r_aload_n dX11_canAct_98 rfl rfl ?_
    refine r_iload_n dX11_canAct_99 rfl rfl ?_
    refine r_calliT (cl_V [.int p2] bX9_hasPerson (by decide) dX11_canAct_100 ml_X11_93 kdc_2 rfl (Nat.le_of_ble_eq_true rfl) rfl) (kX9_hasPerson kdc_2 _ _) ?_
    refine r_if_eq dX11_canAct_103 (fun h => eT h ?_) (fun h => eF h ?_)
    · refine r_iconst ic_0 dX11_canAct_119 ?_
      exact vRet rfl rfl rfl dX11_canAct_120
    · refine r_aload_n dX11_canAct_106 rfl rfl ?_
      refine r_getR (k' := 5) dX11_canAct_107 fl_X11_140 kdc_2 rfl ?_
      refine r_iload_n dX11_canAct_110 rfl rfl ?_
      refine r_iald dX11_canAct_111 kdc_5 (fun v8 => ?_)
      refine r_if_le dX11_canAct_112 (fun h => eT h ?_) (fun h => eF h ?_)
      · refine r_iconst ic_0 dX11_canAct_119 ?_
        exact vRet rfl rfl rfl dX11_canAct_120
      · refine r_iconst ic_1 dX11_canAct_115 ?_
        refine r_goto dX11_canAct_116 ?_
        exact vRet rfl rfl rfl dX11_canAct_120
  · refine r_iconst ic_0 dX11_canAct_121 ?_
    exact vRet rfl rfl rfl dX11_canAct_122
theorem kX11_canAct {g : G}   (p1 : Int32) (p2 : Int32) (M : Mem) : CtrI g uX11_canAct 3 (fun r => r) (rmP M) [.ref (ga g 0), .int p1, .int p2] M (fX11_canAct p1 p2 M) := CtrI.of mX11_canAct rfl (Nat.le_of_ble_eq_true rfl) rfl (vX11_canAct p1 p2 M)
set_option maxHeartbeats 4000000 in
set_option maxRecDepth 100000 in
theorem vX9_copyFrom {g : G} {k0 : Nat} {k1 : Nat} (hk0 : kd k0 = (9, 15)) (hk1 : kd k1 = (9, 15))  (M : Mem) : V g uX9_copyFrom 2 rvU rmU 0 [.ref (ga g k0), .ref (ga g k1)] [] M (fX9_copyFrom k0 k1 M) := by
  unfold fX9_copyFrom
  refine r_aload_n dX9_copyFrom_0 rfl rfl ?_
  refine r_aload_n dX9_copyFrom_1 rfl rfl ?_
  refine r_getI dX9_copyFrom_2 fl_X9_39 hk1 ?_
  refine r_put dX9_copyFrom_5 fw_X9_39 hk0 (fun M1 => ?_)
  refine r_aload_n dX9_copyFrom_8 rfl rfl ?_
  refine r_aload_n dX9_copyFrom_9 rfl rfl ?_
  refine r_getI dX9_copyFrom_10 fl_X9_43 hk1 ?_
  refine r_put dX9_copyFrom_13 fw_X9_43 hk0 (fun M2 => ?_)
  refine r_aload_n dX9_copyFrom_16 rfl rfl ?_
  refine r_aload_n dX9_copyFrom_17 rfl rfl ?_
  refine r_getI dX9_copyFrom_18 fl_X9_46 hk1 ?_
  refine r_put dX9_copyFrom_21 fw_X9_46 hk0 (fun M3 => ?_)
  refine r_aload_n dX9_copyFrom_24 rfl rfl ?_
  refine r_aload_n dX9_copyFrom_25 rfl rfl ?_
  refine r_getI dX9_copyFrom_26 fl_X9_49 hk1 ?_
  refine r_put dX9_copyFrom_29 fw_X9_49 hk0 (fun M4 => ?_)
  refine r_aload_n dX9_copyFrom_32 rfl rfl ?_
  refine r_aload_n dX9_copyFrom_33 rfl rfl ?_
  refine r_getI dX9_copyFrom_34 fl_X9_52 hk1 ?_
  refine r_put dX9_copyFrom_37 fw_X9_52 hk0 (fun M5 => ?_)
  refine r_aload_n dX9_copyFrom_40 rfl rfl ?_
  refine r_aload_n dX9_copyFrom_41 rfl rfl ?_
  refine r_getI dX9_copyFrom_42 fl_X9_55 hk1 ?_
  refine r_put dX9_copyFrom_45 fw_X9_55 hk0 (fun M6 => ?_)
  refine r_aload_n dX9_copyFrom_48 rfl rfl ?_
  refine r_getR (k' := (k1 + 1)) dX9_copyFrom_49 fl_X9_9 hk1 rfl ?_
  refine r_iconst ic_0 dX9_copyFrom_52 ?_
  refine r_aload_n dX9_copyFrom_53 rfl rfl ?_
  refine r_getR (k' := (k0 + 1)) dX9_copyFrom_54 fl_X9_9 hk0 rfl ?_
  refine r_iconst ic_0 dX9_copyFrom_57 ?_
  refine r_bipush bp_12 dX9_copyFrom_58 ?_
  refine r_cpy (by decide) (Nat.le_of_ble_eq_true rfl) ml_X9_58 j_cp1 j_cp2 j_cp3 dX9_copyFrom_60 (kx_9_1 hk1) (kx_9_1 hk0) (fun M7 => ?_)
  refine r_aload_n dX9_copyFrom_63 rfl rfl ?_
  refine r_getR (k' := (k1 + 2)) dX9_copyFrom_64 fl_X9_15 hk1 rfl ?_
  refine r_iconst ic_0 dX9_copyFrom_67 ?_
  refine r_aload_n dX9_copyFrom_68 rfl rfl ?_
  refine r_getR (k' := (k0 + 2)) dX9_copyFrom_69 fl_X9_15 hk0 rfl ?_
  refine r_iconst ic_0 dX9_copyFrom_72 ?_
  refine r_bipush bp_12 dX9_copyFrom_73 ?_
  refine r_cpy (by decide) (Nat.le_of_ble_eq_true rfl) ml_X9_58 j_cp1 j_cp2 j_cp3 dX9_copyFrom_75 (kx_9_2 hk1) (kx_9_2 hk0) (fun M8 => ?_)
  refine r_aload_n dX9_copyFrom_78 rfl rfl ?_
  refine r_getR (k' := (k1 + 3)) dX9_copyFrom_79 fl_X9_18 hk1 rfl ?_
  refine r_iconst ic_0 dX9_copyFrom_82 ?_
  refine r_aload_n dX9_copyFrom_83 rfl rfl ?_
  refine r_getR (k' := (k0 + 3)) dX9_copyFrom_84 fl_X9_18 hk0 rfl ?_
  refine r_iconst ic_0 dX9_copyFrom_87 ?_
  refine r_bipush bp_12 dX9_copyFrom_88 ?_
  refine r_cpy (by decide) (Nat.le_of_ble_eq_true rfl) ml_X9_58 j_cp1 j_cp2 j_cp3 dX9_copyFrom_90 (kx_9_3 hk1) (kx_9_3 hk0) (fun M9 => ?_)
  refine r_aload_n dX9_copyFrom_93 rfl rfl ?_
  refine r_getR (k' := (k1 + 4)) dX9_copyFrom_94 fl_X9_21 hk1 rfl ?_
  refine r_iconst ic_0 dX9_copyFrom_97 ?_
  refine r_aload_n dX9_copyFrom_98 rfl rfl ?_
  refine r_getR (k' := (k0 + 4)) dX9_copyFrom_99 fl_X9_21 hk0 rfl ?_
  refine r_iconst ic_0 dX9_copyFrom_102 ?_
  refine r_bipush bp_14 dX9_copyFrom_103 ?_
  refine r_cpy (by decide) (Nat.le_of_ble_eq_true rfl) ml_X9_58 j_cp1 j_cp2 j_cp3 dX9_copyFrom_105 (kx_9_4 hk1) (kx_9_4 hk0) (fun M10 => ?_)
  refine r_aload_n dX9_copyFrom_108 rfl rfl ?_
  refine r_getR (k' := (k1 + 5)) dX9_copyFrom_109 fl_X9_24 hk1 rfl ?_
  refine r_iconst ic_0 dX9_copyFrom_112 ?_
  refine r_aload_n dX9_copyFrom_113 rfl rfl ?_
  refine r_getR (k' := (k0 + 5)) dX9_copyFrom_114 fl_X9_24 hk0 rfl ?_
  refine r_iconst ic_0 dX9_copyFrom_117 ?_
  refine r_bipush bp_14 dX9_copyFrom_118 ?_
  refine r_cpy (by decide) (Nat.le_of_ble_eq_true rfl) ml_X9_58 j_cp1 j_cp2 j_cp3 dX9_copyFrom_120 (kx_9_5 hk1) (kx_9_5 hk0) (fun M11 => ?_)
  refine r_aload_n dX9_copyFrom_123 rfl rfl ?_
  refine r_getR (k' := (k1 + 6)) dX9_copyFrom_124 fl_X9_27 hk1 rfl ?_
  refine r_iconst ic_0 dX9_copyFrom_127 ?_
  refine r_aload_n dX9_copyFrom_128 rfl rfl ?_
  refine r_getR (k' := (k0 + 6)) dX9_copyFrom_129 fl_X9_27 hk0 rfl ?_
  refine r_iconst ic_0 dX9_copyFrom_132 ?_
  refine r_bipush bp_14 dX9_copyFrom_133 ?_
  refine r_cpy (by decide) (Nat.le_of_ble_eq_true rfl) ml_X9_58 j_cp1 j_cp2 j_cp3 dX9_copyFrom_135 (kx_9_6 hk1) (kx_9_6 hk0) (fun M12 => ?_)
  refine r_aload_n dX9_copyFrom_138 rfl rfl ?_
  refine r_getR (k' := (k1 + 7)) dX9_copyFrom_139 fl_X9_30 hk1 rfl ?_
  refine r_iconst ic_0 dX9_copyFrom_142 ?_
  refine r_aload_n dX9_copyFrom_143 rfl rfl ?_
  refine r_getR (k' := (k0 + 7)) dX9_copyFrom_144 fl_X9_30 hk0 rfl ?_
  refine r_iconst ic_0 dX9_copyFrom_147 ?_
  refine r_bipush bp_14 dX9_copyFrom_148 ?_
  refine r_cpy (by decide) (Nat.le_of_ble_eq_true rfl) ml_X9_58 j_cp1 j_cp2 j_cp3 dX9_copyFrom_150 (kx_9_7 hk1) (kx_9_7 hk0) (fun M13 => ?_)
  refine r_aload_n dX9_copyFrom_153 rfl rfl ?_
  refine r_getR (k' := (k1 + 8)) dX9_copyFrom_154 fl_X9_33 hk1 rfl ?_
  refine r_iconst ic_0 dX9_copyFrom_157 ?_
  refine r_aload_n dX9_copyFrom_158 rfl rfl ?_
  refine r_getR (k' := (k0 + 8)) dX9_copyFrom_159 fl_X9_33 hk0 rfl ?_
  refine r_iconst ic_0 dX9_copyFrom_162 ?_
  refine r_bipush bp_14 dX9_copyFrom_163 ?_
  refine r_cpy (by decide) (Nat.le_of_ble_eq_true rfl) ml_X9_58 j_cp1 j_cp2 j_cp3 dX9_copyFrom_165 (kx_9_8 hk1) (kx_9_8 hk0) (fun M14 => ?_)
  refine r_aload_n dX9_copyFrom_168 rfl rfl ?_
  refine r_getR (k' := (k1 + 9)) dX9_copyFrom_169 fl_X9_36 hk1 rfl ?_
  refine r_iconst ic_0 dX9_copyFrom_172 ?_
  refine r_aload_n dX9_copyFrom_173 rfl rfl ?_
  refine r_getR (k' := (k0 + 9)) dX9_copyFrom_174 fl_X9_36 hk0 rfl ?_
  refine r_iconst ic_0 dX9_copyFrom_177 ?_
  refine r_bipush bp_14 dX9_copyFrom_178 ?_
  refine r_cpy (by decide) (Nat.le_of_ble_eq_true rfl) ml_X9_58 j_cp1 j_cp2 j_cp3 dX9_copyFrom_180 (kx_9_9 hk1) (kx_9_9 hk0) (fun M15 => ?_)
  exact vRet rfl rfl trivial dX9_copyFrom_183
theorem kX9_copyFrom {g : G} {k0 : Nat} {k1 : Nat} (hk0 : kd k0 = (9, 15)) (hk1 : kd k1 = (9, 15))  (M : Mem) : CtrV g uX9_copyFrom 2 rmU [.ref (ga g k0), .ref (ga g k1)] M (fX9_copyFrom k0 k1 M) := CtrV.of mX9_copyFrom rfl (Nat.le_of_ble_eq_true rfl) rfl (vX9_copyFrom hk0 hk1 M)
set_option maxHeartbeats 4000000 in
set_option maxRecDepth 100000 in
theorem vX6_keep {g : G}   (p2 : Int32) (M : Mem) : V g uX6_keep 3 rvU rmU 0 [.ref (ga g 105), .ref (ga g 2), .int p2] [] M (fX6_keep p2 M) := by
  unfold fX6_keep
  refine r_aload_n dX6_keep_0 rfl rfl ?_
  refine r_getR (k' := 106) dX6_keep_1 fl_X6_11 kdc_105 rfl ?_
  refine r_aload_n dX6_keep_4 rfl rfl ?_
  refine r_getI dX6_keep_5 fl_X6_26 kdc_105 ?_
  refine r_aald dX6_keep_8 kdc_106 (fun q1 => ?_)
  refine eK (fun hq1 => ?_)
  refine r_aload_n dX6_keep_9 rfl rfl ?_
  refine r_callv (cl_V [.ref (ga g 2)] bX9_copyFrom (by decide) dX6_keep_10 ml_X6_29 hq1 rfl (Nat.le_of_ble_eq_true rfl) rfl) (kX9_copyFrom hq1 kdc_2 _) (fun M2 _ => ?_)
  refine r_aload_n dX6_keep_13 rfl rfl ?_
  refine r_getR (k' := 107) dX6_keep_14 fl_X6_17 kdc_105 rfl ?_
  refine r_aload_n dX6_keep_17 rfl rfl ?_
  refine r_getI dX6_keep_18 fl_X6_26 kdc_105 ?_
  refine r_iload_n dX6_keep_21 rfl rfl ?_
  refine r_iast dX6_keep_22 kdc_107 (fun M3 => ?_)
  refine r_aload_n dX6_keep_23 rfl rfl ?_
  refine r_aload_n dX6_keep_24 rfl rfl ?_
  refine r_getI dX6_keep_25 fl_X6_26 kdc_105 ?_
  refine r_iconst ic_1 dX6_keep_28 ?_
  refine r_iadd dX6_keep_29 ?_
  refine r_bipush bp_6 dX6_keep_30 ?_
  refine eJ (fun (J4 : (Int32) → Option (Mem)) => ∀ (t5 : Int32), V g uX6_keep 3 rvU rmU 45 [.ref (ga g 105), .null, .null] [.int t5, .ref (ga g 105)] M3 (J4 t5)) (fun t5 => ?_) (fun J4 hJ4 => ?_)
  · refine r_put dX6_keep_45 fw_X6_26 kdc_105 (fun M6 => ?_)
    refine r_aload_n dX6_keep_48 rfl rfl ?_
    refine r_bipush bp_6 dX6_keep_49 ?_
    refine r_aload_n dX6_keep_51 rfl rfl ?_
    refine r_getI dX6_keep_52 fl_X6_22 kdc_105 ?_
    refine r_iconst ic_1 dX6_keep_55 ?_
    refine r_iadd dX6_keep_56 ?_
    refine r_min (by decide) (Nat.le_of_ble_eq_true rfl) ml_X6_33 jmin_1 j_math jmin_2 dX6_keep_57 ?_
    refine r_put dX6_keep_60 fw_X6_22 kdc_105 (fun M7 => ?_)
    exact vRet rfl rfl trivial dX6_keep_63
  · refine r_icmp_ge dX6_keep_32 (fun h => eT h ?_) (fun h => eF h ?_)
    · refine r_iconst ic_0 dX6_keep_44 ?_
      exact vSub (l' := [.ref (ga g 105), .null, .null]) ⟨Or.inr rfl, ⟨Or.inl rfl, ⟨Or.inl rfl, trivial⟩⟩⟩ (hJ4 _)
    · refine r_aload_n dX6_keep_35 rfl rfl ?_
      refine r_getI dX6_keep_36 fl_X6_26 kdc_105 ?_
      refine r_iconst ic_1 dX6_keep_39 ?_
      refine r_iadd dX6_keep_40 ?_
      refine r_goto dX6_keep_41 ?_
      exact vSub (l' := [.ref (ga g 105), .null, .null]) ⟨Or.inr rfl, ⟨Or.inl rfl, ⟨Or.inl rfl, trivial⟩⟩⟩ (hJ4 _)
theorem kX6_keep {g : G}   (p2 : Int32) (M : Mem) : CtrV g uX6_keep 3 rmU [.ref (ga g 105), .ref (ga g 2), .int p2] M (fX6_keep p2 M) := CtrV.of mX6_keep rfl (Nat.le_of_ble_eq_true rfl) rfl (vX6_keep p2 M)
set_option maxHeartbeats 4000000 in
set_option maxRecDepth 100000 in
theorem vX9_whoIs {g : G} {k0 : Nat} (hk0 : kd k0 = (9, 15)) (p1 : Int32) (p2 : Int32) (M : Mem) : V g uX9_whoIs 2 rvI (rmP M) 0 [.ref (ga g k0), .int p1, .int p2] [] M (fX9_whoIs k0 p1 p2 M) := by
  unfold fX9_whoIs
  refine r_aload_n dX9_whoIs_0 rfl rfl ?_
  refine r_iload_n dX9_whoIs_1 rfl rfl ?_
  refine r_calliT (cl_V [.int p1] bX9_hasBargain (by decide) dX9_whoIs_2 ml_X9_68 hk0 rfl (Nat.le_of_ble_eq_true rfl) rfl) (kX9_hasBargain hk0 _ _) ?_
  refine r_if_eq dX9_whoIs_5 (fun h => eT h ?_) (fun h => eF h ?_)
  · refine r_iconst ic_m1 dX9_whoIs_17 ?_
    exact vRet rfl rfl rfl dX9_whoIs_18
  · refine r_iload_n dX9_whoIs_8 rfl rfl ?_
    refine r_iconst ic_0 dX9_whoIs_9 ?_
    refine r_iconst ic_1 dX9_whoIs_10 ?_
    refine r_calliT (cl_SN [.int p2, .int 0, .int 1] bX11_isWithin (by decide) dX9_whoIs_11 (host := RX11) (by decide +kernel) rfl (Nat.le_of_ble_eq_true rfl) rfl) (kX11_isWithin _ _ _ _) ?_
    refine r_if_ne dX9_whoIs_14 (fun h => eF h ?_) (fun h => eT h ?_)
    · refine r_iload_n dX9_whoIs_19 rfl rfl ?_
      refine r_if_ne dX9_whoIs_20 (fun h => eF h ?_) (fun h => eT h ?_)
      · refine r_aload_n dX9_whoIs_32 rfl rfl ?_
        refine r_getR (k' := (k0 + 5)) dX9_whoIs_33 fl_X9_24 hk0 rfl ?_
        refine r_iload_n dX9_whoIs_36 rfl rfl ?_
        refine r_iald dX9_whoIs_37 (kx_9_5 hk0) (fun v1 => ?_)
        exact vRet rfl rfl rfl dX9_whoIs_38
      · refine r_aload_n dX9_whoIs_23 rfl rfl ?_
        refine r_getR (k' := (k0 + 4)) dX9_whoIs_24 fl_X9_21 hk0 rfl ?_
        refine r_iload_n dX9_whoIs_27 rfl rfl ?_
        refine r_iald dX9_whoIs_28 (kx_9_4 hk0) (fun v2 => ?_)
        refine r_goto dX9_whoIs_29 ?_
        exact vRet rfl rfl rfl dX9_whoIs_38
    · refine r_iconst ic_m1 dX9_whoIs_17 ?_
      exact vRet rfl rfl rfl dX9_whoIs_18
theorem kX9_whoIs {g : G} {k0 : Nat} (hk0 : kd k0 = (9, 15)) (p1 : Int32) (p2 : Int32) (M : Mem) : CtrI g uX9_whoIs 2 (fun r => r) (rmP M) [.ref (ga g k0), .int p1, .int p2] M (fX9_whoIs k0 p1 p2 M) := CtrI.of mX9_whoIs rfl (Nat.le_of_ble_eq_true rfl) rfl (vX9_whoIs hk0 p1 p2 M)
set_option maxHeartbeats 4000000 in
set_option maxRecDepth 100000 in
theorem vX0_hearersOf_L4 {g : G}   (z1 : Int32)  (M : Mem)   : ∀ (n : Nat) (y2 : Int32) (y3 : Int32), V g uX0_hearersOf 1 rvI (rmP M) 4 [.ref (ga g 1), .int z1, .int y2, .int y3] [] M (fX0_hearersOf_L4 z1 M n y2 y3) := by
  intro n
  induction n with
  | zero => intro y2 y3; exact vNone
  | succ n ih =>
    intro y2 y3
    rw [fX0_hearersOf_L4]
    refine r_iload_n dX0_hearersOf_4 rfl rfl ?_
    refine r_aload_n dX0_hearersOf_5 rfl rfl ?_
    refine r_getR (k' := 35) dX0_hearersOf_6 fl_X0_40 kdc_1 rfl ?_
    refine r_getI dX0_hearersOf_9 fl_X0_63 kdc_35 ?_
    refine r_icmp_ge dX0_hearersOf_12 (fun h => eT h ?_) (fun h => eF h ?_)
    · refine r_iload_n dX0_hearersOf_48 rfl rfl ?_
      exact vRet rfl rfl rfl dX0_hearersOf_49
    · refine r_aload_n dX0_hearersOf_15 rfl rfl ?_
      refine r_getR (k' := 35) dX0_hearersOf_16 fl_X0_40 kdc_1 rfl ?_
      refine r_getR (k' := 38) dX0_hearersOf_19 fl_X0_67 kdc_35 rfl ?_
      refine r_iload_n dX0_hearersOf_22 rfl rfl ?_
      refine r_iald dX0_hearersOf_23 kdc_38 (fun v1 => ?_)
      refine r_iload_n dX0_hearersOf_24 rfl rfl ?_
      refine eJ (fun (J2 : (Int32) → Option (Int32)) => ∀ (a3 : Int32), V g uX0_hearersOf 1 rvI (rmP M) 42 [.ref (ga g 1), .int z1, .int a3, .int y3] [] M (J2 a3)) (fun a3 => ?_) (fun J2 hJ2 => ?_)
      · refine r_iinc (l' := [.ref (ga g 1), .int z1, .int a3, .int (y3 + 1)]) dX0_hearersOf_42 rfl (inc_1 _) (Nat.le_of_ble_eq_true rfl) rfl rfl ?_
        refine r_goto dX0_hearersOf_45 ?_
        exact ih _ _
      · refine r_icmp_ne dX0_hearersOf_25 (fun h => eF h ?_) (fun h => eT h ?_)
        · exact hJ2 _
        · refine r_iload_n dX0_hearersOf_28 rfl rfl ?_
          refine r_iconst ic_1 dX0_hearersOf_29 ?_
          refine r_aload_n dX0_hearersOf_30 rfl rfl ?_
          refine r_getR (k' := 35) dX0_hearersOf_31 fl_X0_40 kdc_1 rfl ?_
          refine r_getR (k' := 39) dX0_hearersOf_34 fl_X0_71 kdc_35 rfl ?_
          refine r_iload_n dX0_hearersOf_37 rfl rfl ?_
          refine r_iald dX0_hearersOf_38 kdc_39 (fun v4 => ?_)
          refine r_ishl dX0_hearersOf_39 ?_
          refine r_ior dX0_hearersOf_40 ?_
          refine r_bndi (fun x5 => ?_)
          refine r_istore_n (l' := [.ref (ga g 1), .int z1, .int x5, .int y3]) dX0_hearersOf_41 rfl (Nat.le_of_ble_eq_true rfl) rfl rfl ?_
          exact hJ2 _
set_option maxHeartbeats 4000000 in
set_option maxRecDepth 100000 in
theorem vX0_hearersOf {g : G}   (p1 : Int32) (M : Mem) : V g uX0_hearersOf 1 rvI (rmP M) 0 [.ref (ga g 1), .int p1, .null, .null] [] M (fX0_hearersOf p1 M) := by
  unfold fX0_hearersOf
  refine r_iconst ic_0 dX0_hearersOf_0 ?_
  refine r_istore_n (l' := [.ref (ga g 1), .int p1, .int 0, .null]) dX0_hearersOf_1 rfl (Nat.le_of_ble_eq_true rfl) rfl rfl ?_
  refine r_iconst ic_0 dX0_hearersOf_2 ?_
  refine r_istore_n (l' := [.ref (ga g 1), .int p1, .int 0, .int 0]) dX0_hearersOf_3 rfl (Nat.le_of_ble_eq_true rfl) rfl rfl ?_
  refine vX0_hearersOf_L4 _ _ FU _ _
theorem kX0_hearersOf {g : G}   (p1 : Int32) (M : Mem) : CtrI g uX0_hearersOf 1 (fun r => r) (rmP M) [.ref (ga g 1), .int p1] M (fX0_hearersOf p1 M) := CtrI.of mX0_hearersOf rfl (Nat.le_of_ble_eq_true rfl) rfl (vX0_hearersOf p1 M)
set_option maxHeartbeats 4000000 in
set_option maxRecDepth 100000 in
theorem vJ6_bitCount_0f7a4 {g : G}   (p0 : Int32) (M : Mem) : V g uJ6_bitCount_0f7a4 1 rvI (rmP M) 0 [.int p0] [] M (some (fJ6_bitCount_0f7a4 p0)) := by
  unfold fJ6_bitCount_0f7a4
  refine r_iload_n dJ6_bitCount_0f7a4_0 rfl rfl ?_
  refine r_iload_n dJ6_bitCount_0f7a4_1 rfl rfl ?_
  refine r_iconst ic_1 dJ6_bitCount_0f7a4_2 ?_
  refine r_iushr dJ6_bitCount_0f7a4_3 ?_
  refine r_ldcw lc_J6_265 dJ6_bitCount_0f7a4_4 ?_
  refine r_iand dJ6_bitCount_0f7a4_7 ?_
  refine r_isub dJ6_bitCount_0f7a4_8 ?_
  refine r_bndiT (fun x1 => ?_)
  refine r_istore_n (l' := [.int x1]) dJ6_bitCount_0f7a4_9 rfl (Nat.le_of_ble_eq_true rfl) rfl rfl ?_
  refine r_iload_n dJ6_bitCount_0f7a4_10 rfl rfl ?_
  refine r_ldcw lc_J6_266 dJ6_bitCount_0f7a4_11 ?_
  refine r_iand dJ6_bitCount_0f7a4_14 ?_
  refine r_iload_n dJ6_bitCount_0f7a4_15 rfl rfl ?_
  refine r_iconst ic_2 dJ6_bitCount_0f7a4_16 ?_
  refine r_iushr dJ6_bitCount_0f7a4_17 ?_
  refine r_ldcw lc_J6_266 dJ6_bitCount_0f7a4_18 ?_
  refine r_iand dJ6_bitCount_0f7a4_21 ?_
  refine r_iadd dJ6_bitCount_0f7a4_22 ?_
  refine r_bndiT (fun x2 => ?_)
  refine r_istore_n (l' := [.int x2]) dJ6_bitCount_0f7a4_23 rfl (Nat.le_of_ble_eq_true rfl) rfl rfl ?_
  refine r_iload_n dJ6_bitCount_0f7a4_24 rfl rfl ?_
  refine r_iload_n dJ6_bitCount_0f7a4_25 rfl rfl ?_
  refine r_iconst ic_4 dJ6_bitCount_0f7a4_26 ?_
  refine r_iushr dJ6_bitCount_0f7a4_27 ?_
  refine r_iadd dJ6_bitCount_0f7a4_28 ?_
  refine r_ldcw lc_J6_267 dJ6_bitCount_0f7a4_29 ?_
  refine r_iand dJ6_bitCount_0f7a4_32 ?_
  refine r_bndiT (fun x3 => ?_)
  refine r_istore_n (l' := [.int x3]) dJ6_bitCount_0f7a4_33 rfl (Nat.le_of_ble_eq_true rfl) rfl rfl ?_
  refine r_iload_n dJ6_bitCount_0f7a4_34 rfl rfl ?_
  refine r_iload_n dJ6_bitCount_0f7a4_35 rfl rfl ?_
  refine r_bipush bp_8 dJ6_bitCount_0f7a4_36 ?_
  refine r_iushr dJ6_bitCount_0f7a4_38 ?_
  refine r_iadd dJ6_bitCount_0f7a4_39 ?_
  refine r_bndiT (fun x4 => ?_)
  refine r_istore_n (l' := [.int x4]) dJ6_bitCount_0f7a4_40 rfl (Nat.le_of_ble_eq_true rfl) rfl rfl ?_
  refine r_iload_n dJ6_bitCount_0f7a4_41 rfl rfl ?_
  refine r_iload_n dJ6_bitCount_0f7a4_42 rfl rfl ?_
  refine r_bipush bp_16 dJ6_bitCount_0f7a4_43 ?_
  refine r_iushr dJ6_bitCount_0f7a4_45 ?_
  refine r_iadd dJ6_bitCount_0f7a4_46 ?_
  refine r_bndiT (fun x5 => ?_)
  refine r_istore_n (l' := [.int x5]) dJ6_bitCount_0f7a4_47 rfl (Nat.le_of_ble_eq_true rfl) rfl rfl ?_
  refine r_iload_n dJ6_bitCount_0f7a4_48 rfl rfl ?_
  refine r_bipush bp_63 dJ6_bitCount_0f7a4_49 ?_
  refine r_iand dJ6_bitCount_0f7a4_51 ?_
  exact vRet rfl rfl rfl dJ6_bitCount_0f7a4_52
theorem kJ6_bitCount_0f7a4 {g : G}   (p0 : Int32) (M : Mem) : CtrI g uJ6_bitCount_0f7a4 1 (fun r => r) (rmP M) [.int p0] M (some (fJ6_bitCount_0f7a4 p0)) := CtrI.of mJ6_bitCount_0f7a4 rfl (Nat.le_of_ble_eq_true rfl) rfl (vJ6_bitCount_0f7a4 p0 M)
set_option maxHeartbeats 4000000 in
set_option maxRecDepth 100000 in
theorem vX1_named {g : G}   (p1 : Int32) (M : Mem) : V g uX1_named 1 rvI (rmP M) 0 [.ref (ga g 17), .int p1] [] M (fX1_named p1 M) := by
  unfold fX1_named
  refine r_iload_n dX1_named_0 rfl rfl ?_
  refine r_if_lt dX1_named_1 (fun h => eT h ?_) (fun h => eF h ?_)
  · refine r_iconst ic_0 dX1_named_19 ?_
    exact vRet rfl rfl rfl dX1_named_20
  · refine r_iload_n dX1_named_4 rfl rfl ?_
    refine r_bipush bp_10 dX1_named_5 ?_
    refine r_icmp_ge dX1_named_7 (fun h => eT h ?_) (fun h => eF h ?_)
    · refine r_iconst ic_0 dX1_named_19 ?_
      exact vRet rfl rfl rfl dX1_named_20
    · refine r_aload_n dX1_named_10 rfl rfl ?_
      refine r_getR (k' := 23) dX1_named_11 fl_X1_27 kdc_17 rfl ?_
      refine r_iload_n dX1_named_14 rfl rfl ?_
      refine r_iald dX1_named_15 kdc_23 (fun v1 => ?_)
      refine r_goto dX1_named_16 ?_
      exact vRet rfl rfl rfl dX1_named_20
theorem kX1_named {g : G}   (p1 : Int32) (M : Mem) : CtrI g uX1_named 1 (fun r => r) (rmP M) [.ref (ga g 17), .int p1] M (fX1_named p1 M) := CtrI.of mX1_named rfl (Nat.le_of_ble_eq_true rfl) rfl (vX1_named p1 M)
set_option maxHeartbeats 4000000 in
set_option maxRecDepth 100000 in
theorem vX1_joined {g : G}   (p0 : Int32) (p1 : Int32) (p2 : Int32) (M : Mem) : V g uX1_joined 1 rvI (rmP M) 0 [.int p0, .int p1, .int p2] [] M (fX1_joined p0 p1 p2) := by
  unfold fX1_joined
  refine r_iload_n dX1_joined_0 rfl rfl ?_
  refine (Decidable.em (p0 = 42)).elim (fun h100 => eT h100 ?_) (fun h100 => eF h100 ?_)
  · refine r_lsw (off := 83) (tgt := 84) dX1_joined_1 (by decide) (by rw [h100]; decide) (by decide) ?_
    refine r_iload_n dX1_joined_84 rfl rfl ?_
    refine r_iload_n dX1_joined_85 rfl rfl ?_
    refine r_imul dX1_joined_86 ?_
    exact vRet rfl rfl rfl dX1_joined_87
  · refine (Decidable.em (p0 = 43)).elim (fun h101 => eT h101 ?_) (fun h101 => eF h101 ?_)
    · refine r_lsw (off := 75) (tgt := 76) dX1_joined_1 (by decide) (by rw [h101]; decide) (by decide) ?_
      refine r_iload_n dX1_joined_76 rfl rfl ?_
      refine r_iload_n dX1_joined_77 rfl rfl ?_
      refine r_iadd dX1_joined_78 ?_
      exact vRet rfl rfl rfl dX1_joined_79
    · refine (Decidable.em (p0 = 45)).elim (fun h102 => eT h102 ?_) (fun h102 => eF h102 ?_)
      · refine r_lsw (off := 79) (tgt := 80) dX1_joined_1 (by decide) (by rw [h102]; decide) (by decide) ?_
        refine r_iload_n dX1_joined_80 rfl rfl ?_
        refine r_iload_n dX1_joined_81 rfl rfl ?_
        refine r_isub dX1_joined_82 ?_
        exact vRet rfl rfl rfl dX1_joined_83
      · refine (Decidable.em (p0 = 47)).elim (fun h103 => eT h103 ?_) (fun h103 => eF h103 ?_)
        · refine r_lsw (off := 87) (tgt := 88) dX1_joined_1 (by decide) (by rw [h103]; decide) (by decide) ?_
          refine r_iload_n dX1_joined_88 rfl rfl ?_
          refine r_if_ne dX1_joined_89 (fun h => eF h ?_) (fun h => eT h ?_)
          · refine r_iload_n dX1_joined_96 rfl rfl ?_
            refine r_iload_n dX1_joined_97 rfl rfl ?_
            refine r_idivG dX1_joined_98 ?_
            exact vRet rfl rfl rfl dX1_joined_99
          · refine r_iconst ic_0 dX1_joined_92 ?_
            refine r_goto dX1_joined_93 ?_
            exact vRet rfl rfl rfl dX1_joined_99
        · refine (Decidable.em (p0 = 60)).elim (fun h104 => eT h104 ?_) (fun h104 => eF h104 ?_)
          · refine r_lsw (off := 99) (tgt := 100) dX1_joined_1 (by decide) (by rw [h104]; decide) (by decide) ?_
            refine r_iload_n dX1_joined_100 rfl rfl ?_
            refine r_iload_n dX1_joined_101 rfl rfl ?_
            refine r_icmp_ge dX1_joined_102 (fun h => eT h ?_) (fun h => eF h ?_)
            · refine r_iconst ic_0 dX1_joined_109 ?_
              exact vRet rfl rfl rfl dX1_joined_110
            · refine r_iconst ic_1 dX1_joined_105 ?_
              refine r_goto dX1_joined_106 ?_
              exact vRet rfl rfl rfl dX1_joined_110
          · refine (Decidable.em (p0 = 61)).elim (fun h105 => eT h105 ?_) (fun h105 => eF h105 ?_)
            · refine r_lsw (off := 110) (tgt := 111) dX1_joined_1 (by decide) (by rw [h105]; decide) (by decide) ?_
              refine r_iload_n dX1_joined_111 rfl rfl ?_
              refine r_iload_n dX1_joined_112 rfl rfl ?_
              refine r_icmp_ne dX1_joined_113 (fun h => eF h ?_) (fun h => eT h ?_)
              · refine r_iconst ic_0 dX1_joined_120 ?_
                exact vRet rfl rfl rfl dX1_joined_121
              · refine r_iconst ic_1 dX1_joined_116 ?_
                refine r_goto dX1_joined_117 ?_
                exact vRet rfl rfl rfl dX1_joined_121
            · refine (Decidable.em (p0 = 62)).elim (fun h106 => eT h106 ?_) (fun h106 => eF h106 ?_)
              · refine r_lsw (off := 121) (tgt := 122) dX1_joined_1 (by decide) (by rw [h106]; decide) (by decide) ?_
                refine r_iload_n dX1_joined_122 rfl rfl ?_
                refine r_iload_n dX1_joined_123 rfl rfl ?_
                refine r_icmp_le dX1_joined_124 (fun h => eT h ?_) (fun h => eF h ?_)
                · refine r_iconst ic_0 dX1_joined_131 ?_
                  exact vRet rfl rfl rfl dX1_joined_132
                · refine r_iconst ic_1 dX1_joined_127 ?_
                  refine r_goto dX1_joined_128 ?_
                  exact vRet rfl rfl rfl dX1_joined_132
              · refine (Decidable.em (p0 = 97)).elim (fun h107 => eT h107 ?_) (fun h107 => eF h107 ?_)
                · refine r_lsw (off := 132) (tgt := 133) dX1_joined_1 (by decide) (by rw [h107]; decide) (by decide) ?_
                  refine r_iload_n dX1_joined_133 rfl rfl ?_
                  refine r_iload_n dX1_joined_134 rfl rfl ?_
                  refine r_iand dX1_joined_135 ?_
                  exact vRet rfl rfl rfl dX1_joined_136
                · refine r_lsw (off := 136) (tgt := 137) dX1_joined_1 (by decide) (lsw_no (lsw_ne (k := 42) (by decide) h100) (lsw_no (lsw_ne (k := 43) (by decide) h101) (lsw_no (lsw_ne (k := 45) (by decide) h102) (lsw_no (lsw_ne (k := 47) (by decide) h103) (lsw_no (lsw_ne (k := 60) (by decide) h104) (lsw_no (lsw_ne (k := 61) (by decide) h105) (lsw_no (lsw_ne (k := 62) (by decide) h106) (lsw_no (lsw_ne (k := 97) (by decide) h107) (rfl))))))))) (by decide) ?_
                  refine r_iload_n dX1_joined_137 rfl rfl ?_
                  refine r_iload_n dX1_joined_138 rfl rfl ?_
                  refine r_ior dX1_joined_139 ?_
                  exact vRet rfl rfl rfl dX1_joined_140
theorem kX1_joined {g : G}   (p0 : Int32) (p1 : Int32) (p2 : Int32) (M : Mem) : CtrI g uX1_joined 1 (fun r => r) (rmP M) [.int p0, .int p1, .int p2] M (fX1_joined p0 p1 p2) := CtrI.of mX1_joined rfl (Nat.le_of_ble_eq_true rfl) rfl (vX1_joined p0 p1 p2 M)
