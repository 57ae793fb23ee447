set_option maxHeartbeats 4000000 in
set_option maxRecDepth 100000 in
theorem vX12_errs {g : G}   (p1 : Int32) (M : Mem) : V g uX12_errs 1 rvW rmW 0 [.ref (ga g 198), .int p1] [] M (fX12_errs p1 M) := by
  unfold fX12_errs
  refine r_aload_n dX12_errs_0 rfl rfl ?_
  refine r_iload_n dX12_errs_1 rfl rfl ?_
  refine r_put dX12_errs_2 fw_X12_187 kdc_198 (fun M1 => ?_)
  refine r_aload_n dX12_errs_5 rfl rfl ?_
  refine r_aload_n dX12_errs_6 rfl rfl ?_
  refine r_getI dX12_errs_7 fl_X12_165 kdc_198 ?_
  refine r_put dX12_errs_10 fw_X12_190 kdc_198 (fun M2 => ?_)
  refine r_iconst ic_m1 dX12_errs_13 ?_
  exact vRet rfl rfl rfl dX12_errs_14
theorem kX12_errs {g : G}   (p1 : Int32) (M : Mem) : CtrI g uX12_errs 1 (fun r => r.1) rmW [.ref (ga g 198), .int p1] M (fX12_errs p1 M) := CtrI.of mX12_errs rfl (Nat.le_of_ble_eq_true rfl) rfl (vX12_errs p1 M)
set_option maxHeartbeats 4000000 in
set_option maxRecDepth 100000 in
theorem vX12_readNumber {g : G}   (p1 : Int32) (p2 : Int32) (M : Mem) : V g uX12_readNumber 4 rvW rmW 0 [.ref (ga g 198), .int p1, .int p2, .null] [] M (fX12_readNumber p1 p2 M) := by
  unfold fX12_readNumber
  refine r_aload_n dX12_readNumber_0 rfl rfl ?_
  refine r_getI dX12_readNumber_1 fl_X12_168 kdc_198 ?_
  refine r_iconst ic_3 dX12_readNumber_4 ?_
  refine r_icmp_eq dX12_readNumber_5 (fun h => eT h ?_) (fun h => eF h ?_)
  · refine r_aload_n dX12_readNumber_14 rfl rfl ?_
    refine r_aload_n dX12_readNumber_15 rfl rfl ?_
    refine r_getI dX12_readNumber_16 fl_X12_171 kdc_198 ?_
    refine r_iload_n dX12_readNumber_19 rfl rfl ?_
    refine r_iload_n dX12_readNumber_20 rfl rfl ?_
    refine r_calliT (cl_V [.int (M 198 17), .int p1, .int p2] bX12_isIn (by decide) dX12_readNumber_21 ml_X12_140 kdc_198 rfl (Nat.le_of_ble_eq_true rfl) rfl) (kX12_isIn _ _ _ _) ?_
    refine r_if_ne dX12_readNumber_24 (fun h => eF h ?_) (fun h => eT h ?_)
    · refine r_aload_n dX12_readNumber_33 rfl rfl ?_
      refine r_getI dX12_readNumber_34 fl_X12_171 kdc_198 ?_
      refine r_bndi (fun x1 => ?_)
      refine r_istore_n (l' := [.ref (ga g 198), .int p1, .int p2, .int x1]) dX12_readNumber_37 rfl (Nat.le_of_ble_eq_true rfl) rfl rfl ?_
      refine r_aload_n dX12_readNumber_38 rfl rfl ?_
      refine r_callv (cl_V [] bX12_reads (by decide) dX12_readNumber_39 ml_X12_206 kdc_198 rfl (Nat.le_of_ble_eq_true rfl) rfl) (kX12_reads _) (fun M2 _ => ?_)
      refine r_iload_n dX12_readNumber_42 rfl rfl ?_
      exact vRet rfl rfl rfl dX12_readNumber_43
    · refine r_aload_n dX12_readNumber_27 rfl rfl ?_
      refine r_iconst ic_2 dX12_readNumber_28 ?_
      refine r_calli (cl_V [.int 2] bX12_errs (by decide) dX12_readNumber_29 ml_X12_199 kdc_198 rfl (Nat.le_of_ble_eq_true rfl) rfl) (kX12_errs _ _) (fun r3 _ => ?_)
      exact vRet rfl rfl rfl dX12_readNumber_32
  · refine r_aload_n dX12_readNumber_8 rfl rfl ?_
    refine r_iconst ic_1 dX12_readNumber_9 ?_
    refine r_calli (cl_V [.int 1] bX12_errs (by decide) dX12_readNumber_10 ml_X12_199 kdc_198 rfl (Nat.le_of_ble_eq_true rfl) rfl) (kX12_errs _ _) (fun r4 _ => ?_)
    exact vRet rfl rfl rfl dX12_readNumber_13
theorem kX12_readNumber {g : G}   (p1 : Int32) (p2 : Int32) (M : Mem) : CtrI g uX12_readNumber 4 (fun r => r.1) rmW [.ref (ga g 198), .int p1, .int p2] M (fX12_readNumber p1 p2 M) := CtrI.of mX12_readNumber rfl (Nat.le_of_ble_eq_true rfl) rfl (vX12_readNumber p1 p2 M)
set_option maxHeartbeats 4000000 in
set_option maxRecDepth 100000 in
theorem vX12_readTold {g : G}   (p1 : Int32) (p2 : Int32) (p3 : Int32) (M : Mem) : V g uX12_readTold 5 rvW rmW 0 [.ref (ga g 198), .int p1, .int p2, .int p3] [] M (fX12_readTold p1 p2 p3 M) := by
  unfold fX12_readTold
  refine r_aload_n dX12_readTold_0 rfl rfl ?_
  refine r_iload_n dX12_readTold_1 rfl rfl ?_
  refine r_calliT (cl_V [.int p1] bX12_isWord (by decide) dX12_readTold_2 ml_X12_228 kdc_198 rfl (Nat.le_of_ble_eq_true rfl) rfl) (kX12_isWord _ _) ?_
  refine r_if_ne dX12_readTold_5 (fun h => eF h ?_) (fun h => eT h ?_)
  · refine r_aload_n dX12_readTold_14 rfl rfl ?_
    refine r_callv (cl_V [] bX12_reads (by decide) dX12_readTold_15 ml_X12_206 kdc_198 rfl (Nat.le_of_ble_eq_true rfl) rfl) (kX12_reads _) (fun M1 _ => ?_)
    refine r_aload_n dX12_readTold_18 rfl rfl ?_
    refine r_iload_n dX12_readTold_19 rfl rfl ?_
    refine r_iload_n dX12_readTold_20 rfl rfl ?_
    refine r_calli (cl_V [.int p2, .int p3] bX12_readNumber (by decide) dX12_readTold_21 ml_X12_250 kdc_198 rfl (Nat.le_of_ble_eq_true rfl) rfl) (kX12_readNumber _ _ _) (fun r2 _ => ?_)
    exact vRet rfl rfl rfl dX12_readTold_24
  · refine r_aload_n dX12_readTold_8 rfl rfl ?_
    refine r_iconst ic_1 dX12_readTold_9 ?_
    refine r_calli (cl_V [.int 1] bX12_errs (by decide) dX12_readTold_10 ml_X12_199 kdc_198 rfl (Nat.le_of_ble_eq_true rfl) rfl) (kX12_errs _ _) (fun r3 _ => ?_)
    exact vRet rfl rfl rfl dX12_readTold_13
theorem kX12_readTold {g : G}   (p1 : Int32) (p2 : Int32) (p3 : Int32) (M : Mem) : CtrI g uX12_readTold 5 (fun r => r.1) rmW [.ref (ga g 198), .int p1, .int p2, .int p3] M (fX12_readTold p1 p2 p3 M) := CtrI.of mX12_readTold rfl (Nat.le_of_ble_eq_true rfl) rfl (vX12_readTold p1 p2 p3 M)
set_option maxHeartbeats 4000000 in
set_option maxRecDepth 100000 in
theorem vX12_isSign {g : G}   (p1 : Int32) (M : Mem) : V g uX12_isSign 1 rvI (rmP M) 0 [.ref (ga g 198), .int p1] [] M (some (fX12_isSign p1 M)) := by
  unfold fX12_isSign
  refine r_aload_n dX12_isSign_0 rfl rfl ?_
  refine r_getI dX12_isSign_1 fl_X12_168 kdc_198 ?_
  refine r_iconst ic_4 dX12_isSign_4 ?_
  refine r_icmp_ne dX12_isSign_5 (fun h => eFT h ?_) (fun h => eTT h ?_)
  · refine r_iconst ic_0 dX12_isSign_20 ?_
    exact vRet rfl rfl rfl dX12_isSign_21
  · refine r_aload_n dX12_isSign_8 rfl rfl ?_
    refine r_getI dX12_isSign_9 fl_X12_171 kdc_198 ?_
    refine r_iload_n dX12_isSign_12 rfl rfl ?_
    refine r_icmp_ne dX12_isSign_13 (fun h => eFT h ?_) (fun h => eTT h ?_)
    · refine r_iconst ic_0 dX12_isSign_20 ?_
      exact vRet rfl rfl rfl dX12_isSign_21
    · refine r_iconst ic_1 dX12_isSign_16 ?_
      refine r_goto dX12_isSign_17 ?_
      exact vRet rfl rfl rfl dX12_isSign_21
theorem zX12_isSign (p1 : Int32) (M : Mem) : fX12_isSign p1 M = 0 ∨ fX12_isSign p1 M = 1 := by
  unfold fX12_isSign
  repeat' split
  all_goals first | exact Or.inl rfl | exact Or.inr rfl
theorem kX12_isSign {g : G}   (p1 : Int32) (M : Mem) : CtrI g uX12_isSign 1 (fun r => r) (rmP M) [.ref (ga g 198), .int p1] M (some (fX12_isSign p1 M)) := CtrI.of mX12_isSign rfl (Nat.le_of_ble_eq_true rfl) rfl (vX12_isSign p1 M)
set_option maxHeartbeats 4000000 in
set_option maxRecDepth 100000 in
theorem vX12_readMark {g : G}   (p1 : Int32) (M : Mem) : V g uX12_readMark 4 rvW rmW 0 [.ref (ga g 198), .int p1] [] M (fX12_readMark p1 M) := by
  unfold fX12_readMark
  refine r_aload_n dX12_readMark_0 rfl rfl ?_
  refine r_iload_n dX12_readMark_1 rfl rfl ?_
  refine r_calliT (cl_V [.int p1] bX12_isSign (by decide) dX12_readMark_2 ml_X12_213 kdc_198 rfl (Nat.le_of_ble_eq_true rfl) rfl) (kX12_isSign _ _) ?_
  refine r_if_ne dX12_readMark_5 (fun h => eF h ?_) (fun h => eT h ?_)
  · refine r_aload_n dX12_readMark_14 rfl rfl ?_
    refine r_callv (cl_V [] bX12_reads (by decide) dX12_readMark_15 ml_X12_206 kdc_198 rfl (Nat.le_of_ble_eq_true rfl) rfl) (kX12_reads _) (fun M1 _ => ?_)
    refine r_iconst ic_0 dX12_readMark_18 ?_
    exact vRet rfl rfl rfl dX12_readMark_19
  · refine r_aload_n dX12_readMark_8 rfl rfl ?_
    refine r_iconst ic_1 dX12_readMark_9 ?_
    refine r_calli (cl_V [.int 1] bX12_errs (by decide) dX12_readMark_10 ml_X12_199 kdc_198 rfl (Nat.le_of_ble_eq_true rfl) rfl) (kX12_errs _ _) (fun r2 _ => ?_)
    exact vRet rfl rfl rfl dX12_readMark_13
theorem kX12_readMark {g : G}   (p1 : Int32) (M : Mem) : CtrI g uX12_readMark 4 (fun r => r.1) rmW [.ref (ga g 198), .int p1] M (fX12_readMark p1 M) := CtrI.of mX12_readMark rfl (Nat.le_of_ble_eq_true rfl) rfl (vX12_readMark p1 M)
set_option maxHeartbeats 4000000 in
set_option maxRecDepth 100000 in
theorem vX12_readHop {g : G}   (p1 : Int32) (M : Mem) : V g uX12_readHop 6 rvW rmW 0 [.ref (ga g 198), .int p1] [] M (fX12_readHop p1 M) := by
  unfold fX12_readHop
  refine r_aload_n dX12_readHop_0 rfl rfl ?_
  refine r_getR (k' := 216) dX12_readHop_1 fl_X12_65 kdc_198 rfl ?_
  refine r_iload_n dX12_readHop_4 rfl rfl ?_
  refine r_aload_n dX12_readHop_5 rfl rfl ?_
  refine r_bipush bp_17 dX12_readHop_6 ?_
  refine r_iconst ic_0 dX12_readHop_8 ?_
  refine r_sipush sp_999 dX12_readHop_9 ?_
  refine r_calli (cl_V [.int 17, .int 0, .int 999] bX12_readTold (by decide) dX12_readHop_12 ml_X12_253 kdc_198 rfl (Nat.le_of_ble_eq_true rfl) rfl) (kX12_readTold _ _ _ _) (fun r1 _ => ?_)
  refine r_iast dX12_readHop_15 kdc_216 (fun M2 => ?_)
  refine r_aload_n dX12_readHop_16 rfl rfl ?_
  refine r_getR (k' := 216) dX12_readHop_17 fl_X12_65 kdc_198 rfl ?_
  refine r_iload_n dX12_readHop_20 rfl rfl ?_
  refine r_iald dX12_readHop_21 kdc_216 (fun v3 => ?_)
  refine r_iconst ic_m1 dX12_readHop_22 ?_
  refine r_icmp_ne dX12_readHop_23 (fun h => eF h ?_) (fun h => eT h ?_)
  · refine r_aload_n dX12_readHop_28 rfl rfl ?_
    refine r_getR (k' := 216) dX12_readHop_29 fl_X12_65 kdc_198 rfl ?_
    refine r_iload_n dX12_readHop_32 rfl rfl ?_
    refine r_iconst ic_1 dX12_readHop_33 ?_
    refine r_iadd dX12_readHop_34 ?_
    refine r_aload_n dX12_readHop_35 rfl rfl ?_
    refine r_bipush bp_18 dX12_readHop_36 ?_
    refine r_iconst ic_0 dX12_readHop_38 ?_
    refine r_aload_n dX12_readHop_39 rfl rfl ?_
    refine r_getI dX12_readHop_40 fl_X12_137 kdc_198 ?_
    refine r_iconst ic_1 dX12_readHop_43 ?_
    refine r_isub dX12_readHop_44 ?_
    refine r_calli (cl_V [.int 18, .int 0, .int ((M2 198 7) - 1)] bX12_readTold (by decide) dX12_readHop_45 ml_X12_253 kdc_198 rfl (Nat.le_of_ble_eq_true rfl) rfl) (kX12_readTold _ _ _ _) (fun r4 _ => ?_)
    refine r_iast dX12_readHop_48 kdc_216 (fun M5 => ?_)
    refine r_aload_n dX12_readHop_49 rfl rfl ?_
    refine r_getR (k' := 216) dX12_readHop_50 fl_X12_65 kdc_198 rfl ?_
    refine r_iload_n dX12_readHop_53 rfl rfl ?_
    refine r_iconst ic_1 dX12_readHop_54 ?_
    refine r_iadd dX12_readHop_55 ?_
    refine r_iald dX12_readHop_56 kdc_216 (fun v6 => ?_)
    refine r_iconst ic_m1 dX12_readHop_57 ?_
    refine r_icmp_ne dX12_readHop_58 (fun h => eF h ?_) (fun h => eT h ?_)
    · refine r_aload_n dX12_readHop_63 rfl rfl ?_
      refine r_bipush bp_19 dX12_readHop_64 ?_
      refine r_calliT (cl_V [.int 19] bX12_isWord (by decide) dX12_readHop_66 ml_X12_228 kdc_198 rfl (Nat.le_of_ble_eq_true rfl) rfl) (kX12_isWord _ _) ?_
      refine eJ (fun (J7 : Option (Int32 × Mem)) => V g uX12_readHop 6 rvW rmW 87 [.ref (ga g 198), .int p1] [] M5 (J7)) ( ?_) (fun J7 hJ7 => ?_)
      · refine r_aload_n dX12_readHop_87 rfl rfl ?_
        refine r_getR (k' := 216) dX12_readHop_88 fl_X12_65 kdc_198 rfl ?_
        refine r_iload_n dX12_readHop_91 rfl rfl ?_
        refine r_iconst ic_2 dX12_readHop_92 ?_
        refine r_iadd dX12_readHop_93 ?_
        refine r_aload_n dX12_readHop_94 rfl rfl ?_
        refine r_getI dX12_readHop_95 fl_X12_171 kdc_198 ?_
        refine r_bipush bp_19 dX12_readHop_98 ?_
        refine r_isub dX12_readHop_100 ?_
        refine r_iast dX12_readHop_101 kdc_216 (fun M8 => ?_)
        refine r_aload_n dX12_readHop_102 rfl rfl ?_
        refine r_callv (cl_V [] bX12_reads (by decide) dX12_readHop_103 ml_X12_206 kdc_198 rfl (Nat.le_of_ble_eq_true rfl) rfl) (kX12_reads _) (fun M9 _ => ?_)
        refine r_aload_n dX12_readHop_106 rfl rfl ?_
        refine r_bipush bp_59 dX12_readHop_107 ?_
        refine r_calli (cl_V [.int 59] bX12_readMark (by decide) dX12_readHop_109 ml_X12_257 kdc_198 rfl (Nat.le_of_ble_eq_true rfl) rfl) (kX12_readMark _ _) (fun r10 _ => ?_)
        exact vRet rfl rfl rfl dX12_readHop_112
      · refine r_if_ne dX12_readHop_69 (fun h => eF h ?_) (fun h => eT h ?_)
        · exact hJ7
        · refine r_aload_n dX12_readHop_72 rfl rfl ?_
          refine r_bipush bp_20 dX12_readHop_73 ?_
          refine r_calliT (cl_V [.int 20] bX12_isWord (by decide) dX12_readHop_75 ml_X12_228 kdc_198 rfl (Nat.le_of_ble_eq_true rfl) rfl) (kX12_isWord _ _) ?_
          refine r_if_ne dX12_readHop_78 (fun h => eF h ?_) (fun h => eT h ?_)
          · exact hJ7
          · refine r_aload_n dX12_readHop_81 rfl rfl ?_
            refine r_iconst ic_1 dX12_readHop_82 ?_
            refine r_calli (cl_V [.int 1] bX12_errs (by decide) dX12_readHop_83 ml_X12_199 kdc_198 rfl (Nat.le_of_ble_eq_true rfl) rfl) (kX12_errs _ _) (fun r11 _ => ?_)
            exact vRet rfl rfl rfl dX12_readHop_86
    · refine r_iconst ic_m1 dX12_readHop_61 ?_
      exact vRet rfl rfl rfl dX12_readHop_62
  · refine r_iconst ic_m1 dX12_readHop_26 ?_
    exact vRet rfl rfl rfl dX12_readHop_27
theorem kX12_readHop {g : G}   (p1 : Int32) (M : Mem) : CtrI g uX12_readHop 6 (fun r => r.1) rmW [.ref (ga g 198), .int p1] M (fX12_readHop p1 M) := CtrI.of mX12_readHop rfl (Nat.le_of_ble_eq_true rfl) rfl (vX12_readHop p1 M)
set_option maxHeartbeats 4000000 in
set_option maxRecDepth 100000 in
theorem vX12_readHops_L2 {g : G}  (K46 : Int32 → Mem → Option (Int32 × Mem))    (hK46 : ∀ (e1 : Int32) (M : Mem), V g uX12_readHops 7 rvW rmW 46 [.ref (ga g 198), .int e1] [] M (K46 e1 M)) : ∀ (n : Nat) (y1 : Int32) (M : Mem), V g uX12_readHops 7 rvW rmW 2 [.ref (ga g 198), .int y1] [] M (fX12_readHops_L2 K46 n y1 M) := by
  intro n
  induction n with
  | zero => intro y1 M; exact vNone
  | succ n ih =>
    intro y1 M
    rw [fX12_readHops_L2]
    refine r_aload_n dX12_readHops_2 rfl rfl ?_
    refine r_bipush bp_17 dX12_readHops_3 ?_
    refine r_calliT (cl_V [.int 17] bX12_isWord (by decide) dX12_readHops_5 ml_X12_228 kdc_198 rfl (Nat.le_of_ble_eq_true rfl) rfl) (kX12_isWord _ _) ?_
    refine r_if_eq dX12_readHops_8 (fun h => eT h ?_) (fun h => eF h ?_)
    · exact hK46 _ _
    · refine r_iload_n dX12_readHops_11 rfl rfl ?_
      refine r_bipush bp_16 dX12_readHops_12 ?_
      refine r_icmp_ne dX12_readHops_14 (fun h => eF h ?_) (fun h => eT h ?_)
      · refine r_aload_n dX12_readHops_23 rfl rfl ?_
        refine r_bipush bp_48 dX12_readHops_24 ?_
        refine r_iconst ic_3 dX12_readHops_26 ?_
        refine r_iload_n dX12_readHops_27 rfl rfl ?_
        refine r_imul dX12_readHops_28 ?_
        refine r_iadd dX12_readHops_29 ?_
        refine r_calli (cl_V [.int (48 + (3 * y1))] bX12_readHop (by decide) dX12_readHops_30 ml_X12_260 kdc_198 rfl (Nat.le_of_ble_eq_true rfl) rfl) (kX12_readHop _ _) (fun r1 _ => ?_)
        refine r_iconst ic_m1 dX12_readHops_33 ?_
        refine r_icmp_ne dX12_readHops_34 (fun h => eF h ?_) (fun h => eT h ?_)
        · refine r_iload_n dX12_readHops_39 rfl rfl ?_
          refine r_iconst ic_1 dX12_readHops_40 ?_
          refine r_iadd dX12_readHops_41 ?_
          refine r_bndi (fun x2 => ?_)
          refine r_istore_n (l' := [.ref (ga g 198), .int x2]) dX12_readHops_42 rfl (Nat.le_of_ble_eq_true rfl) rfl rfl ?_
          refine r_goto dX12_readHops_43 ?_
          exact ih _ _
        · refine r_iconst ic_m1 dX12_readHops_37 ?_
          exact vRet rfl rfl rfl dX12_readHops_38
      · refine r_aload_n dX12_readHops_17 rfl rfl ?_
        refine r_iconst ic_3 dX12_readHops_18 ?_
        refine r_calli (cl_V [.int 3] bX12_errs (by decide) dX12_readHops_19 ml_X12_199 kdc_198 rfl (Nat.le_of_ble_eq_true rfl) rfl) (kX12_errs _ _) (fun r3 _ => ?_)
        exact vRet rfl rfl rfl dX12_readHops_22
set_option maxHeartbeats 4000000 in
set_option maxRecDepth 100000 in
theorem vX12_readHops {g : G}    (M : Mem) : V g uX12_readHops 7 rvW rmW 0 [.ref (ga g 198), .null] [] M (fX12_readHops M) := by
  unfold fX12_readHops
  refine r_iconst ic_0 dX12_readHops_0 ?_
  refine r_istore_n (l' := [.ref (ga g 198), .int 0]) dX12_readHops_1 rfl (Nat.le_of_ble_eq_true rfl) rfl rfl ?_
  refine vX12_readHops_L2 _ (fun e4 M5 => ?_) FU _ _
  · refine r_aload_n dX12_readHops_46 rfl rfl ?_
    refine r_getI dX12_readHops_47 fl_X12_168 kdc_198 ?_
    refine r_if_ne dX12_readHops_50 (fun h => eF h ?_) (fun h => eT h ?_)
    · refine r_aload_n dX12_readHops_57 rfl rfl ?_
      refine r_iconst ic_1 dX12_readHops_58 ?_
      refine r_calli (cl_V [.int 1] bX12_errs (by decide) dX12_readHops_59 ml_X12_199 kdc_198 rfl (Nat.le_of_ble_eq_true rfl) rfl) (kX12_errs _ _) (fun r6 _ => ?_)
      exact vRet rfl rfl rfl dX12_readHops_62
    · refine r_iload_n dX12_readHops_53 rfl rfl ?_
      refine r_goto dX12_readHops_54 ?_
      exact vRet rfl rfl rfl dX12_readHops_62
theorem kX12_readHops {g : G}    (M : Mem) : CtrI g uX12_readHops 7 (fun r => r.1) rmW [.ref (ga g 198)] M (fX12_readHops M) := CtrI.of mX12_readHops rfl (Nat.le_of_ble_eq_true rfl) rfl (vX12_readHops M)
set_option maxHeartbeats 4000000 in
set_option maxRecDepth 100000 in
theorem vX12_kindOfStreet {g : G}    (M : Mem) : V g uX12_kindOfStreet 2 rvI (rmP M) 0 [.ref (ga g 198)] [] M (some (fX12_kindOfStreet M)) := by
  unfold fX12_kindOfStreet
  refine r_aload_n dX12_kindOfStreet_0 rfl rfl ?_
  refine r_bipush bp_11 dX12_kindOfStreet_1 ?_
  refine r_calliT (cl_V [.int 11] bX12_isWord (by decide) dX12_kindOfStreet_3 ml_X12_228 kdc_198 rfl (Nat.le_of_ble_eq_true rfl) rfl) (kX12_isWord _ _) ?_
  refine r_if_eq dX12_kindOfStreet_6 (fun h => eTT h ?_) (fun h => eFT h ?_)
  · refine r_aload_n dX12_kindOfStreet_11 rfl rfl ?_
    refine r_bipush bp_12 dX12_kindOfStreet_12 ?_
    refine r_calliT (cl_V [.int 12] bX12_isWord (by decide) dX12_kindOfStreet_14 ml_X12_228 kdc_198 rfl (Nat.le_of_ble_eq_true rfl) rfl) (kX12_isWord _ _) ?_
    refine r_if_eq dX12_kindOfStreet_17 (fun h => eTT h ?_) (fun h => eFT h ?_)
    · refine r_aload_n dX12_kindOfStreet_22 rfl rfl ?_
      refine r_bipush bp_10 dX12_kindOfStreet_23 ?_
      refine r_calliT (cl_V [.int 10] bX12_isWord (by decide) dX12_kindOfStreet_25 ml_X12_228 kdc_198 rfl (Nat.le_of_ble_eq_true rfl) rfl) (kX12_isWord _ _) ?_
      refine r_if_eq dX12_kindOfStreet_28 (fun h => eTT h ?_) (fun h => eFT h ?_)
      · refine r_aload_n dX12_kindOfStreet_35 rfl rfl ?_
        refine r_bipush bp_7 dX12_kindOfStreet_36 ?_
        refine r_calliT (cl_V [.int 7] bX12_isWord (by decide) dX12_kindOfStreet_38 ml_X12_228 kdc_198 rfl (Nat.le_of_ble_eq_true rfl) rfl) (kX12_isWord _ _) ?_
        refine r_if_eq dX12_kindOfStreet_41 (fun h => eTT h ?_) (fun h => eFT h ?_)
        · refine r_iconst ic_m1 dX12_kindOfStreet_48 ?_
          exact vRet rfl rfl rfl dX12_kindOfStreet_49
        · refine r_iconst ic_3 dX12_kindOfStreet_44 ?_
          refine r_goto dX12_kindOfStreet_45 ?_
          exact vRet rfl rfl rfl dX12_kindOfStreet_49
      · refine r_iconst ic_2 dX12_kindOfStreet_31 ?_
        refine r_goto dX12_kindOfStreet_32 ?_
        exact vRet rfl rfl rfl dX12_kindOfStreet_49
    · refine r_iconst ic_1 dX12_kindOfStreet_20 ?_
      exact vRet rfl rfl rfl dX12_kindOfStreet_21
  · refine r_iconst ic_0 dX12_kindOfStreet_9 ?_
    exact vRet rfl rfl rfl dX12_kindOfStreet_10
theorem kX12_kindOfStreet {g : G}    (M : Mem) : CtrI g uX12_kindOfStreet 2 (fun r => r) (rmP M) [.ref (ga g 198)] M (some (fX12_kindOfStreet M)) := CtrI.of mX12_kindOfStreet rfl (Nat.le_of_ble_eq_true rfl) rfl (vX12_kindOfStreet M)
set_option maxHeartbeats 4000000 in
set_option maxRecDepth 100000 in
theorem vX12_readStreetLine {g : G}   (p1 : Int32) (M : Mem) : V g uX12_readStreetLine 6 rvW rmW 0 [.ref (ga g 198), .int p1, .null] [] M (fX12_readStreetLine p1 M) := by
  unfold fX12_readStreetLine
  refine r_aload_n dX12_readStreetLine_0 rfl rfl ?_
  refine r_getR (k' := 217) dX12_readStreetLine_1 fl_X12_68 kdc_198 rfl ?_
  refine r_iload_n dX12_readStreetLine_4 rfl rfl ?_
  refine r_aload_n dX12_readStreetLine_5 rfl rfl ?_
  refine r_bipush bp_17 dX12_readStreetLine_6 ?_
  refine r_iconst ic_0 dX12_readStreetLine_8 ?_
  refine r_sipush sp_999 dX12_readStreetLine_9 ?_
  refine r_calli (cl_V [.int 17, .int 0, .int 999] bX12_readTold (by decide) dX12_readStreetLine_12 ml_X12_253 kdc_198 rfl (Nat.le_of_ble_eq_true rfl) rfl) (kX12_readTold _ _ _ _) (fun r1 _ => ?_)
  refine r_iast dX12_readStreetLine_15 kdc_217 (fun M2 => ?_)
  refine r_aload_n dX12_readStreetLine_16 rfl rfl ?_
  refine r_getR (k' := 217) dX12_readStreetLine_17 fl_X12_68 kdc_198 rfl ?_
  refine r_iload_n dX12_readStreetLine_20 rfl rfl ?_
  refine r_iald dX12_readStreetLine_21 kdc_217 (fun v3 => ?_)
  refine r_iconst ic_m1 dX12_readStreetLine_22 ?_
  refine r_icmp_ne dX12_readStreetLine_23 (fun h => eF h ?_) (fun h => eT h ?_)
  · refine r_aload_n dX12_readStreetLine_28 rfl rfl ?_
    refine r_calliT (cl_V [] bX12_kindOfStreet (by decide) dX12_readStreetLine_29 ml_X12_263 kdc_198 rfl (Nat.le_of_ble_eq_true rfl) rfl) (kX12_kindOfStreet _) ?_
    refine r_bndi (fun x4 => ?_)
    refine r_istore_n (l' := [.ref (ga g 198), .int p1, .int x4]) dX12_readStreetLine_32 rfl (Nat.le_of_ble_eq_true rfl) rfl rfl ?_
    refine r_iload_n dX12_readStreetLine_33 rfl rfl ?_
    refine r_iconst ic_m1 dX12_readStreetLine_34 ?_
    refine r_icmp_ne dX12_readStreetLine_35 (fun h => eF h ?_) (fun h => eT h ?_)
    · refine r_aload_n dX12_readStreetLine_44 rfl rfl ?_
      refine r_callv (cl_V [] bX12_reads (by decide) dX12_readStreetLine_45 ml_X12_206 kdc_198 rfl (Nat.le_of_ble_eq_true rfl) rfl) (kX12_reads _) (fun M5 _ => ?_)
      refine r_aload_n dX12_readStreetLine_48 rfl rfl ?_
      refine r_getR (k' := 217) dX12_readStreetLine_49 fl_X12_68 kdc_198 rfl ?_
      refine r_iload_n dX12_readStreetLine_52 rfl rfl ?_
      refine r_iconst ic_1 dX12_readStreetLine_53 ?_
      refine r_iadd dX12_readStreetLine_54 ?_
      refine r_iload_n dX12_readStreetLine_55 rfl rfl ?_
      refine r_iast dX12_readStreetLine_56 kdc_217 (fun M6 => ?_)
      refine r_aload_n dX12_readStreetLine_57 rfl rfl ?_
      refine r_getR (k' := 217) dX12_readStreetLine_58 fl_X12_68 kdc_198 rfl ?_
      refine r_iload_n dX12_readStreetLine_61 rfl rfl ?_
      refine r_iconst ic_2 dX12_readStreetLine_62 ?_
      refine r_iadd dX12_readStreetLine_63 ?_
      refine r_aload_n dX12_readStreetLine_64 rfl rfl ?_
      refine r_iconst ic_0 dX12_readStreetLine_65 ?_
      refine r_iload_n dX12_readStreetLine_66 rfl rfl ?_
      refine r_iconst ic_2 dX12_readStreetLine_67 ?_
      refine eJ (fun (J7 : (Int32) → Option (Int32 × Mem)) => ∀ (t8 : Int32), V g uX12_readStreetLine 6 rvW rmW 96 [.ref (ga g 198), .int p1, .int x4] [.int t8, .int 0, .ref (ga g 198), .int (p1 + 2), .ref (ga g 217)] M6 (J7 t8)) (fun t8 => ?_) (fun J7 hJ7 => ?_)
      · refine r_calli (cl_V [.int 0, .int t8] bX12_readNumber (by decide) dX12_readStreetLine_96 ml_X12_250 kdc_198 rfl (Nat.le_of_ble_eq_true rfl) rfl) (kX12_readNumber _ _ _) (fun r9 _ => ?_)
        refine r_iast dX12_readStreetLine_99 kdc_217 (fun M10 => ?_)
        refine r_aload_n dX12_readStreetLine_100 rfl rfl ?_
        refine r_getR (k' := 217) dX12_readStreetLine_101 fl_X12_68 kdc_198 rfl ?_
        refine r_iload_n dX12_readStreetLine_104 rfl rfl ?_
        refine r_iconst ic_2 dX12_readStreetLine_105 ?_
        refine r_iadd dX12_readStreetLine_106 ?_
        refine r_iald dX12_readStreetLine_107 kdc_217 (fun v11 => ?_)
        refine r_iconst ic_m1 dX12_readStreetLine_108 ?_
        refine r_icmp_ne dX12_readStreetLine_109 (fun h => eF h ?_) (fun h => eT h ?_)
        · refine r_aload_n dX12_readStreetLine_114 rfl rfl ?_
          refine r_getR (k' := 217) dX12_readStreetLine_115 fl_X12_68 kdc_198 rfl ?_
          refine r_iload_n dX12_readStreetLine_118 rfl rfl ?_
          refine r_iconst ic_3 dX12_readStreetLine_119 ?_
          refine r_iadd dX12_readStreetLine_120 ?_
          refine r_iload_n dX12_readStreetLine_121 rfl rfl ?_
          refine r_iconst ic_3 dX12_readStreetLine_122 ?_
          refine eJ (fun (J12 : (Int32) → (Mem) → Option (Int32 × Mem)) => ∀ (t13 : Int32) (M14 : Mem), V g uX12_readStreetLine 6 rvW rmW 137 [.ref (ga g 198), .int p1, .null] [.int t13, .int (p1 + 3), .ref (ga g 217)] M14 (J12 t13 M14)) (fun t13 M14 => ?_) (fun J12 hJ12 => ?_)
          · refine r_iast dX12_readStreetLine_137 kdc_217 (fun M15 => ?_)
            refine r_aload_n dX12_readStreetLine_138 rfl rfl ?_
            refine r_getR (k' := 217) dX12_readStreetLine_139 fl_X12_68 kdc_198 rfl ?_
            refine r_iload_n dX12_readStreetLine_142 rfl rfl ?_
            refine r_iconst ic_3 dX12_readStreetLine_143 ?_
            refine r_iadd dX12_readStreetLine_144 ?_
            refine r_iald dX12_readStreetLine_145 kdc_217 (fun v16 => ?_)
            refine r_iconst ic_m1 dX12_readStreetLine_146 ?_
            refine r_icmp_ne dX12_readStreetLine_147 (fun h => eF h ?_) (fun h => eT h ?_)
            · refine r_aload_n dX12_readStreetLine_154 rfl rfl ?_
              refine r_bipush bp_59 dX12_readStreetLine_155 ?_
              refine r_calli (cl_V [.int 59] bX12_readMark (by decide) dX12_readStreetLine_157 ml_X12_257 kdc_198 rfl (Nat.le_of_ble_eq_true rfl) rfl) (kX12_readMark _ _) (fun r17 _ => ?_)
              exact vRet rfl rfl rfl dX12_readStreetLine_160
            · refine r_iconst ic_m1 dX12_readStreetLine_150 ?_
              refine r_goto dX12_readStreetLine_151 ?_
              exact vRet rfl rfl rfl dX12_readStreetLine_160
          · refine r_icmp_ne dX12_readStreetLine_123 (fun h => eF h ?_) (fun h => eT h ?_)
            · refine r_iconst ic_0 dX12_readStreetLine_136 ?_
              exact vSub (l' := [.ref (ga g 198), .int p1, .null]) ⟨Or.inr rfl, ⟨Or.inr rfl, ⟨Or.inl rfl, trivial⟩⟩⟩ (hJ12 _ _)
            · refine r_aload_n dX12_readStreetLine_126 rfl rfl ?_
              refine r_iconst ic_0 dX12_readStreetLine_127 ?_
              refine r_bipush bp_9 dX12_readStreetLine_128 ?_
              refine r_calli (cl_V [.int 0, .int 9] bX12_readNumber (by decide) dX12_readStreetLine_130 ml_X12_250 kdc_198 rfl (Nat.le_of_ble_eq_true rfl) rfl) (kX12_readNumber _ _ _) (fun r18 _ => ?_)
              refine r_goto dX12_readStreetLine_133 ?_
              exact vSub (l' := [.ref (ga g 198), .int p1, .null]) ⟨Or.inr rfl, ⟨Or.inr rfl, ⟨Or.inl rfl, trivial⟩⟩⟩ (hJ12 _ _)
        · refine r_iconst ic_m1 dX12_readStreetLine_112 ?_
          exact vRet rfl rfl rfl dX12_readStreetLine_113
      · refine r_icmp_ne dX12_readStreetLine_68 (fun h => eF h ?_) (fun h => eT h ?_)
        · refine r_iload_n dX12_readStreetLine_80 rfl rfl ?_
          refine r_iconst ic_3 dX12_readStreetLine_81 ?_
          refine r_icmp_ne dX12_readStreetLine_82 (fun h => eF h ?_) (fun h => eT h ?_)
          · refine r_bipush bp_9 dX12_readStreetLine_94 ?_
            exact hJ7 _
          · refine r_aload_n dX12_readStreetLine_85 rfl rfl ?_
            refine r_getI dX12_readStreetLine_86 fl_X12_134 kdc_198 ?_
            refine r_iconst ic_1 dX12_readStreetLine_89 ?_
            refine r_isub dX12_readStreetLine_90 ?_
            refine r_goto dX12_readStreetLine_91 ?_
            exact hJ7 _
        · refine r_aload_n dX12_readStreetLine_71 rfl rfl ?_
          refine r_getI dX12_readStreetLine_72 fl_X12_137 kdc_198 ?_
          refine r_iconst ic_1 dX12_readStreetLine_75 ?_
          refine r_isub dX12_readStreetLine_76 ?_
          refine r_goto dX12_readStreetLine_77 ?_
          exact hJ7 _
    · refine r_aload_n dX12_readStreetLine_38 rfl rfl ?_
      refine r_iconst ic_1 dX12_readStreetLine_39 ?_
      refine r_calli (cl_V [.int 1] bX12_errs (by decide) dX12_readStreetLine_40 ml_X12_199 kdc_198 rfl (Nat.le_of_ble_eq_true rfl) rfl) (kX12_errs _ _) (fun r19 _ => ?_)
      exact vRet rfl rfl rfl dX12_readStreetLine_43
  · refine r_iconst ic_m1 dX12_readStreetLine_26 ?_
    exact vRet rfl rfl rfl dX12_readStreetLine_27
theorem kX12_readStreetLine {g : G}   (p1 : Int32) (M : Mem) : CtrI g uX12_readStreetLine 6 (fun r => r.1) rmW [.ref (ga g 198), .int p1] M (fX12_readStreetLine p1 M) := CtrI.of mX12_readStreetLine rfl (Nat.le_of_ble_eq_true rfl) rfl (vX12_readStreetLine p1 M)
set_option maxHeartbeats 4000000 in
set_option maxRecDepth 100000 in
theorem vX12_readStreet_L2 {g : G}  (K46 : Int32 → Mem → Option (Int32 × Mem))    (hK46 : ∀ (e1 : Int32) (M : Mem), V g uX12_readStreet 7 rvW rmW 46 [.ref (ga g 198), .int e1] [] M (K46 e1 M)) : ∀ (n : Nat) (y1 : Int32) (M : Mem), V g uX12_readStreet 7 rvW rmW 2 [.ref (ga g 198), .int y1] [] M (fX12_readStreet_L2 K46 n y1 M) := by
  intro n
  induction n with
  | zero => intro y1 M; exact vNone
  | succ n ih =>
    intro y1 M
    rw [fX12_readStreet_L2]
    refine r_aload_n dX12_readStreet_2 rfl rfl ?_
    refine r_bipush bp_17 dX12_readStreet_3 ?_
    refine r_calliT (cl_V [.int 17] bX12_isWord (by decide) dX12_readStreet_5 ml_X12_228 kdc_198 rfl (Nat.le_of_ble_eq_true rfl) rfl) (kX12_isWord _ _) ?_
    refine r_if_eq dX12_readStreet_8 (fun h => eT h ?_) (fun h => eF h ?_)
    · exact hK46 _ _
    · refine r_iload_n dX12_readStreet_11 rfl rfl ?_
      refine r_bipush bp_16 dX12_readStreet_12 ?_
      refine r_icmp_ne dX12_readStreet_14 (fun h => eF h ?_) (fun h => eT h ?_)
      · refine r_aload_n dX12_readStreet_23 rfl rfl ?_
        refine r_bipush bp_64 dX12_readStreet_24 ?_
        refine r_iconst ic_4 dX12_readStreet_26 ?_
        refine r_iload_n dX12_readStreet_27 rfl rfl ?_
        refine r_imul dX12_readStreet_28 ?_
        refine r_iadd dX12_readStreet_29 ?_
        refine r_calli (cl_V [.int (64 + (4 * y1))] bX12_readStreetLine (by decide) dX12_readStreet_30 ml_X12_266 kdc_198 rfl (Nat.le_of_ble_eq_true rfl) rfl) (kX12_readStreetLine _ _) (fun r1 _ => ?_)
        refine r_iconst ic_m1 dX12_readStreet_33 ?_
        refine r_icmp_ne dX12_readStreet_34 (fun h => eF h ?_) (fun h => eT h ?_)
        · refine r_iload_n dX12_readStreet_39 rfl rfl ?_
          refine r_iconst ic_1 dX12_readStreet_40 ?_
          refine r_iadd dX12_readStreet_41 ?_
          refine r_bndi (fun x2 => ?_)
          refine r_istore_n (l' := [.ref (ga g 198), .int x2]) dX12_readStreet_42 rfl (Nat.le_of_ble_eq_true rfl) rfl rfl ?_
          refine r_goto dX12_readStreet_43 ?_
          exact ih _ _
        · refine r_iconst ic_m1 dX12_readStreet_37 ?_
          exact vRet rfl rfl rfl dX12_readStreet_38
      · refine r_aload_n dX12_readStreet_17 rfl rfl ?_
        refine r_iconst ic_3 dX12_readStreet_18 ?_
        refine r_calli (cl_V [.int 3] bX12_errs (by decide) dX12_readStreet_19 ml_X12_199 kdc_198 rfl (Nat.le_of_ble_eq_true rfl) rfl) (kX12_errs _ _) (fun r3 _ => ?_)
        exact vRet rfl rfl rfl dX12_readStreet_22
set_option maxHeartbeats 4000000 in
set_option maxRecDepth 100000 in
theorem vX12_readStreet {g : G}    (M : Mem) : V g uX12_readStreet 7 rvW rmW 0 [.ref (ga g 198), .null] [] M (fX12_readStreet M) := by
  unfold fX12_readStreet
  refine r_iconst ic_0 dX12_readStreet_0 ?_
  refine r_istore_n (l' := [.ref (ga g 198), .int 0]) dX12_readStreet_1 rfl (Nat.le_of_ble_eq_true rfl) rfl rfl ?_
  refine vX12_readStreet_L2 _ (fun e4 M5 => ?_) FU _ _
  · refine r_aload_n dX12_readStreet_46 rfl rfl ?_
    refine r_getI dX12_readStreet_47 fl_X12_168 kdc_198 ?_
    refine r_if_ne dX12_readStreet_50 (fun h => eF h ?_) (fun h => eT h ?_)
    · refine r_aload_n dX12_readStreet_57 rfl rfl ?_
      refine r_iconst ic_1 dX12_readStreet_58 ?_
      refine r_calli (cl_V [.int 1] bX12_errs (by decide) dX12_readStreet_59 ml_X12_199 kdc_198 rfl (Nat.le_of_ble_eq_true rfl) rfl) (kX12_errs _ _) (fun r6 _ => ?_)
      exact vRet rfl rfl rfl dX12_readStreet_62
    · refine r_iload_n dX12_readStreet_53 rfl rfl ?_
      refine r_goto dX12_readStreet_54 ?_
      exact vRet rfl rfl rfl dX12_readStreet_62
theorem kX12_readStreet {g : G}    (M : Mem) : CtrI g uX12_readStreet 7 (fun r => r.1) rmW [.ref (ga g 198)] M (fX12_readStreet M) := CtrI.of mX12_readStreet rfl (Nat.le_of_ble_eq_true rfl) rfl (vX12_readStreet M)
set_option maxHeartbeats 4000000 in
set_option maxRecDepth 100000 in
theorem vX12_readLean {g : G}    (M : Mem) : V g uX12_readLean 6 rvW rmW 0 [.ref (ga g 198), .null, .null] [] M (fX12_readLean M) := by
  unfold fX12_readLean
  refine r_aload_n dX12_readLean_0 rfl rfl ?_
  refine r_bipush bp_18 dX12_readLean_1 ?_
  refine r_iconst ic_0 dX12_readLean_3 ?_
  refine r_aload_n dX12_readLean_4 rfl rfl ?_
  refine r_getI dX12_readLean_5 fl_X12_137 kdc_198 ?_
  refine r_iconst ic_1 dX12_readLean_8 ?_
  refine r_isub dX12_readLean_9 ?_
  refine r_calli (cl_V [.int 18, .int 0, .int ((M 198 7) - 1)] bX12_readTold (by decide) dX12_readLean_10 ml_X12_253 kdc_198 rfl (Nat.le_of_ble_eq_true rfl) rfl) (kX12_readTold _ _ _ _) (fun r1 _ => ?_)
  refine r_istore_n (l' := [.ref (ga g 198), .int r1.1, .null]) dX12_readLean_13 rfl (Nat.le_of_ble_eq_true rfl) rfl rfl ?_
  refine r_iload_n dX12_readLean_14 rfl rfl ?_
  refine r_iconst ic_m1 dX12_readLean_15 ?_
  refine r_icmp_ne dX12_readLean_16 (fun h => eF h ?_) (fun h => eT h ?_)
  · refine r_aload_n dX12_readLean_21 rfl rfl ?_
    refine r_bipush bp_21 dX12_readLean_22 ?_
    refine r_calliT (cl_V [.int 21] bX12_isWord (by decide) dX12_readLean_24 ml_X12_228 kdc_198 rfl (Nat.le_of_ble_eq_true rfl) rfl) (kX12_isWord _ _) ?_
    refine r_if_ne dX12_readLean_27 (fun h => eF h ?_) (fun h => eT h ?_)
    · refine r_aload_n dX12_readLean_36 rfl rfl ?_
      refine r_callv (cl_V [] bX12_reads (by decide) dX12_readLean_37 ml_X12_206 kdc_198 rfl (Nat.le_of_ble_eq_true rfl) rfl) (kX12_reads _) (fun M2 _ => ?_)
      refine r_aload_n dX12_readLean_40 rfl rfl ?_
      refine r_getI dX12_readLean_41 fl_X12_168 kdc_198 ?_
      refine r_iconst ic_3 dX12_readLean_44 ?_
      refine eJ (fun (J3 : Option (Int32 × Mem)) => V g uX12_readLean 6 rvW rmW 80 [.ref (ga g 198), .int r1.1, .null] [] M2 (J3)) ( ?_) (fun J3 hJ3 => ?_)
      · refine r_aload_n dX12_readLean_80 rfl rfl ?_
        refine r_iconst ic_0 dX12_readLean_81 ?_
        refine r_aload_n dX12_readLean_82 rfl rfl ?_
        refine r_getI dX12_readLean_83 fl_X12_134 kdc_198 ?_
        refine r_iconst ic_1 dX12_readLean_86 ?_
        refine r_isub dX12_readLean_87 ?_
        refine r_calli (cl_V [.int 0, .int ((M2 198 6) - 1)] bX12_readNumber (by decide) dX12_readLean_88 ml_X12_250 kdc_198 rfl (Nat.le_of_ble_eq_true rfl) rfl) (kX12_readNumber _ _ _) (fun r4 _ => ?_)
        refine r_istore_n (l' := [.ref (ga g 198), .int r1.1, .int r4.1]) dX12_readLean_91 rfl (Nat.le_of_ble_eq_true rfl) rfl rfl ?_
        refine r_iload_n dX12_readLean_92 rfl rfl ?_
        refine r_iconst ic_m1 dX12_readLean_93 ?_
        refine r_icmp_ne dX12_readLean_94 (fun h => eF h ?_) (fun h => eT h ?_)
        · refine r_aload_n dX12_readLean_99 rfl rfl ?_
          refine r_getR (k' := 218) dX12_readLean_100 fl_X12_71 kdc_198 rfl ?_
          refine r_bipush bp_14 dX12_readLean_103 ?_
          refine r_iload_n dX12_readLean_105 rfl rfl ?_
          refine r_iadd dX12_readLean_106 ?_
          refine r_aload_n dX12_readLean_107 rfl rfl ?_
          refine r_getR (k' := 218) dX12_readLean_108 fl_X12_71 kdc_198 rfl ?_
          refine r_bipush bp_14 dX12_readLean_111 ?_
          refine r_iload_n dX12_readLean_113 rfl rfl ?_
          refine r_iadd dX12_readLean_114 ?_
          refine r_iald dX12_readLean_115 kdc_218 (fun v5 => ?_)
          refine r_iconst ic_1 dX12_readLean_116 ?_
          refine r_iload_n dX12_readLean_117 rfl rfl ?_
          refine r_ishl dX12_readLean_118 ?_
          refine r_ior dX12_readLean_119 ?_
          refine r_iast dX12_readLean_120 kdc_218 (fun M6 => ?_)
          refine r_aload_n dX12_readLean_121 rfl rfl ?_
          refine r_bipush bp_59 dX12_readLean_122 ?_
          refine r_calli (cl_V [.int 59] bX12_readMark (by decide) dX12_readLean_124 ml_X12_257 kdc_198 rfl (Nat.le_of_ble_eq_true rfl) rfl) (kX12_readMark _ _) (fun r7 _ => ?_)
          exact vRet rfl rfl rfl dX12_readLean_127
        · refine r_iconst ic_m1 dX12_readLean_97 ?_
          exact vRet rfl rfl rfl dX12_readLean_98
      · refine r_icmp_ne dX12_readLean_45 (fun h => eF h ?_) (fun h => eT h ?_)
        · exact hJ3
        · refine r_aload_n dX12_readLean_48 rfl rfl ?_
          refine r_getI dX12_readLean_49 fl_X12_171 kdc_198 ?_
          refine r_aload_n dX12_readLean_52 rfl rfl ?_
          refine r_getR (k' := 202) dX12_readLean_53 fl_X12_19 kdc_198 rfl ?_
          refine r_iload_n dX12_readLean_56 rfl rfl ?_
          refine r_iald dX12_readLean_57 kdc_202 (fun v8 => ?_)
          refine eJ (fun (J9 : Option (Int32 × Mem)) => V g uX12_readLean 6 rvW rmW 74 [.ref (ga g 198), .null, .null] [] M2 (J9)) ( ?_) (fun J9 hJ9 => ?_)
          · refine r_aload_n dX12_readLean_74 rfl rfl ?_
            refine r_iconst ic_2 dX12_readLean_75 ?_
            refine r_calli (cl_V [.int 2] bX12_errs (by decide) dX12_readLean_76 ml_X12_199 kdc_198 rfl (Nat.le_of_ble_eq_true rfl) rfl) (kX12_errs _ _) (fun r10 _ => ?_)
            exact vRet rfl rfl rfl dX12_readLean_79
          · refine r_icmp_eq dX12_readLean_58 (fun h => eT h ?_) (fun h => eF h ?_)
            · exact vSub (l' := [.ref (ga g 198), .null, .null]) ⟨Or.inr rfl, ⟨Or.inl rfl, ⟨Or.inl rfl, trivial⟩⟩⟩ (hJ9 )
            · refine r_aload_n dX12_readLean_61 rfl rfl ?_
              refine r_getI dX12_readLean_62 fl_X12_171 kdc_198 ?_
              refine r_aload_n dX12_readLean_65 rfl rfl ?_
              refine r_getR (k' := 203) dX12_readLean_66 fl_X12_22 kdc_198 rfl ?_
              refine r_iload_n dX12_readLean_69 rfl rfl ?_
              refine r_iald dX12_readLean_70 kdc_203 (fun v11 => ?_)
              refine r_icmp_ne dX12_readLean_71 (fun h => eF h ?_) (fun h => eT h ?_)
              · exact hJ3
              · exact vSub (l' := [.ref (ga g 198), .null, .null]) ⟨Or.inr rfl, ⟨Or.inl rfl, ⟨Or.inl rfl, trivial⟩⟩⟩ (hJ9 )
    · refine r_aload_n dX12_readLean_30 rfl rfl ?_
      refine r_iconst ic_1 dX12_readLean_31 ?_
      refine r_calli (cl_V [.int 1] bX12_errs (by decide) dX12_readLean_32 ml_X12_199 kdc_198 rfl (Nat.le_of_ble_eq_true rfl) rfl) (kX12_errs _ _) (fun r12 _ => ?_)
      exact vRet rfl rfl rfl dX12_readLean_35
  · refine r_iconst ic_m1 dX12_readLean_19 ?_
    exact vRet rfl rfl rfl dX12_readLean_20
theorem kX12_readLean {g : G}    (M : Mem) : CtrI g uX12_readLean 6 (fun r => r.1) rmW [.ref (ga g 198)] M (fX12_readLean M) := CtrI.of mX12_readLean rfl (Nat.le_of_ble_eq_true rfl) rfl (vX12_readLean M)
set_option maxHeartbeats 4000000 in
set_option maxRecDepth 100000 in
theorem vX12_readLeans_L2 {g : G}  (K24 : Mem → Option (Int32 × Mem))    (hK24 : ∀ (M : Mem), V g uX12_readLeans 7 rvW rmW 24 [.ref (ga g 198), .null] [] M (K24 M)) : ∀ (n : Nat) (y1 : Int32) (M : Mem), V g uX12_readLeans 7 rvW rmW 2 [.ref (ga g 198), .int y1] [] M (fX12_readLeans_L2 K24 n y1 M) := by
  intro n
  induction n with
  | zero => intro y1 M; exact vNone
  | succ n ih =>
    intro y1 M
    rw [fX12_readLeans_L2]
    refine r_iload_n dX12_readLeans_2 rfl rfl ?_
    refine r_bipush bp_14 dX12_readLeans_3 ?_
    refine r_icmp_ge dX12_readLeans_5 (fun h => eT h ?_) (fun h => eF h ?_)
    · exact vSub (l' := [.ref (ga g 198), .null]) ⟨Or.inr rfl, ⟨Or.inl rfl, trivial⟩⟩ (hK24 _)
    · refine r_aload_n dX12_readLeans_8 rfl rfl ?_
      refine r_getR (k' := 218) dX12_readLeans_9 fl_X12_71 kdc_198 rfl ?_
      refine r_bipush bp_14 dX12_readLeans_12 ?_
      refine r_iload_n dX12_readLeans_14 rfl rfl ?_
      refine r_iadd dX12_readLeans_15 ?_
      refine r_iconst ic_0 dX12_readLeans_16 ?_
      refine r_iast dX12_readLeans_17 kdc_218 (fun M1 => ?_)
      refine r_iinc (l' := [.ref (ga g 198), .int (y1 + 1)]) dX12_readLeans_18 rfl (inc_1 _) (Nat.le_of_ble_eq_true rfl) rfl rfl ?_
      refine r_goto dX12_readLeans_21 ?_
      exact ih _ _
set_option maxHeartbeats 4000000 in
set_option maxRecDepth 100000 in
theorem vX12_readLeans_L26 {g : G}  (K64 : Int32 → Mem → Option (Int32 × Mem))    (hK64 : ∀ (e1 : Int32) (M : Mem), V g uX12_readLeans 7 rvW rmW 64 [.ref (ga g 198), .int e1] [] M (K64 e1 M)) : ∀ (n : Nat) (y1 : Int32) (M : Mem), V g uX12_readLeans 7 rvW rmW 26 [.ref (ga g 198), .int y1] [] M (fX12_readLeans_L26 K64 n y1 M) := by
  intro n
  induction n with
  | zero => intro y1 M; exact vNone
  | succ n ih =>
    intro y1 M
    rw [fX12_readLeans_L26]
    refine r_aload_n dX12_readLeans_26 rfl rfl ?_
    refine r_bipush bp_18 dX12_readLeans_27 ?_
    refine r_calliT (cl_V [.int 18] bX12_isWord (by decide) dX12_readLeans_29 ml_X12_228 kdc_198 rfl (Nat.le_of_ble_eq_true rfl) rfl) (kX12_isWord _ _) ?_
    refine r_if_eq dX12_readLeans_32 (fun h => eT h ?_) (fun h => eF h ?_)
    · exact hK64 _ _
    · refine r_iload_n dX12_readLeans_35 rfl rfl ?_
      refine r_bipush bp_16 dX12_readLeans_36 ?_
      refine r_icmp_ne dX12_readLeans_38 (fun h => eF h ?_) (fun h => eT h ?_)
      · refine r_aload_n dX12_readLeans_47 rfl rfl ?_
        refine r_calli (cl_V [] bX12_readLean (by decide) dX12_readLeans_48 ml_X12_269 kdc_198 rfl (Nat.le_of_ble_eq_true rfl) rfl) (kX12_readLean _) (fun r3 _ => ?_)
        refine r_iconst ic_m1 dX12_readLeans_51 ?_
        refine r_icmp_ne dX12_readLeans_52 (fun h => eF h ?_) (fun h => eT h ?_)
        · refine r_iload_n dX12_readLeans_57 rfl rfl ?_
          refine r_iconst ic_1 dX12_readLeans_58 ?_
          refine r_iadd dX12_readLeans_59 ?_
          refine r_bndi (fun x4 => ?_)
          refine r_istore_n (l' := [.ref (ga g 198), .int x4]) dX12_readLeans_60 rfl (Nat.le_of_ble_eq_true rfl) rfl rfl ?_
          refine r_goto dX12_readLeans_61 ?_
          exact ih _ _
        · refine r_iconst ic_m1 dX12_readLeans_55 ?_
          exact vRet rfl rfl rfl dX12_readLeans_56
      · refine r_aload_n dX12_readLeans_41 rfl rfl ?_
        refine r_iconst ic_3 dX12_readLeans_42 ?_
        refine r_calli (cl_V [.int 3] bX12_errs (by decide) dX12_readLeans_43 ml_X12_199 kdc_198 rfl (Nat.le_of_ble_eq_true rfl) rfl) (kX12_errs _ _) (fun r5 _ => ?_)
        exact vRet rfl rfl rfl dX12_readLeans_46
set_option maxHeartbeats 4000000 in
set_option maxRecDepth 100000 in
theorem vX12_readLeans {g : G}    (M : Mem) : V g uX12_readLeans 7 rvW rmW 0 [.ref (ga g 198), .null] [] M (fX12_readLeans M) := by
  unfold fX12_readLeans
  refine r_iconst ic_0 dX12_readLeans_0 ?_
  refine r_istore_n (l' := [.ref (ga g 198), .int 0]) dX12_readLeans_1 rfl (Nat.le_of_ble_eq_true rfl) rfl rfl ?_
  refine vX12_readLeans_L2 _ (fun M2 => ?_) FU _ _
  · refine r_iconst ic_0 dX12_readLeans_24 ?_
    refine r_istore_n (l' := [.ref (ga g 198), .int 0]) dX12_readLeans_25 rfl (Nat.le_of_ble_eq_true rfl) rfl rfl ?_
    refine vX12_readLeans_L26 _ (fun e6 M7 => ?_) FU _ _
    · refine r_aload_n dX12_readLeans_64 rfl rfl ?_
      refine r_getI dX12_readLeans_65 fl_X12_168 kdc_198 ?_
      refine r_if_ne dX12_readLeans_68 (fun h => eF h ?_) (fun h => eT h ?_)
      · refine r_aload_n dX12_readLeans_75 rfl rfl ?_
        refine r_iconst ic_1 dX12_readLeans_76 ?_
        refine r_calli (cl_V [.int 1] bX12_errs (by decide) dX12_readLeans_77 ml_X12_199 kdc_198 rfl (Nat.le_of_ble_eq_true rfl) rfl) (kX12_errs _ _) (fun r8 _ => ?_)
        exact vRet rfl rfl rfl dX12_readLeans_80
      · refine r_iload_n dX12_readLeans_71 rfl rfl ?_
        refine r_goto dX12_readLeans_72 ?_
        exact vRet rfl rfl rfl dX12_readLeans_80
theorem kX12_readLeans {g : G}    (M : Mem) : CtrI g uX12_readLeans 7 (fun r => r.1) rmW [.ref (ga g 198)] M (fX12_readLeans M) := CtrI.of mX12_readLeans rfl (Nat.le_of_ble_eq_true rfl) rfl (vX12_readLeans M)
set_option maxHeartbeats 4000000 in
set_option maxRecDepth 100000 in
theorem vX12_isLineWord {g : G}    (M : Mem) : V g uX12_isLineWord 2 rvI (rmP M) 0 [.ref (ga g 198)] [] M (some (fX12_isLineWord M)) := by
  unfold fX12_isLineWord
  refine r_aload_n dX12_isLineWord_0 rfl rfl ?_
  refine r_getI dX12_isLineWord_1 fl_X12_168 kdc_198 ?_
  refine r_iconst ic_2 dX12_isLineWord_4 ?_
  refine r_icmp_ne dX12_isLineWord_5 (fun h => eFT h ?_) (fun h => eTT h ?_)
  · refine r_iconst ic_0 dX12_isLineWord_25 ?_
    exact vRet rfl rfl rfl dX12_isLineWord_26
  · refine r_aload_n dX12_isLineWord_8 rfl rfl ?_
    refine r_aload_n dX12_isLineWord_9 rfl rfl ?_
    refine r_getI dX12_isLineWord_10 fl_X12_171 kdc_198 ?_
    refine r_iconst ic_0 dX12_isLineWord_13 ?_
    refine r_iconst ic_2 dX12_isLineWord_14 ?_
    refine r_calliT (cl_V [.int (M 198 17), .int 0, .int 2] bX12_isIn (by decide) dX12_isLineWord_15 ml_X12_140 kdc_198 rfl (Nat.le_of_ble_eq_true rfl) rfl) (kX12_isIn _ _ _ _) ?_
    refine r_if_eq dX12_isLineWord_18 (fun h => eTT h ?_) (fun h => eFT h ?_)
    · refine r_iconst ic_0 dX12_isLineWord_25 ?_
      exact vRet rfl rfl rfl dX12_isLineWord_26
    · refine r_iconst ic_1 dX12_isLineWord_21 ?_
      refine r_goto dX12_isLineWord_22 ?_
      exact vRet rfl rfl rfl dX12_isLineWord_26
theorem zX12_isLineWord  (M : Mem) : fX12_isLineWord M = 0 ∨ fX12_isLineWord M = 1 := by
  unfold fX12_isLineWord
  repeat' split
  all_goals first | exact Or.inl rfl | exact Or.inr rfl | apply zX12_isIn
theorem kX12_isLineWord {g : G}    (M : Mem) : CtrI g uX12_isLineWord 2 (fun r => r) (rmP M) [.ref (ga g 198)] M (some (fX12_isLineWord M)) := CtrI.of mX12_isLineWord rfl (Nat.le_of_ble_eq_true rfl) rfl (vX12_isLineWord M)
set_option maxHeartbeats 4000000 in
set_option maxRecDepth 100000 in
theorem vX12_canAsk {g : G}   (p1 : Int32) (M : Mem) : V g uX12_canAsk 2 rvI (rmP M) 0 [.ref (ga g 198), .int p1] [] M (some (fX12_canAsk p1)) := by
  unfold fX12_canAsk
  refine r_aload_n dX12_canAsk_0 rfl rfl ?_
  refine r_iload_n dX12_canAsk_1 rfl rfl ?_
  refine r_bipush bp_7 dX12_canAsk_2 ?_
  refine r_bipush bp_16 dX12_canAsk_4 ?_
  refine r_calliT (cl_V [.int p1, .int 7, .int 16] bX12_isIn (by decide) dX12_canAsk_6 ml_X12_140 kdc_198 rfl (Nat.le_of_ble_eq_true rfl) rfl) (kX12_isIn _ _ _ _) ?_
  exact vRetB rfl rfl rfl (zX12_isIn _ _ _) dX12_canAsk_9
theorem zX12_canAsk (p1 : Int32) : fX12_canAsk p1 = 0 ∨ fX12_canAsk p1 = 1 := by
  unfold fX12_canAsk
  repeat' split
  all_goals first | exact Or.inl rfl | exact Or.inr rfl | apply zX12_isIn
theorem kX12_canAsk {g : G}   (p1 : Int32) (M : Mem) : CtrI g uX12_canAsk 2 (fun r => r) (rmP M) [.ref (ga g 198), .int p1] M (some (fX12_canAsk p1)) := CtrI.of mX12_canAsk rfl (Nat.le_of_ble_eq_true rfl) rfl (vX12_canAsk p1 M)
set_option maxHeartbeats 4000000 in
set_option maxRecDepth 100000 in
theorem vX12_emits {g : G}   (p1 : Int32) (p2 : Int32) (M : Mem) : V g uX12_emits 1 rvU rmU 0 [.ref (ga g 198), .int p1, .int p2] [] M (fX12_emits p1 p2 M) := by
  unfold fX12_emits
  refine r_aload_n dX12_emits_0 rfl rfl ?_
  refine r_getR (k' := 213) dX12_emits_1 fl_X12_52 kdc_198 rfl ?_
  refine r_sipush sp_800 dX12_emits_4 ?_
  refine r_aload_n dX12_emits_7 rfl rfl ?_
  refine r_getI dX12_emits_8 fl_X12_193 kdc_198 ?_
  refine r_iadd dX12_emits_11 ?_
  refine r_iload_n dX12_emits_12 rfl rfl ?_
  refine r_iast dX12_emits_13 kdc_213 (fun M1 => ?_)
  refine r_aload_n dX12_emits_14 rfl rfl ?_
  refine r_getR (k' := 214) dX12_emits_15 fl_X12_55 kdc_198 rfl ?_
  refine r_sipush sp_800 dX12_emits_18 ?_
  refine r_aload_n dX12_emits_21 rfl rfl ?_
  refine r_getI dX12_emits_22 fl_X12_193 kdc_198 ?_
  refine r_iadd dX12_emits_25 ?_
  refine r_iload_n dX12_emits_26 rfl rfl ?_
  refine r_iast dX12_emits_27 kdc_214 (fun M2 => ?_)
  refine r_aload_n dX12_emits_28 rfl rfl ?_
  refine r_aload_n dX12_emits_29 rfl rfl ?_
  refine r_getI dX12_emits_30 fl_X12_193 kdc_198 ?_
  refine r_iconst ic_1 dX12_emits_33 ?_
  refine r_iadd dX12_emits_34 ?_
  refine r_put dX12_emits_35 fw_X12_193 kdc_198 (fun M3 => ?_)
  exact vRet rfl rfl trivial dX12_emits_38
theorem kX12_emits {g : G}   (p1 : Int32) (p2 : Int32) (M : Mem) : CtrV g uX12_emits 1 rmU [.ref (ga g 198), .int p1, .int p2] M (fX12_emits p1 p2 M) := CtrV.of mX12_emits rfl (Nat.le_of_ble_eq_true rfl) rfl (vX12_emits p1 p2 M)
set_option maxHeartbeats 4000000 in
set_option maxRecDepth 100000 in
theorem vX12_readUnit {g : G}    (M : Mem) : V g uX12_readUnit 4 rvW rmW 0 [.ref (ga g 198), .null] [] M (fX12_readUnit M) := by
  unfold fX12_readUnit
  refine r_aload_n dX12_readUnit_0 rfl rfl ?_
  refine r_getI dX12_readUnit_1 fl_X12_168 kdc_198 ?_
  refine r_iconst ic_2 dX12_readUnit_4 ?_
  refine eJ (fun (J1 : (Int32) → Option (Int32 × Mem)) => ∀ (t2 : Int32), V g uX12_readUnit 4 rvW rmW 24 [.ref (ga g 198), .null] [.int t2] M (J1 t2)) (fun t2 => ?_) (fun J1 hJ1 => ?_)
  · refine r_istore_n (l' := [.ref (ga g 198), .int t2]) dX12_readUnit_24 rfl (Nat.le_of_ble_eq_true rfl) rfl rfl ?_
    refine r_iload_n dX12_readUnit_25 rfl rfl ?_
    refine eJ (fun (J3 : Option (Int32 × Mem)) => V g uX12_readUnit 4 rvW rmW 43 [.ref (ga g 198), .int t2] [] M (J3)) ( ?_) (fun J3 hJ3 => ?_)
    · refine r_aload_n dX12_readUnit_43 rfl rfl ?_
      refine r_iload_n dX12_readUnit_44 rfl rfl ?_
      refine eJ (fun (J4 : (Int32) → Option (Int32 × Mem)) => ∀ (t5 : Int32), V g uX12_readUnit 4 rvW rmW 53 [.ref (ga g 198), .int t2] [.int t5, .ref (ga g 198)] M (J4 t5)) (fun t5 => ?_) (fun J4 hJ4 => ?_)
      · refine r_iload_n dX12_readUnit_53 rfl rfl ?_
        refine eJ (fun (J6 : (Int32) → Option (Int32 × Mem)) => ∀ (t7 : Int32), V g uX12_readUnit 4 rvW rmW 71 [.ref (ga g 198), .null] [.int t7, .int t5, .ref (ga g 198)] M (J6 t7)) (fun t7 => ?_) (fun J6 hJ6 => ?_)
        · refine r_callv (cl_V [.int t5, .int t7] bX12_emits (by decide) dX12_readUnit_71 ml_X12_202 kdc_198 rfl (Nat.le_of_ble_eq_true rfl) rfl) (kX12_emits _ _ _) (fun M8 _ => ?_)
          refine r_aload_n dX12_readUnit_74 rfl rfl ?_
          refine r_callv (cl_V [] bX12_reads (by decide) dX12_readUnit_75 ml_X12_206 kdc_198 rfl (Nat.le_of_ble_eq_true rfl) rfl) (kX12_reads _) (fun M9 _ => ?_)
          refine r_iconst ic_0 dX12_readUnit_78 ?_
          exact vRet rfl rfl rfl dX12_readUnit_79
        · refine r_if_eq dX12_readUnit_54 (fun h => eT h ?_) (fun h => eF h ?_)
          · refine r_aload_n dX12_readUnit_67 rfl rfl ?_
            refine r_getI dX12_readUnit_68 fl_X12_171 kdc_198 ?_
            exact vSub (l' := [.ref (ga g 198), .null]) ⟨Or.inr rfl, ⟨Or.inl rfl, trivial⟩⟩ (hJ6 _)
          · refine r_aload_n dX12_readUnit_57 rfl rfl ?_
            refine r_getI dX12_readUnit_58 fl_X12_171 kdc_198 ?_
            refine r_bipush bp_7 dX12_readUnit_61 ?_
            refine r_isub dX12_readUnit_63 ?_
            refine r_goto dX12_readUnit_64 ?_
            exact vSub (l' := [.ref (ga g 198), .null]) ⟨Or.inr rfl, ⟨Or.inl rfl, trivial⟩⟩ (hJ6 _)
      · refine r_if_eq dX12_readUnit_45 (fun h => eT h ?_) (fun h => eF h ?_)
        · refine r_iconst ic_0 dX12_readUnit_52 ?_
          exact hJ4 _
        · refine r_iconst ic_1 dX12_readUnit_48 ?_
          refine r_goto dX12_readUnit_49 ?_
          exact hJ4 _
    · refine r_if_ne dX12_readUnit_26 (fun h => eF h ?_) (fun h => eT h ?_)
      · exact hJ3
      · refine r_aload_n dX12_readUnit_29 rfl rfl ?_
        refine r_getI dX12_readUnit_30 fl_X12_168 kdc_198 ?_
        refine r_iconst ic_3 dX12_readUnit_33 ?_
        refine r_icmp_eq dX12_readUnit_34 (fun h => eT h ?_) (fun h => eF h ?_)
        · exact hJ3
        · refine r_aload_n dX12_readUnit_37 rfl rfl ?_
          refine r_iconst ic_1 dX12_readUnit_38 ?_
          refine r_calli (cl_V [.int 1] bX12_errs (by decide) dX12_readUnit_39 ml_X12_199 kdc_198 rfl (Nat.le_of_ble_eq_true rfl) rfl) (kX12_errs _ _) (fun r10 _ => ?_)
          exact vRet rfl rfl rfl dX12_readUnit_42
  · refine eJ (fun (J11 : Option (Int32 × Mem)) => V g uX12_readUnit 4 rvW rmW 23 [.ref (ga g 198), .null] [] M (J11)) ( ?_) (fun J11 hJ11 => ?_)
    · refine r_iconst ic_0 dX12_readUnit_23 ?_
      exact hJ1 _
    · refine r_icmp_ne dX12_readUnit_5 (fun h => eF h ?_) (fun h => eT h ?_)
      · exact hJ11
      · refine r_aload_n dX12_readUnit_8 rfl rfl ?_
        refine r_aload_n dX12_readUnit_9 rfl rfl ?_
        refine r_getI dX12_readUnit_10 fl_X12_171 kdc_198 ?_
        refine r_calliT (cl_V [.int (M 198 17)] bX12_canAsk (by decide) dX12_readUnit_13 ml_X12_196 kdc_198 rfl (Nat.le_of_ble_eq_true rfl) rfl) (kX12_canAsk _ _) ?_
        refine r_if_eq dX12_readUnit_16 (fun h => eT h ?_) (fun h => eF h ?_)
        · exact hJ11
        · refine r_iconst ic_1 dX12_readUnit_19 ?_
          refine r_goto dX12_readUnit_20 ?_
          exact hJ1 _
theorem kX12_readUnit {g : G}    (M : Mem) : CtrI g uX12_readUnit 4 (fun r => r.1) rmW [.ref (ga g 198)] M (fX12_readUnit M) := CtrI.of mX12_readUnit rfl (Nat.le_of_ble_eq_true rfl) rfl (vX12_readUnit M)
set_option maxHeartbeats 4000000 in
set_option maxRecDepth 100000 in
theorem vX12_readProduct_L10 {g : G}       : ∀ (n : Nat) (M : Mem), V g uX12_readProduct 5 rvW rmW 10 [.ref (ga g 198), .null] [] M (fX12_readProduct_L10 n M) := by
  intro n
  induction n with
  | zero => intro M; exact vNone
  | succ n ih =>
    intro M
    rw [fX12_readProduct_L10]
    refine r_aload_n dX12_readProduct_10 rfl rfl ?_
    refine r_bipush bp_42 dX12_readProduct_11 ?_
    refine r_calliT (cl_V [.int 42] bX12_isSign (by decide) dX12_readProduct_13 ml_X12_213 kdc_198 rfl (Nat.le_of_ble_eq_true rfl) rfl) (kX12_isSign _ _) ?_
    refine eJ (fun (J2 : Option (Int32 × Mem)) => V g uX12_readProduct 5 rvW rmW 28 [.ref (ga g 198), .null] [] M (J2)) ( ?_) (fun J2 hJ2 => ?_)
    · refine r_aload_n dX12_readProduct_28 rfl rfl ?_
      refine r_bipush bp_42 dX12_readProduct_29 ?_
      refine r_calliT (cl_V [.int 42] bX12_isSign (by decide) dX12_readProduct_31 ml_X12_213 kdc_198 rfl (Nat.le_of_ble_eq_true rfl) rfl) (kX12_isSign _ _) ?_
      refine r_bndi (fun x3 => ?_)
      refine r_istore_n (l' := [.ref (ga g 198), .int x3]) dX12_readProduct_34 rfl (Nat.le_of_ble_eq_true rfl) rfl rfl ?_
      refine r_aload_n dX12_readProduct_35 rfl rfl ?_
      refine r_callv (cl_V [] bX12_reads (by decide) dX12_readProduct_36 ml_X12_206 kdc_198 rfl (Nat.le_of_ble_eq_true rfl) rfl) (kX12_reads _) (fun M4 _ => ?_)
      refine r_iload_n dX12_readProduct_39 rfl rfl ?_
      refine eJ (fun (J5 : Option (Int32 × Mem)) => V g uX12_readProduct 5 rvW rmW 57 [.ref (ga g 198), .int x3] [] M4 (J5)) ( ?_) (fun J5 hJ5 => ?_)
      · refine r_iload_n dX12_readProduct_57 rfl rfl ?_
        refine eJ (fun (J6 : Option (Int32 × Mem)) => V g uX12_readProduct 5 rvW rmW 74 [.ref (ga g 198), .int x3] [] M4 (J6)) ( ?_) (fun J6 hJ6 => ?_)
        · refine r_aload_n dX12_readProduct_74 rfl rfl ?_
          refine r_calli (cl_V [] bX12_readUnit (by decide) dX12_readProduct_75 ml_X12_209 kdc_198 rfl (Nat.le_of_ble_eq_true rfl) rfl) (kX12_readUnit _) (fun r7 _ => ?_)
          refine r_iconst ic_m1 dX12_readProduct_78 ?_
          refine r_icmp_ne dX12_readProduct_79 (fun h => eF h ?_) (fun h => eT h ?_)
          · refine r_aload_n dX12_readProduct_84 rfl rfl ?_
            refine r_iload_n dX12_readProduct_85 rfl rfl ?_
            refine eJ (fun (J8 : (Int32) → Option (Int32 × Mem)) => ∀ (t9 : Int32), V g uX12_readProduct 5 rvW rmW 94 [.ref (ga g 198), .null] [.int t9, .ref (ga g 198)] r7.2 (J8 t9)) (fun t9 => ?_) (fun J8 hJ8 => ?_)
            · refine r_iconst ic_0 dX12_readProduct_94 ?_
              refine r_callv (cl_V [.int t9, .int 0] bX12_emits (by decide) dX12_readProduct_95 ml_X12_202 kdc_198 rfl (Nat.le_of_ble_eq_true rfl) rfl) (kX12_emits _ _ _) (fun M10 _ => ?_)
              refine r_goto dX12_readProduct_98 ?_
              exact ih _
            · refine r_if_eq dX12_readProduct_86 (fun h => eT h ?_) (fun h => eF h ?_)
              · refine r_iconst ic_5 dX12_readProduct_93 ?_
                exact vSub (l' := [.ref (ga g 198), .null]) ⟨Or.inr rfl, ⟨Or.inl rfl, trivial⟩⟩ (hJ8 _)
              · refine r_iconst ic_4 dX12_readProduct_89 ?_
                refine r_goto dX12_readProduct_90 ?_
                exact vSub (l' := [.ref (ga g 198), .null]) ⟨Or.inr rfl, ⟨Or.inl rfl, trivial⟩⟩ (hJ8 _)
          · refine r_iconst ic_m1 dX12_readProduct_82 ?_
            exact vRet rfl rfl rfl dX12_readProduct_83
        · refine r_if_ne dX12_readProduct_58 (fun h => eF h ?_) (fun h => eT h ?_)
          · exact hJ6
          · refine r_aload_n dX12_readProduct_61 rfl rfl ?_
            refine r_getI dX12_readProduct_62 fl_X12_171 kdc_198 ?_
            refine r_if_ne dX12_readProduct_65 (fun h => eF h ?_) (fun h => eT h ?_)
            · exact hJ6
            · refine r_aload_n dX12_readProduct_68 rfl rfl ?_
              refine r_iconst ic_2 dX12_readProduct_69 ?_
              refine r_calli (cl_V [.int 2] bX12_errs (by decide) dX12_readProduct_70 ml_X12_199 kdc_198 rfl (Nat.le_of_ble_eq_true rfl) rfl) (kX12_errs _ _) (fun r11 _ => ?_)
              exact vRet rfl rfl rfl dX12_readProduct_73
      · refine r_if_ne dX12_readProduct_40 (fun h => eF h ?_) (fun h => eT h ?_)
        · exact hJ5
        · refine r_aload_n dX12_readProduct_43 rfl rfl ?_
          refine r_getI dX12_readProduct_44 fl_X12_168 kdc_198 ?_
          refine r_iconst ic_3 dX12_readProduct_47 ?_
          refine r_icmp_eq dX12_readProduct_48 (fun h => eT h ?_) (fun h => eF h ?_)
          · exact hJ5
          · refine r_aload_n dX12_readProduct_51 rfl rfl ?_
            refine r_iconst ic_1 dX12_readProduct_52 ?_
            refine r_calli (cl_V [.int 1] bX12_errs (by decide) dX12_readProduct_53 ml_X12_199 kdc_198 rfl (Nat.le_of_ble_eq_true rfl) rfl) (kX12_errs _ _) (fun r12 _ => ?_)
            exact vRet rfl rfl rfl dX12_readProduct_56
    · refine r_if_ne dX12_readProduct_16 (fun h => eF h ?_) (fun h => eT h ?_)
      · exact hJ2
      · refine r_aload_n dX12_readProduct_19 rfl rfl ?_
        refine r_bipush bp_47 dX12_readProduct_20 ?_
        refine r_calliT (cl_V [.int 47] bX12_isSign (by decide) dX12_readProduct_22 ml_X12_213 kdc_198 rfl (Nat.le_of_ble_eq_true rfl) rfl) (kX12_isSign _ _) ?_
        refine r_if_eq dX12_readProduct_25 (fun h => eT h ?_) (fun h => eF h ?_)
        · refine r_iconst ic_0 dX12_readProduct_101 ?_
          exact vRet rfl rfl rfl dX12_readProduct_102
        · exact hJ2
set_option maxHeartbeats 4000000 in
set_option maxRecDepth 100000 in
theorem vX12_readProduct {g : G}    (M : Mem) : V g uX12_readProduct 5 rvW rmW 0 [.ref (ga g 198), .null] [] M (fX12_readProduct M) := by
  unfold fX12_readProduct
  refine r_aload_n dX12_readProduct_0 rfl rfl ?_
  refine r_calli (cl_V [] bX12_readUnit (by decide) dX12_readProduct_1 ml_X12_209 kdc_198 rfl (Nat.le_of_ble_eq_true rfl) rfl) (kX12_readUnit _) (fun r1 _ => ?_)
  refine r_iconst ic_m1 dX12_readProduct_4 ?_
  refine r_icmp_ne dX12_readProduct_5 (fun h => eF h ?_) (fun h => eT h ?_)
  · refine vX12_readProduct_L10  FU _
  · refine r_iconst ic_m1 dX12_readProduct_8 ?_
    exact vRet rfl rfl rfl dX12_readProduct_9
theorem kX12_readProduct {g : G}    (M : Mem) : CtrI g uX12_readProduct 5 (fun r => r.1) rmW [.ref (ga g 198)] M (fX12_readProduct M) := CtrI.of mX12_readProduct rfl (Nat.le_of_ble_eq_true rfl) rfl (vX12_readProduct M)
set_option maxHeartbeats 4000000 in
set_option maxRecDepth 100000 in
theorem vX12_readSum_L10 {g : G}       : ∀ (n : Nat) (M : Mem), V g uX12_readSum 6 rvW rmW 10 [.ref (ga g 198), .null] [] M (fX12_readSum_L10 n M) := by
  intro n
  induction n with
  | zero => intro M; exact vNone
  | succ n ih =>
    intro M
    rw [fX12_readSum_L10]
    refine r_aload_n dX12_readSum_10 rfl rfl ?_
    refine r_bipush bp_43 dX12_readSum_11 ?_
    refine r_calliT (cl_V [.int 43] bX12_isSign (by decide) dX12_readSum_13 ml_X12_213 kdc_198 rfl (Nat.le_of_ble_eq_true rfl) rfl) (kX12_isSign _ _) ?_
    refine eJ (fun (J2 : Option (Int32 × Mem)) => V g uX12_readSum 6 rvW rmW 28 [.ref (ga g 198), .null] [] M (J2)) ( ?_) (fun J2 hJ2 => ?_)
    · refine r_aload_n dX12_readSum_28 rfl rfl ?_
      refine r_getI dX12_readSum_29 fl_X12_171 kdc_198 ?_
      refine r_bipush bp_43 dX12_readSum_32 ?_
      refine eJ (fun (J3 : (Int32) → Option (Int32 × Mem)) => ∀ (t4 : Int32), V g uX12_readSum 6 rvW rmW 42 [.ref (ga g 198), .null] [.int t4] M (J3 t4)) (fun t4 => ?_) (fun J3 hJ3 => ?_)
      · refine r_istore_n (l' := [.ref (ga g 198), .int t4]) dX12_readSum_42 rfl (Nat.le_of_ble_eq_true rfl) rfl rfl ?_
        refine r_aload_n dX12_readSum_43 rfl rfl ?_
        refine r_callv (cl_V [] bX12_reads (by decide) dX12_readSum_44 ml_X12_206 kdc_198 rfl (Nat.le_of_ble_eq_true rfl) rfl) (kX12_reads _) (fun M5 _ => ?_)
        refine r_aload_n dX12_readSum_47 rfl rfl ?_
        refine r_calli (cl_V [] bX12_readProduct (by decide) dX12_readSum_48 ml_X12_216 kdc_198 rfl (Nat.le_of_ble_eq_true rfl) rfl) (kX12_readProduct _) (fun r6 _ => ?_)
        refine r_iconst ic_m1 dX12_readSum_51 ?_
        refine r_icmp_ne dX12_readSum_52 (fun h => eF h ?_) (fun h => eT h ?_)
        · refine r_aload_n dX12_readSum_57 rfl rfl ?_
          refine r_iload_n dX12_readSum_58 rfl rfl ?_
          refine r_iconst ic_0 dX12_readSum_59 ?_
          refine r_callv (cl_V [.int t4, .int 0] bX12_emits (by decide) dX12_readSum_60 ml_X12_202 kdc_198 rfl (Nat.le_of_ble_eq_true rfl) rfl) (kX12_emits _ _ _) (fun M7 _ => ?_)
          refine r_goto dX12_readSum_63 ?_
          exact vSub (l' := [.ref (ga g 198), .null]) ⟨Or.inr rfl, ⟨Or.inl rfl, trivial⟩⟩ (ih _)
        · refine r_iconst ic_m1 dX12_readSum_55 ?_
          exact vRet rfl rfl rfl dX12_readSum_56
      · refine r_icmp_ne dX12_readSum_34 (fun h => eF h ?_) (fun h => eT h ?_)
        · refine r_iconst ic_3 dX12_readSum_41 ?_
          exact hJ3 _
        · refine r_iconst ic_2 dX12_readSum_37 ?_
          refine r_goto dX12_readSum_38 ?_
          exact hJ3 _
    · refine r_if_ne dX12_readSum_16 (fun h => eF h ?_) (fun h => eT h ?_)
      · exact hJ2
      · refine r_aload_n dX12_readSum_19 rfl rfl ?_
        refine r_bipush bp_45 dX12_readSum_20 ?_
        refine r_calliT (cl_V [.int 45] bX12_isSign (by decide) dX12_readSum_22 ml_X12_213 kdc_198 rfl (Nat.le_of_ble_eq_true rfl) rfl) (kX12_isSign _ _) ?_
        refine r_if_eq dX12_readSum_25 (fun h => eT h ?_) (fun h => eF h ?_)
        · refine r_iconst ic_0 dX12_readSum_66 ?_
          exact vRet rfl rfl rfl dX12_readSum_67
        · exact hJ2
set_option maxHeartbeats 4000000 in
set_option maxRecDepth 100000 in
theorem vX12_readSum {g : G}    (M : Mem) : V g uX12_readSum 6 rvW rmW 0 [.ref (ga g 198), .null] [] M (fX12_readSum M) := by
  unfold fX12_readSum
  refine r_aload_n dX12_readSum_0 rfl rfl ?_
  refine r_calli (cl_V [] bX12_readProduct (by decide) dX12_readSum_1 ml_X12_216 kdc_198 rfl (Nat.le_of_ble_eq_true rfl) rfl) (kX12_readProduct _) (fun r1 _ => ?_)
  refine r_iconst ic_m1 dX12_readSum_4 ?_
  refine r_icmp_ne dX12_readSum_5 (fun h => eF h ?_) (fun h => eT h ?_)
  · refine vX12_readSum_L10  FU _
  · refine r_iconst ic_m1 dX12_readSum_8 ?_
    exact vRet rfl rfl rfl dX12_readSum_9
theorem kX12_readSum {g : G}    (M : Mem) : CtrI g uX12_readSum 6 (fun r => r.1) rmW [.ref (ga g 198)] M (fX12_readSum M) := CtrI.of mX12_readSum rfl (Nat.le_of_ble_eq_true rfl) rfl (vX12_readSum M)
set_option maxHeartbeats 4000000 in
set_option maxRecDepth 100000 in
theorem vX12_waits {g : G}   (p1 : Int32) (M : Mem) : V g uX12_waits 1 rvU rmU 0 [.ref (ga g 198), .int p1] [] M (fX12_waits p1 M) := by
  unfold fX12_waits
  refine r_aload_n dX12_waits_0 rfl rfl ?_
  refine r_getR (k' := 215) dX12_waits_1 fl_X12_58 kdc_198 rfl ?_
  refine r_aload_n dX12_waits_4 rfl rfl ?_
  refine r_getI dX12_waits_5 fl_X12_222 kdc_198 ?_
  refine r_iload_n dX12_waits_8 rfl rfl ?_
  refine r_iast dX12_waits_9 kdc_215 (fun M1 => ?_)
  refine r_aload_n dX12_waits_10 rfl rfl ?_
  refine r_aload_n dX12_waits_11 rfl rfl ?_
  refine r_getI dX12_waits_12 fl_X12_222 kdc_198 ?_
  refine r_iconst ic_1 dX12_waits_15 ?_
  refine r_iadd dX12_waits_16 ?_
  refine r_put dX12_waits_17 fw_X12_222 kdc_198 (fun M2 => ?_)
  exact vRet rfl rfl trivial dX12_waits_20
theorem kX12_waits {g : G}   (p1 : Int32) (M : Mem) : CtrV g uX12_waits 1 rmU [.ref (ga g 198), .int p1] M (fX12_waits p1 M) := CtrV.of mX12_waits rfl (Nat.le_of_ble_eq_true rfl) rfl (vX12_waits p1 M)
set_option maxHeartbeats 4000000 in
set_option maxRecDepth 100000 in
theorem vX12_readCompared {g : G}    (M : Mem) : V g uX12_readCompared 7 rvW rmW 0 [.ref (ga g 198), .null] [] M (fX12_readCompared M) := by
  unfold fX12_readCompared
  refine r_aload_n dX12_readCompared_0 rfl rfl ?_
  refine r_calli (cl_V [] bX12_readSum (by decide) dX12_readCompared_1 ml_X12_219 kdc_198 rfl (Nat.le_of_ble_eq_true rfl) rfl) (kX12_readSum _) (fun r1 _ => ?_)
  refine r_iconst ic_m1 dX12_readCompared_4 ?_
  refine r_icmp_ne dX12_readCompared_5 (fun h => eF h ?_) (fun h => eT h ?_)
  · refine r_aload_n dX12_readCompared_10 rfl rfl ?_
    refine r_bipush bp_60 dX12_readCompared_11 ?_
    refine r_calliT (cl_V [.int 60] bX12_isSign (by decide) dX12_readCompared_13 ml_X12_213 kdc_198 rfl (Nat.le_of_ble_eq_true rfl) rfl) (kX12_isSign _ _) ?_
    refine eJ (fun (J2 : Option (Int32 × Mem)) => V g uX12_readCompared 7 rvW rmW 43 [.ref (ga g 198), .null] [] r1.2 (J2)) ( ?_) (fun J2 hJ2 => ?_)
    · refine r_aload_n dX12_readCompared_43 rfl rfl ?_
      refine r_getI dX12_readCompared_44 fl_X12_171 kdc_198 ?_
      refine r_bipush bp_60 dX12_readCompared_47 ?_
      refine eJ (fun (J3 : (Int32) → Option (Int32 × Mem)) => ∀ (t4 : Int32), V g uX12_readCompared 7 rvW rmW 73 [.ref (ga g 198), .null] [.int t4] r1.2 (J3 t4)) (fun t4 => ?_) (fun J3 hJ3 => ?_)
      · refine r_istore_n (l' := [.ref (ga g 198), .int t4]) dX12_readCompared_73 rfl (Nat.le_of_ble_eq_true rfl) rfl rfl ?_
        refine r_aload_n dX12_readCompared_74 rfl rfl ?_
        refine r_callv (cl_V [] bX12_reads (by decide) dX12_readCompared_75 ml_X12_206 kdc_198 rfl (Nat.le_of_ble_eq_true rfl) rfl) (kX12_reads _) (fun M5 _ => ?_)
        refine r_aload_n dX12_readCompared_78 rfl rfl ?_
        refine r_calli (cl_V [] bX12_readSum (by decide) dX12_readCompared_79 ml_X12_219 kdc_198 rfl (Nat.le_of_ble_eq_true rfl) rfl) (kX12_readSum _) (fun r6 _ => ?_)
        refine r_iconst ic_m1 dX12_readCompared_82 ?_
        refine r_icmp_ne dX12_readCompared_83 (fun h => eF h ?_) (fun h => eT h ?_)
        · refine r_aload_n dX12_readCompared_88 rfl rfl ?_
          refine r_iload_n dX12_readCompared_89 rfl rfl ?_
          refine r_iconst ic_0 dX12_readCompared_90 ?_
          refine r_callv (cl_V [.int t4, .int 0] bX12_emits (by decide) dX12_readCompared_91 ml_X12_202 kdc_198 rfl (Nat.le_of_ble_eq_true rfl) rfl) (kX12_emits _ _ _) (fun M7 _ => ?_)
          refine r_iconst ic_0 dX12_readCompared_94 ?_
          exact vRet rfl rfl rfl dX12_readCompared_95
        · refine r_iconst ic_m1 dX12_readCompared_86 ?_
          exact vRet rfl rfl rfl dX12_readCompared_87
      · refine r_icmp_ne dX12_readCompared_49 (fun h => eF h ?_) (fun h => eT h ?_)
        · refine r_aload_n dX12_readCompared_57 rfl rfl ?_
          refine r_getI dX12_readCompared_58 fl_X12_171 kdc_198 ?_
          refine r_bipush bp_61 dX12_readCompared_61 ?_
          refine r_icmp_ne dX12_readCompared_63 (fun h => eF h ?_) (fun h => eT h ?_)
          · refine r_bipush bp_8 dX12_readCompared_71 ?_
            exact hJ3 _
          · refine r_bipush bp_7 dX12_readCompared_66 ?_
            refine r_goto dX12_readCompared_68 ?_
            exact hJ3 _
        · refine r_bipush bp_6 dX12_readCompared_52 ?_
          refine r_goto dX12_readCompared_54 ?_
          exact hJ3 _
    · refine r_if_ne dX12_readCompared_16 (fun h => eF h ?_) (fun h => eT h ?_)
      · exact hJ2
      · refine r_aload_n dX12_readCompared_19 rfl rfl ?_
        refine r_bipush bp_61 dX12_readCompared_20 ?_
        refine r_calliT (cl_V [.int 61] bX12_isSign (by decide) dX12_readCompared_22 ml_X12_213 kdc_198 rfl (Nat.le_of_ble_eq_true rfl) rfl) (kX12_isSign _ _) ?_
        refine r_if_ne dX12_readCompared_25 (fun h => eF h ?_) (fun h => eT h ?_)
        · exact hJ2
        · refine r_aload_n dX12_readCompared_28 rfl rfl ?_
          refine r_bipush bp_62 dX12_readCompared_29 ?_
          refine r_calliT (cl_V [.int 62] bX12_isSign (by decide) dX12_readCompared_31 ml_X12_213 kdc_198 rfl (Nat.le_of_ble_eq_true rfl) rfl) (kX12_isSign _ _) ?_
          refine r_if_ne dX12_readCompared_34 (fun h => eF h ?_) (fun h => eT h ?_)
          · exact hJ2
          · refine r_aload_n dX12_readCompared_37 rfl rfl ?_
            refine r_iconst ic_1 dX12_readCompared_38 ?_
            refine r_calli (cl_V [.int 1] bX12_errs (by decide) dX12_readCompared_39 ml_X12_199 kdc_198 rfl (Nat.le_of_ble_eq_true rfl) rfl) (kX12_errs _ _) (fun r8 _ => ?_)
            exact vRet rfl rfl rfl dX12_readCompared_42
  · refine r_iconst ic_m1 dX12_readCompared_8 ?_
    exact vRet rfl rfl rfl dX12_readCompared_9
theorem kX12_readCompared {g : G}    (M : Mem) : CtrI g uX12_readCompared 7 (fun r => r.1) rmW [.ref (ga g 198)] M (fX12_readCompared M) := CtrI.of mX12_readCompared rfl (Nat.le_of_ble_eq_true rfl) rfl (vX12_readCompared M)
set_option maxHeartbeats 4000000 in
set_option maxRecDepth 100000 in
theorem vX12_settles_L0 {g : G}  (K57 : Mem → Option (Mem)) (z1 : Int32)   (hK57 : ∀ (M : Mem), V g uX12_settles 2 rvU rmU 57 [.null, .null] [] M (K57 M)) : ∀ (n : Nat) (M : Mem), V g uX12_settles 2 rvU rmU 0 [.ref (ga g 198), .int z1] [] M (fX12_settles_L0 K57 z1 n M) := by
  intro n
  induction n with
  | zero => intro M; exact vNone
  | succ n ih =>
    intro M
    rw [fX12_settles_L0]
    refine r_aload_n dX12_settles_0 rfl rfl ?_
    refine r_getI dX12_settles_1 fl_X12_222 kdc_198 ?_
    refine r_if_le dX12_settles_4 (fun h => eT h ?_) (fun h => eF h ?_)
    · exact vSub (l' := [.null, .null]) ⟨Or.inl rfl, ⟨Or.inl rfl, trivial⟩⟩ (hK57 _)
    · refine r_aload_n dX12_settles_7 rfl rfl ?_
      refine r_getR (k' := 215) dX12_settles_8 fl_X12_58 kdc_198 rfl ?_
      refine r_aload_n dX12_settles_11 rfl rfl ?_
      refine r_getI dX12_settles_12 fl_X12_222 kdc_198 ?_
      refine r_iconst ic_1 dX12_settles_15 ?_
      refine r_isub dX12_settles_16 ?_
      refine r_iald dX12_settles_17 kdc_215 (fun v1 => ?_)
      refine r_iload_n dX12_settles_18 rfl rfl ?_
      refine r_icmp_ne dX12_settles_19 (fun h => eF h ?_) (fun h => eT h ?_)
      · exact vSub (l' := [.null, .null]) ⟨Or.inl rfl, ⟨Or.inl rfl, trivial⟩⟩ (hK57 _)
      · refine r_aload_n dX12_settles_22 rfl rfl ?_
        refine r_aload_n dX12_settles_23 rfl rfl ?_
        refine r_getI dX12_settles_24 fl_X12_222 kdc_198 ?_
        refine r_iconst ic_1 dX12_settles_27 ?_
        refine r_isub dX12_settles_28 ?_
        refine r_put dX12_settles_29 fw_X12_222 kdc_198 (fun M2 => ?_)
        refine r_aload_n dX12_settles_32 rfl rfl ?_
        refine r_iload_n dX12_settles_33 rfl rfl ?_
        refine r_iconst ic_0 dX12_settles_34 ?_
        refine r_callv (cl_V [.int z1, .int 0] bX12_emits (by decide) dX12_settles_35 ml_X12_202 kdc_198 rfl (Nat.le_of_ble_eq_true rfl) rfl) (kX12_emits _ _ _) (fun M3 _ => ?_)
        refine r_iload_n dX12_settles_38 rfl rfl ?_
        refine r_bipush bp_9 dX12_settles_39 ?_
        refine r_icmp_ne dX12_settles_41 (fun h => eF h ?_) (fun h => eT h ?_)
        · exact ih _
        · refine r_aload_n dX12_settles_44 rfl rfl ?_
          refine r_aload_n dX12_settles_45 rfl rfl ?_
          refine r_getI dX12_settles_46 fl_X12_225 kdc_198 ?_
          refine r_iconst ic_1 dX12_settles_49 ?_
          refine r_isub dX12_settles_50 ?_
          refine r_put dX12_settles_51 fw_X12_225 kdc_198 (fun M4 => ?_)
          refine r_goto dX12_settles_54 ?_
          exact ih _
set_option maxHeartbeats 4000000 in
set_option maxRecDepth 100000 in
theorem vX12_settles {g : G}   (p1 : Int32) (M : Mem) : V g uX12_settles 2 rvU rmU 0 [.ref (ga g 198), .int p1] [] M (fX12_settles p1 M) := by
  unfold fX12_settles
  refine vX12_settles_L0 _ _ (fun M5 => ?_) FU _
  · exact vRet rfl rfl trivial dX12_settles_57
theorem kX12_settles {g : G}   (p1 : Int32) (M : Mem) : CtrV g uX12_settles 2 rmU [.ref (ga g 198), .int p1] M (fX12_settles p1 M) := CtrV.of mX12_settles rfl (Nat.le_of_ble_eq_true rfl) rfl (vX12_settles p1 M)
set_option maxHeartbeats 4000000 in
set_option maxRecDepth 100000 in
theorem vX12_readAny_L9 {g : G}       : ∀ (n : Nat) (y1 : Int32) (y2 : Int32) (M : Mem), V g uX12_readAny 8 rvW rmW 9 [.ref (ga g 198), .int y1, .int y2, .null] [] M (fX12_readAny_L9 n y1 y2 M) := by
  intro n
  induction n with
  | zero => intro y1 y2 M; exact vNone
  | succ n ih =>
    intro y1 y2 M
    rw [fX12_readAny_L9]
    refine r_iload_n dX12_readAny_9 rfl rfl ?_
    refine r_if_eq dX12_readAny_10 (fun h => eT h ?_) (fun h => eF h ?_)
    · refine r_aload_n dX12_readAny_109 rfl rfl ?_
      refine r_iconst ic_5 dX12_readAny_110 ?_
      refine r_calliT (cl_V [.int 5] bX12_isWord (by decide) dX12_readAny_111 ml_X12_228 kdc_198 rfl (Nat.le_of_ble_eq_true rfl) rfl) (kX12_isWord _ _) ?_
      refine r_if_eq dX12_readAny_114 (fun h => eT h ?_) (fun h => eF h ?_)
      · refine r_aload_n dX12_readAny_138 rfl rfl ?_
        refine r_iconst ic_4 dX12_readAny_139 ?_
        refine r_calliT (cl_V [.int 4] bX12_isWord (by decide) dX12_readAny_140 ml_X12_228 kdc_198 rfl (Nat.le_of_ble_eq_true rfl) rfl) (kX12_isWord _ _) ?_
        refine r_if_eq dX12_readAny_143 (fun h => eT h ?_) (fun h => eF h ?_)
        · refine r_aload_n dX12_readAny_173 rfl rfl ?_
          refine r_bipush bp_10 dX12_readAny_174 ?_
          refine r_callv (cl_V [.int 10] bX12_settles (by decide) dX12_readAny_176 ml_X12_237 kdc_198 rfl (Nat.le_of_ble_eq_true rfl) rfl) (kX12_settles _ _) (fun M2 _ => ?_)
          refine r_aload_n dX12_readAny_179 rfl rfl ?_
          refine r_bipush bp_11 dX12_readAny_180 ?_
          refine r_callv (cl_V [.int 11] bX12_settles (by decide) dX12_readAny_182 ml_X12_237 kdc_198 rfl (Nat.le_of_ble_eq_true rfl) rfl) (kX12_settles _ _) (fun M3 _ => ?_)
          refine r_iload_n dX12_readAny_185 rfl rfl ?_
          refine r_if_ne dX12_readAny_186 (fun h => eF h ?_) (fun h => eT h ?_)
          · refine r_aload_n dX12_readAny_191 rfl rfl ?_
            refine r_bipush bp_41 dX12_readAny_192 ?_
            refine r_calliT (cl_V [.int 41] bX12_isSign (by decide) dX12_readAny_194 ml_X12_213 kdc_198 rfl (Nat.le_of_ble_eq_true rfl) rfl) (kX12_isSign _ _) ?_
            refine r_if_ne dX12_readAny_197 (fun h => eF h ?_) (fun h => eT h ?_)
            · refine r_aload_n dX12_readAny_206 rfl rfl ?_
              refine r_aload_n dX12_readAny_207 rfl rfl ?_
              refine r_getI dX12_readAny_208 fl_X12_222 kdc_198 ?_
              refine r_iconst ic_1 dX12_readAny_211 ?_
              refine r_isub dX12_readAny_212 ?_
              refine r_put dX12_readAny_213 fw_X12_222 kdc_198 (fun M4 => ?_)
              refine r_iload_n dX12_readAny_216 rfl rfl ?_
              refine r_iconst ic_1 dX12_readAny_217 ?_
              refine r_isub dX12_readAny_218 ?_
              refine r_bndi (fun x5 => ?_)
              refine r_istore_n (l' := [.ref (ga g 198), .int x5, .int y2, .null]) dX12_readAny_219 rfl (Nat.le_of_ble_eq_true rfl) rfl rfl ?_
              refine r_aload_n dX12_readAny_220 rfl rfl ?_
              refine r_aload_n dX12_readAny_221 rfl rfl ?_
              refine r_getI dX12_readAny_222 fl_X12_225 kdc_198 ?_
              refine r_iconst ic_1 dX12_readAny_225 ?_
              refine r_isub dX12_readAny_226 ?_
              refine r_put dX12_readAny_227 fw_X12_225 kdc_198 (fun M6 => ?_)
              refine r_aload_n dX12_readAny_230 rfl rfl ?_
              refine r_bipush bp_9 dX12_readAny_231 ?_
              refine r_callv (cl_V [.int 9] bX12_settles (by decide) dX12_readAny_233 ml_X12_237 kdc_198 rfl (Nat.le_of_ble_eq_true rfl) rfl) (kX12_settles _ _) (fun M7 _ => ?_)
              refine r_aload_n dX12_readAny_236 rfl rfl ?_
              refine r_callv (cl_V [] bX12_reads (by decide) dX12_readAny_237 ml_X12_206 kdc_198 rfl (Nat.le_of_ble_eq_true rfl) rfl) (kX12_reads _) (fun M8 _ => ?_)
              refine r_goto dX12_readAny_240 ?_
              exact ih _ _ _
            · refine r_aload_n dX12_readAny_200 rfl rfl ?_
              refine r_iconst ic_1 dX12_readAny_201 ?_
              refine r_calli (cl_V [.int 1] bX12_errs (by decide) dX12_readAny_202 ml_X12_199 kdc_198 rfl (Nat.le_of_ble_eq_true rfl) rfl) (kX12_errs _ _) (fun r9 _ => ?_)
              exact vRet rfl rfl rfl dX12_readAny_205
          · refine r_iconst ic_0 dX12_readAny_189 ?_
            exact vRet rfl rfl rfl dX12_readAny_190
        · refine r_aload_n dX12_readAny_146 rfl rfl ?_
          refine r_bipush bp_10 dX12_readAny_147 ?_
          refine r_callv (cl_V [.int 10] bX12_settles (by decide) dX12_readAny_149 ml_X12_237 kdc_198 rfl (Nat.le_of_ble_eq_true rfl) rfl) (kX12_settles _ _) (fun M10 _ => ?_)
          refine r_aload_n dX12_readAny_152 rfl rfl ?_
          refine r_bipush bp_11 dX12_readAny_153 ?_
          refine r_callv (cl_V [.int 11] bX12_settles (by decide) dX12_readAny_155 ml_X12_237 kdc_198 rfl (Nat.le_of_ble_eq_true rfl) rfl) (kX12_settles _ _) (fun M11 _ => ?_)
          refine r_aload_n dX12_readAny_158 rfl rfl ?_
          refine r_bipush bp_11 dX12_readAny_159 ?_
          refine r_callv (cl_V [.int 11] bX12_waits (by decide) dX12_readAny_161 ml_X12_231 kdc_198 rfl (Nat.le_of_ble_eq_true rfl) rfl) (kX12_waits _ _) (fun M12 _ => ?_)
          refine r_aload_n dX12_readAny_164 rfl rfl ?_
          refine r_callv (cl_V [] bX12_reads (by decide) dX12_readAny_165 ml_X12_206 kdc_198 rfl (Nat.le_of_ble_eq_true rfl) rfl) (kX12_reads _) (fun M13 _ => ?_)
          refine r_iconst ic_1 dX12_readAny_168 ?_
          refine r_istore_n (l' := [.ref (ga g 198), .int y1, .int 1, .null]) dX12_readAny_169 rfl (Nat.le_of_ble_eq_true rfl) rfl rfl ?_
          refine r_goto dX12_readAny_170 ?_
          exact ih _ _ _
      · refine r_aload_n dX12_readAny_117 rfl rfl ?_
        refine r_bipush bp_10 dX12_readAny_118 ?_
        refine r_callv (cl_V [.int 10] bX12_settles (by decide) dX12_readAny_120 ml_X12_237 kdc_198 rfl (Nat.le_of_ble_eq_true rfl) rfl) (kX12_settles _ _) (fun M14 _ => ?_)
        refine r_aload_n dX12_readAny_123 rfl rfl ?_
        refine r_bipush bp_10 dX12_readAny_124 ?_
        refine r_callv (cl_V [.int 10] bX12_waits (by decide) dX12_readAny_126 ml_X12_231 kdc_198 rfl (Nat.le_of_ble_eq_true rfl) rfl) (kX12_waits _ _) (fun M15 _ => ?_)
        refine r_aload_n dX12_readAny_129 rfl rfl ?_
        refine r_callv (cl_V [] bX12_reads (by decide) dX12_readAny_130 ml_X12_206 kdc_198 rfl (Nat.le_of_ble_eq_true rfl) rfl) (kX12_reads _) (fun M16 _ => ?_)
        refine r_iconst ic_1 dX12_readAny_133 ?_
        refine r_istore_n (l' := [.ref (ga g 198), .int y1, .int 1, .null]) dX12_readAny_134 rfl (Nat.le_of_ble_eq_true rfl) rfl rfl ?_
        refine r_goto dX12_readAny_135 ?_
        exact ih _ _ _
    · refine r_aload_n dX12_readAny_13 rfl rfl ?_
      refine r_bipush bp_6 dX12_readAny_14 ?_
      refine r_calliT (cl_V [.int 6] bX12_isWord (by decide) dX12_readAny_16 ml_X12_228 kdc_198 rfl (Nat.le_of_ble_eq_true rfl) rfl) (kX12_isWord _ _) ?_
      refine r_bndi (fun x17 => ?_)
      refine r_istore_n (l' := [.ref (ga g 198), .int y1, .int y2, .int x17]) dX12_readAny_19 rfl (Nat.le_of_ble_eq_true rfl) rfl rfl ?_
      refine r_iload_n dX12_readAny_20 rfl rfl ?_
      refine eJ (fun (J18 : Option (Int32 × Mem)) => V g uX12_readAny 8 rvW rmW 33 [.ref (ga g 198), .int y1, .int y2, .int x17] [] M (J18)) ( ?_) (fun J18 hJ18 => ?_)
      · refine r_aload_n dX12_readAny_33 rfl rfl ?_
        refine r_getI dX12_readAny_34 fl_X12_225 kdc_198 ?_
        refine r_bipush bp_8 dX12_readAny_37 ?_
        refine r_icmp_ne dX12_readAny_39 (fun h => eF h ?_) (fun h => eT h ?_)
        · refine r_aload_n dX12_readAny_48 rfl rfl ?_
          refine r_aload_n dX12_readAny_49 rfl rfl ?_
          refine r_getI dX12_readAny_50 fl_X12_225 kdc_198 ?_
          refine r_iconst ic_1 dX12_readAny_53 ?_
          refine r_iadd dX12_readAny_54 ?_
          refine r_put dX12_readAny_55 fw_X12_225 kdc_198 (fun M19 => ?_)
          refine r_iload_n dX12_readAny_58 rfl rfl ?_
          refine eJ (fun (J20 : (Int32) → Option (Int32 × Mem)) => ∀ (a21 : Int32), V g uX12_readAny 8 rvW rmW 66 [.ref (ga g 198), .int a21, .int y2, .int x17] [] M19 (J20 a21)) (fun a21 => ?_) (fun J20 hJ20 => ?_)
          · refine r_aload_n dX12_readAny_66 rfl rfl ?_
            refine r_iload_n dX12_readAny_67 rfl rfl ?_
            refine eJ (fun (J22 : (Int32) → Option (Int32 × Mem)) => ∀ (t23 : Int32), V g uX12_readAny 8 rvW rmW 78 [.ref (ga g 198), .int a21, .int y2, .null] [.int t23, .ref (ga g 198)] M19 (J22 t23)) (fun t23 => ?_) (fun J22 hJ22 => ?_)
            · refine r_callv (cl_V [.int t23] bX12_waits (by decide) dX12_readAny_78 ml_X12_231 kdc_198 rfl (Nat.le_of_ble_eq_true rfl) rfl) (kX12_waits _ _) (fun M24 _ => ?_)
              refine r_aload_n dX12_readAny_81 rfl rfl ?_
              refine r_callv (cl_V [] bX12_reads (by decide) dX12_readAny_82 ml_X12_206 kdc_198 rfl (Nat.le_of_ble_eq_true rfl) rfl) (kX12_reads _) (fun M25 _ => ?_)
              refine r_goto dX12_readAny_85 ?_
              exact ih _ _ _
            · refine r_if_eq dX12_readAny_68 (fun h => eT h ?_) (fun h => eF h ?_)
              · refine r_bipush bp_12 dX12_readAny_76 ?_
                exact vSub (l' := [.ref (ga g 198), .int a21, .int y2, .null]) ⟨Or.inr rfl, ⟨Or.inr rfl, ⟨Or.inr rfl, ⟨Or.inl rfl, trivial⟩⟩⟩⟩ (hJ22 _)
              · refine r_bipush bp_9 dX12_readAny_71 ?_
                refine r_goto dX12_readAny_73 ?_
                exact vSub (l' := [.ref (ga g 198), .int a21, .int y2, .null]) ⟨Or.inr rfl, ⟨Or.inr rfl, ⟨Or.inr rfl, ⟨Or.inl rfl, trivial⟩⟩⟩⟩ (hJ22 _)
          · refine r_if_ne dX12_readAny_59 (fun h => eF h ?_) (fun h => eT h ?_)
            · exact hJ20 _
            · refine r_iload_n dX12_readAny_62 rfl rfl ?_
              refine r_iconst ic_1 dX12_readAny_63 ?_
              refine r_iadd dX12_readAny_64 ?_
              refine r_bndi (fun x26 => ?_)
              refine r_istore_n (l' := [.ref (ga g 198), .int x26, .int y2, .int x17]) dX12_readAny_65 rfl (Nat.le_of_ble_eq_true rfl) rfl rfl ?_
              exact hJ20 _
        · refine r_aload_n dX12_readAny_42 rfl rfl ?_
          refine r_iconst ic_3 dX12_readAny_43 ?_
          refine r_calli (cl_V [.int 3] bX12_errs (by decide) dX12_readAny_44 ml_X12_199 kdc_198 rfl (Nat.le_of_ble_eq_true rfl) rfl) (kX12_errs _ _) (fun r27 _ => ?_)
          exact vRet rfl rfl rfl dX12_readAny_47
      · refine r_if_ne dX12_readAny_21 (fun h => eF h ?_) (fun h => eT h ?_)
        · exact hJ18
        · refine r_aload_n dX12_readAny_24 rfl rfl ?_
          refine r_bipush bp_40 dX12_readAny_25 ?_
          refine r_calliT (cl_V [.int 40] bX12_isSign (by decide) dX12_readAny_27 ml_X12_213 kdc_198 rfl (Nat.le_of_ble_eq_true rfl) rfl) (kX12_isSign _ _) ?_
          refine r_if_eq dX12_readAny_30 (fun h => eT h ?_) (fun h => eF h ?_)
          · refine r_aload_n dX12_readAny_88 rfl rfl ?_
            refine r_calli (cl_V [] bX12_readCompared (by decide) dX12_readAny_89 ml_X12_234 kdc_198 rfl (Nat.le_of_ble_eq_true rfl) rfl) (kX12_readCompared _) (fun r28 _ => ?_)
            refine r_iconst ic_m1 dX12_readAny_92 ?_
            refine r_icmp_ne dX12_readAny_93 (fun h => eF h ?_) (fun h => eT h ?_)
            · refine r_aload_n dX12_readAny_98 rfl rfl ?_
              refine r_bipush bp_9 dX12_readAny_99 ?_
              refine r_callv (cl_V [.int 9] bX12_settles (by decide) dX12_readAny_101 ml_X12_237 kdc_198 rfl (Nat.le_of_ble_eq_true rfl) rfl) (kX12_settles _ _) (fun M29 _ => ?_)
              refine r_iconst ic_0 dX12_readAny_104 ?_
              refine r_istore_n (l' := [.ref (ga g 198), .int y1, .int 0, .int x17]) dX12_readAny_105 rfl (Nat.le_of_ble_eq_true rfl) rfl rfl ?_
              refine r_goto dX12_readAny_106 ?_
              exact vSub (l' := [.ref (ga g 198), .int y1, .int 0, .null]) ⟨Or.inr rfl, ⟨Or.inr rfl, ⟨Or.inr rfl, ⟨Or.inl rfl, trivial⟩⟩⟩⟩ (ih _ _ _)
            · refine r_iconst ic_m1 dX12_readAny_96 ?_
              exact vRet rfl rfl rfl dX12_readAny_97
          · exact hJ18
set_option maxHeartbeats 4000000 in
set_option maxRecDepth 100000 in
theorem vX12_readAny {g : G}    (M : Mem) : V g uX12_readAny 8 rvW rmW 0 [.ref (ga g 198), .null, .null, .null] [] M (fX12_readAny M) := by
  unfold fX12_readAny
  refine r_iconst ic_0 dX12_readAny_0 ?_
  refine r_istore_n (l' := [.ref (ga g 198), .int 0, .null, .null]) dX12_readAny_1 rfl (Nat.le_of_ble_eq_true rfl) rfl rfl ?_
  refine r_aload_n dX12_readAny_2 rfl rfl ?_
  refine r_iconst ic_0 dX12_readAny_3 ?_
  refine r_put dX12_readAny_4 fw_X12_222 kdc_198 (fun M1 => ?_)
  refine r_iconst ic_1 dX12_readAny_7 ?_
  refine r_istore_n (l' := [.ref (ga g 198), .int 0, .int 1, .null]) dX12_readAny_8 rfl (Nat.le_of_ble_eq_true rfl) rfl rfl ?_
  refine vX12_readAny_L9  FU _ _ _
theorem kX12_readAny {g : G}    (M : Mem) : CtrI g uX12_readAny 8 (fun r => r.1) rmW [.ref (ga g 198)] M (fX12_readAny M) := CtrI.of mX12_readAny rfl (Nat.le_of_ble_eq_true rfl) rfl (vX12_readAny M)
set_option maxHeartbeats 4000000 in
set_option maxRecDepth 100000 in
theorem vX12_readLaw_L2 {g : G}  (K128 : Int32 → Mem → Option (Int32 × Mem))    (hK128 : ∀ (e1 : Int32) (M : Mem), V g uX12_readLaw 9 rvW rmW 128 [.ref (ga g 198), .int e1, .null] [] M (K128 e1 M)) : ∀ (n : Nat) (y1 : Int32) (M : Mem), V g uX12_readLaw 9 rvW rmW 2 [.ref (ga g 198), .int y1, .null] [] M (fX12_readLaw_L2 K128 n y1 M) := by
  intro n
  induction n with
  | zero => intro y1 M; exact vNone
  | succ n ih =>
    intro y1 M
    rw [fX12_readLaw_L2]
    refine r_aload_n dX12_readLaw_2 rfl rfl ?_
    refine r_calliT (cl_V [] bX12_isLineWord (by decide) dX12_readLaw_3 ml_X12_240 kdc_198 rfl (Nat.le_of_ble_eq_true rfl) rfl) (kX12_isLineWord _) ?_
    refine r_if_eq dX12_readLaw_6 (fun h => eT h ?_) (fun h => eF h ?_)
    · exact hK128 _ _
    · refine r_iload_n dX12_readLaw_9 rfl rfl ?_
      refine r_bipush bp_16 dX12_readLaw_10 ?_
      refine r_icmp_ne dX12_readLaw_12 (fun h => eF h ?_) (fun h => eT h ?_)
      · refine r_bipush bp_32 dX12_readLaw_21 ?_
        refine r_iload_n dX12_readLaw_23 rfl rfl ?_
        refine r_iadd dX12_readLaw_24 ?_
        refine r_bndi (fun x1 => ?_)
        refine r_istore_n (l' := [.ref (ga g 198), .int y1, .int x1]) dX12_readLaw_25 rfl (Nat.le_of_ble_eq_true rfl) rfl rfl ?_
        refine r_aload_n dX12_readLaw_26 rfl rfl ?_
        refine r_getR (k' := 209) dX12_readLaw_27 fl_X12_40 kdc_198 rfl ?_
        refine r_iload_n dX12_readLaw_30 rfl rfl ?_
        refine r_aload_n dX12_readLaw_31 rfl rfl ?_
        refine r_getI dX12_readLaw_32 fl_X12_171 kdc_198 ?_
        refine r_iast dX12_readLaw_35 kdc_209 (fun M2 => ?_)
        refine r_aload_n dX12_readLaw_36 rfl rfl ?_
        refine r_callv (cl_V [] bX12_reads (by decide) dX12_readLaw_37 ml_X12_206 kdc_198 rfl (Nat.le_of_ble_eq_true rfl) rfl) (kX12_reads _) (fun M3 _ => ?_)
        refine r_aload_n dX12_readLaw_40 rfl rfl ?_
        refine r_getR (k' := 210) dX12_readLaw_41 fl_X12_43 kdc_198 rfl ?_
        refine r_iload_n dX12_readLaw_44 rfl rfl ?_
        refine r_aload_n dX12_readLaw_45 rfl rfl ?_
        refine r_getI dX12_readLaw_46 fl_X12_193 kdc_198 ?_
        refine r_iast dX12_readLaw_49 kdc_210 (fun M4 => ?_)
        refine r_aload_n dX12_readLaw_50 rfl rfl ?_
        refine r_calli (cl_V [] bX12_readSum (by decide) dX12_readLaw_51 ml_X12_219 kdc_198 rfl (Nat.le_of_ble_eq_true rfl) rfl) (kX12_readSum _) (fun r5 _ => ?_)
        refine r_iconst ic_m1 dX12_readLaw_54 ?_
        refine r_icmp_ne dX12_readLaw_55 (fun h => eF h ?_) (fun h => eT h ?_)
        · refine r_aload_n dX12_readLaw_60 rfl rfl ?_
          refine r_getR (k' := 211) dX12_readLaw_61 fl_X12_46 kdc_198 rfl ?_
          refine r_iload_n dX12_readLaw_64 rfl rfl ?_
          refine r_aload_n dX12_readLaw_65 rfl rfl ?_
          refine r_getI dX12_readLaw_66 fl_X12_193 kdc_198 ?_
          refine r_iast dX12_readLaw_69 kdc_211 (fun M6 => ?_)
          refine r_aload_n dX12_readLaw_70 rfl rfl ?_
          refine r_iconst ic_3 dX12_readLaw_71 ?_
          refine r_calliT (cl_V [.int 3] bX12_isWord (by decide) dX12_readLaw_72 ml_X12_228 kdc_198 rfl (Nat.le_of_ble_eq_true rfl) rfl) (kX12_isWord _ _) ?_
          refine eJ (fun (J7 : (Mem) → Option (Int32 × Mem)) => ∀ (M8 : Mem), V g uX12_readLaw 9 rvW rmW 92 [.ref (ga g 198), .int y1, .int x1] [] M8 (J7 M8)) (fun M8 => ?_) (fun J7 hJ7 => ?_)
          · refine r_aload_n dX12_readLaw_92 rfl rfl ?_
            refine r_getR (k' := 212) dX12_readLaw_93 fl_X12_49 kdc_198 rfl ?_
            refine r_iload_n dX12_readLaw_96 rfl rfl ?_
            refine r_aload_n dX12_readLaw_97 rfl rfl ?_
            refine r_getI dX12_readLaw_98 fl_X12_193 kdc_198 ?_
            refine r_iast dX12_readLaw_101 kdc_212 (fun M9 => ?_)
            refine r_aload_n dX12_readLaw_102 rfl rfl ?_
            refine r_bipush bp_59 dX12_readLaw_103 ?_
            refine r_calliT (cl_V [.int 59] bX12_isSign (by decide) dX12_readLaw_105 ml_X12_213 kdc_198 rfl (Nat.le_of_ble_eq_true rfl) rfl) (kX12_isSign _ _) ?_
            refine r_if_ne dX12_readLaw_108 (fun h => eF h ?_) (fun h => eT h ?_)
            · refine r_aload_n dX12_readLaw_117 rfl rfl ?_
              refine r_callv (cl_V [] bX12_reads (by decide) dX12_readLaw_118 ml_X12_206 kdc_198 rfl (Nat.le_of_ble_eq_true rfl) rfl) (kX12_reads _) (fun M10 _ => ?_)
              refine r_iload_n dX12_readLaw_121 rfl rfl ?_
              refine r_iconst ic_1 dX12_readLaw_122 ?_
              refine r_iadd dX12_readLaw_123 ?_
              refine r_bndi (fun x11 => ?_)
              refine r_istore_n (l' := [.ref (ga g 198), .int x11, .int x1]) dX12_readLaw_124 rfl (Nat.le_of_ble_eq_true rfl) rfl rfl ?_
              refine r_goto dX12_readLaw_125 ?_
              exact vSub (l' := [.ref (ga g 198), .int x11, .null]) ⟨Or.inr rfl, ⟨Or.inr rfl, ⟨Or.inl rfl, trivial⟩⟩⟩ (ih _ _)
            · refine r_aload_n dX12_readLaw_111 rfl rfl ?_
              refine r_iconst ic_1 dX12_readLaw_112 ?_
              refine r_calli (cl_V [.int 1] bX12_errs (by decide) dX12_readLaw_113 ml_X12_199 kdc_198 rfl (Nat.le_of_ble_eq_true rfl) rfl) (kX12_errs _ _) (fun r12 _ => ?_)
              exact vRet rfl rfl rfl dX12_readLaw_116
          · refine r_if_eq dX12_readLaw_75 (fun h => eT h ?_) (fun h => eF h ?_)
            · exact hJ7 _
            · refine r_aload_n dX12_readLaw_78 rfl rfl ?_
              refine r_callv (cl_V [] bX12_reads (by decide) dX12_readLaw_79 ml_X12_206 kdc_198 rfl (Nat.le_of_ble_eq_true rfl) rfl) (kX12_reads _) (fun M13 _ => ?_)
              refine r_aload_n dX12_readLaw_82 rfl rfl ?_
              refine r_calli (cl_V [] bX12_readAny (by decide) dX12_readLaw_83 ml_X12_244 kdc_198 rfl (Nat.le_of_ble_eq_true rfl) rfl) (kX12_readAny _) (fun r14 _ => ?_)
              refine r_iconst ic_m1 dX12_readLaw_86 ?_
              refine r_icmp_ne dX12_readLaw_87 (fun h => eF h ?_) (fun h => eT h ?_)
              · exact hJ7 _
              · refine r_iconst ic_m1 dX12_readLaw_90 ?_
                exact vRet rfl rfl rfl dX12_readLaw_91
        · refine r_iconst ic_m1 dX12_readLaw_58 ?_
          exact vRet rfl rfl rfl dX12_readLaw_59
      · refine r_aload_n dX12_readLaw_15 rfl rfl ?_
        refine r_iconst ic_3 dX12_readLaw_16 ?_
        refine r_calli (cl_V [.int 3] bX12_errs (by decide) dX12_readLaw_17 ml_X12_199 kdc_198 rfl (Nat.le_of_ble_eq_true rfl) rfl) (kX12_errs _ _) (fun r15 _ => ?_)
        exact vRet rfl rfl rfl dX12_readLaw_20
set_option maxHeartbeats 4000000 in
set_option maxRecDepth 100000 in
theorem vX12_readLaw {g : G}    (M : Mem) : V g uX12_readLaw 9 rvW rmW 0 [.ref (ga g 198), .null, .null] [] M (fX12_readLaw M) := by
  unfold fX12_readLaw
  refine r_iconst ic_0 dX12_readLaw_0 ?_
  refine r_istore_n (l' := [.ref (ga g 198), .int 0, .null]) dX12_readLaw_1 rfl (Nat.le_of_ble_eq_true rfl) rfl rfl ?_
  refine vX12_readLaw_L2 _ (fun e16 M17 => ?_) FU _ _
  · refine r_aload_n dX12_readLaw_128 rfl rfl ?_
    refine r_getI dX12_readLaw_129 fl_X12_168 kdc_198 ?_
    refine r_if_ne dX12_readLaw_132 (fun h => eF h ?_) (fun h => eT h ?_)
    · refine r_aload_n dX12_readLaw_139 rfl rfl ?_
      refine r_iconst ic_1 dX12_readLaw_140 ?_
      refine r_calli (cl_V [.int 1] bX12_errs (by decide) dX12_readLaw_141 ml_X12_199 kdc_198 rfl (Nat.le_of_ble_eq_true rfl) rfl) (kX12_errs _ _) (fun r18 _ => ?_)
      exact vRet rfl rfl rfl dX12_readLaw_144
    · refine r_iload_n dX12_readLaw_135 rfl rfl ?_
      refine r_goto dX12_readLaw_136 ?_
      exact vRet rfl rfl rfl dX12_readLaw_144
theorem kX12_readLaw {g : G}    (M : Mem) : CtrI g uX12_readLaw 9 (fun r => r.1) rmW [.ref (ga g 198)] M (fX12_readLaw M) := CtrI.of mX12_readLaw rfl (Nat.le_of_ble_eq_true rfl) rfl (vX12_readLaw M)
