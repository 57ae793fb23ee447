set_option maxHeartbeats 4000000 in
set_option maxRecDepth 100000 in
theorem vX1_appendLine {g : G}   (p1 : Int32) (p2 : Int32) (p3 : Int32) (M : Mem) : V g uX1_appendLine 1 rvU rmU 0 [.ref (ga g 181), .int p1, .int p2, .int p3] [] M (fX1_appendLine p1 p2 p3 M) := by
  unfold fX1_appendLine
  refine r_aload_n dX1_appendLine_0 rfl rfl ?_
  refine r_getI dX1_appendLine_1 fl_X1_33 kdc_181 ?_
  refine r_bipush bp_16 dX1_appendLine_4 ?_
  refine r_icmp_ge dX1_appendLine_6 (fun h => eT h ?_) (fun h => eF h ?_)
  · exact vRet rfl rfl trivial dX1_appendLine_62
  · refine r_aload_n dX1_appendLine_9 rfl rfl ?_
    refine r_getR (k' := 182) dX1_appendLine_10 fl_X1_9 kdc_181 rfl ?_
    refine r_aload_n dX1_appendLine_13 rfl rfl ?_
    refine r_getI dX1_appendLine_14 fl_X1_33 kdc_181 ?_
    refine r_iload_n dX1_appendLine_17 rfl rfl ?_
    refine r_iast dX1_appendLine_18 kdc_182 (fun M1 => ?_)
    refine r_aload_n dX1_appendLine_19 rfl rfl ?_
    refine r_getR (k' := 183) dX1_appendLine_20 fl_X1_15 kdc_181 rfl ?_
    refine r_aload_n dX1_appendLine_23 rfl rfl ?_
    refine r_getI dX1_appendLine_24 fl_X1_33 kdc_181 ?_
    refine r_iload_n dX1_appendLine_27 rfl rfl ?_
    refine r_iast dX1_appendLine_28 kdc_183 (fun M2 => ?_)
    refine r_aload_n dX1_appendLine_29 rfl rfl ?_
    refine r_getR (k' := 184) dX1_appendLine_30 fl_X1_18 kdc_181 rfl ?_
    refine r_aload_n dX1_appendLine_33 rfl rfl ?_
    refine r_getI dX1_appendLine_34 fl_X1_33 kdc_181 ?_
    refine r_iload_n dX1_appendLine_37 rfl rfl ?_
    refine r_iast dX1_appendLine_38 kdc_184 (fun M3 => ?_)
    refine r_aload_n dX1_appendLine_39 rfl rfl ?_
    refine r_getR (k' := 185) dX1_appendLine_40 fl_X1_21 kdc_181 rfl ?_
    refine r_aload_n dX1_appendLine_43 rfl rfl ?_
    refine r_getI dX1_appendLine_44 fl_X1_33 kdc_181 ?_
    refine r_aload_n dX1_appendLine_47 rfl rfl ?_
    refine r_getI dX1_appendLine_48 fl_X1_37 kdc_181 ?_
    refine r_iast dX1_appendLine_51 kdc_185 (fun M4 => ?_)
    refine r_aload_n dX1_appendLine_52 rfl rfl ?_
    refine r_dup dX1_appendLine_53 rfl ?_
    refine r_getI dX1_appendLine_54 fl_X1_33 kdc_181 ?_
    refine r_iconst ic_1 dX1_appendLine_57 ?_
    refine r_iadd dX1_appendLine_58 ?_
    refine r_put dX1_appendLine_59 fw_X1_33 kdc_181 (fun M5 => ?_)
    exact vRet rfl rfl trivial dX1_appendLine_62
theorem kX1_appendLine {g : G}   (p1 : Int32) (p2 : Int32) (p3 : Int32) (M : Mem) : CtrV g uX1_appendLine 1 rmU [.ref (ga g 181), .int p1, .int p2, .int p3] M (fX1_appendLine p1 p2 p3 M) := CtrV.of mX1_appendLine rfl (Nat.le_of_ble_eq_true rfl) rfl (vX1_appendLine p1 p2 p3 M)
set_option maxHeartbeats 4000000 in
set_option maxRecDepth 100000 in
theorem vX2_read_L9 {g : G}  (K131 : Mem → Option (Int32 × Mem))    (hK131 : ∀ (M : Mem), V g uX2_read 41 rvW rmW 131 [.null, .null, .null, .null, .null, .null] [] M (K131 M)) : ∀ (n : Nat) (y2 : Int32) (M : Mem), V g uX2_read 41 rvW rmW 9 [.ref (ga g 180), .ref (ga g 178), .int y2, .null, .null, .null] [] M (fX2_read_L9 K131 n y2 M) := by
  intro n
  induction n with
  | zero => intro y2 M; exact vNone
  | succ n ih =>
    intro y2 M
    rw [fX2_read_L9]
    refine r_iload_n dX2_read_9 rfl rfl ?_
    refine r_bipush bp_16 dX2_read_10 ?_
    refine r_icmp_gt dX2_read_12 (fun h => eT h ?_) (fun h => eF h ?_)
    · exact vSub (l' := [.null, .null, .null, .null, .null, .null]) ⟨Or.inl rfl, ⟨Or.inl rfl, ⟨Or.inl rfl, ⟨Or.inl rfl, ⟨Or.inl rfl, ⟨Or.inl rfl, trivial⟩⟩⟩⟩⟩⟩ (hK131 _)
    · refine r_aload_n dX2_read_15 rfl rfl ?_
      refine r_getI dX2_read_16 fl_X2_21 kdc_178 ?_
      refine r_if_eq dX2_read_19 (fun h => eT h ?_) (fun h => eF h ?_)
      · exact vSub (l' := [.null, .null, .null, .null, .null, .null]) ⟨Or.inl rfl, ⟨Or.inl rfl, ⟨Or.inl rfl, ⟨Or.inl rfl, ⟨Or.inl rfl, ⟨Or.inl rfl, trivial⟩⟩⟩⟩⟩⟩ (hK131 _)
      · refine r_aload_n dX2_read_22 rfl rfl ?_
        refine r_calli (cl_S [.ref (ga g 178)] bX2_wordAtHand (by decide) dX2_read_23 ml_X2_27 rfl (Nat.le_of_ble_eq_true rfl) rfl) (kX2_wordAtHand _) (fun v2 _ => ?_)
        refine r_istore_n (l' := [.ref (ga g 180), .ref (ga g 178), .int y2, .int v2, .null, .null]) dX2_read_26 rfl (Nat.le_of_ble_eq_true rfl) rfl rfl ?_
        refine r_iload_n dX2_read_27 rfl rfl ?_
        refine r_iconst ic_m1 dX2_read_28 ?_
        refine r_icmp_ne dX2_read_29 (fun h => eF h ?_) (fun h => eT h ?_)
        · refine r_iload_n dX2_read_38 rfl rfl ?_
          refine r_bipush bp_16 dX2_read_39 ?_
          refine r_icmp_ne dX2_read_41 (fun h => eF h ?_) (fun h => eT h ?_)
          · refine r_aload_n dX2_read_50 rfl rfl ?_
            refine r_callv (cl_V [] bX8_advance (by decide) dX2_read_51 ml_X2_35 kdc_178 rfl (Nat.le_of_ble_eq_true rfl) rfl) (kX8_advance _) (fun M3 _ => ?_)
            refine r_aload_n dX2_read_54 rfl rfl ?_
            refine r_getR (k' := 181) dX2_read_55 fl_X2_12 kdc_180 rfl ?_
            refine r_getI dX2_read_58 fl_X2_38 kdc_181 ?_
            refine r_bndi (fun x4 => ?_)
            refine r_istore (l' := [.ref (ga g 180), .ref (ga g 178), .int y2, .int v2, .int x4, .null]) dX2_read_61 (Nat.le_of_ble_eq_true rfl) rfl rfl ?_
            refine r_aload_n dX2_read_63 rfl rfl ?_
            refine r_aload_n dX2_read_64 rfl rfl ?_
            refine r_calli (cl_V [.ref (ga g 178)] bX2_readSum (by decide) dX2_read_65 ml_X2_41 kdc_180 rfl (Nat.le_of_ble_eq_true rfl) rfl) (kX2_readSum _) (fun r5 _ => ?_)
            refine r_if_ne dX2_read_68 (fun h => eF h ?_) (fun h => eT h ?_)
            · refine r_aload_n dX2_read_73 rfl rfl ?_
              refine r_getR (k' := 181) dX2_read_74 fl_X2_12 kdc_180 rfl ?_
              refine r_getI dX2_read_77 fl_X2_38 kdc_181 ?_
              refine r_bndi (fun x6 => ?_)
              refine r_istore (l' := [.ref (ga g 180), .ref (ga g 178), .int y2, .int v2, .int x4, .int x6]) dX2_read_80 (Nat.le_of_ble_eq_true rfl) rfl rfl ?_
              refine r_aload_n dX2_read_82 rfl rfl ?_
              refine r_ldcS (i := 13) (List.mem_of_getElem? (i := 13) rfl) dX2_read_83 ?_
              refine r_calli (cl_V [.ref (gs g 13)] bX8_passWord (by decide) dX2_read_85 ml_X2_47 kdc_178 rfl (Nat.le_of_ble_eq_true rfl) rfl) (kX8_passWord (by decide) _) (fun r7 _ => ?_)
              refine eJ (fun (J8 : (Mem) → Option (Int32 × Mem)) => ∀ (M9 : Mem), V g uX2_read 41 rvW rmW 102 [.ref (ga g 180), .ref (ga g 178), .int y2, .int v2, .int x4, .int x6] [] M9 (J8 M9)) (fun M9 => ?_) (fun J8 hJ8 => ?_)
              · refine r_aload_n dX2_read_102 rfl rfl ?_
                refine r_bipush bp_59 dX2_read_103 ?_
                refine r_calli (cl_V [.int 59] bX8_takeSign (by decide) dX2_read_105 ml_X2_55 kdc_178 rfl (Nat.le_of_ble_eq_true rfl) rfl) (kX8_takeSign _ _) (fun r10 _ => ?_)
                refine r_if_ne dX2_read_108 (fun h => eF h ?_) (fun h => eT h ?_)
                · refine r_aload_n dX2_read_113 rfl rfl ?_
                  refine r_getR (k' := 181) dX2_read_114 fl_X2_12 kdc_180 rfl ?_
                  refine r_iload_n dX2_read_117 rfl rfl ?_
                  refine r_iload dX2_read_118 rfl ?_
                  refine r_iload dX2_read_120 rfl ?_
                  refine r_callv (cl_V [.int v2, .int x4, .int x6] bX1_appendLine (by decide) dX2_read_122 ml_X2_59 kdc_181 rfl (Nat.le_of_ble_eq_true rfl) rfl) (kX1_appendLine _ _ _ _) (fun M11 _ => ?_)
                  refine r_iinc (l' := [.ref (ga g 180), .ref (ga g 178), .int (y2 + 1), .int v2, .int x4, .int x6]) dX2_read_125 rfl (inc_1 _) (Nat.le_of_ble_eq_true rfl) rfl rfl ?_
                  refine r_goto dX2_read_128 ?_
                  exact vSub (l' := [.ref (ga g 180), .ref (ga g 178), .int (y2 + 1), .null, .null, .null]) ⟨Or.inr rfl, ⟨Or.inr rfl, ⟨Or.inr rfl, ⟨Or.inl rfl, ⟨Or.inl rfl, ⟨Or.inl rfl, trivial⟩⟩⟩⟩⟩⟩ (ih _ _)
                · refine r_iconst ic_0 dX2_read_111 ?_
                  exact vRet rfl rfl rfl dX2_read_112
              · refine r_if_eq dX2_read_88 (fun h => eT h ?_) (fun h => eF h ?_)
                · exact hJ8 _
                · refine r_aload_n dX2_read_91 rfl rfl ?_
                  refine r_aload_n dX2_read_92 rfl rfl ?_
                  refine r_iconst ic_0 dX2_read_93 ?_
                  refine r_calli (cl_V [.ref (ga g 178), .int 0] bX2_readEither (by decide) dX2_read_94 ml_X2_51 kdc_180 rfl (Nat.le_of_ble_eq_true rfl) rfl) (kX2_readEither RU _ _) (fun r12 _ => ?_)
                  refine r_if_ne dX2_read_97 (fun h => eF h ?_) (fun h => eT h ?_)
                  · exact hJ8 _
                  · refine r_iconst ic_0 dX2_read_100 ?_
                    exact vRet rfl rfl rfl dX2_read_101
            · refine r_iconst ic_0 dX2_read_71 ?_
              exact vRet rfl rfl rfl dX2_read_72
          · refine r_aload_n dX2_read_44 rfl rfl ?_
            refine r_iconst ic_3 dX2_read_45 ?_
            refine r_calli (cl_V [.int 3] bX8_refuse (by decide) dX2_read_46 ml_X2_31 kdc_178 rfl (Nat.le_of_ble_eq_true rfl) rfl) (kX8_refuse _ _) (fun r13 _ => ?_)
            exact vRetZ rfl rfl rfl dX2_read_49
        · refine r_aload_n dX2_read_32 rfl rfl ?_
          refine r_iconst ic_1 dX2_read_33 ?_
          refine r_calli (cl_V [.int 1] bX8_refuse (by decide) dX2_read_34 ml_X2_31 kdc_178 rfl (Nat.le_of_ble_eq_true rfl) rfl) (kX8_refuse _ _) (fun r14 _ => ?_)
          exact vRetZ rfl rfl rfl dX2_read_37
set_option maxHeartbeats 4000000 in
set_option maxRecDepth 100000 in
theorem vX2_read {g : G}    (M : Mem) : V g uX2_read 41 rvW rmW 0 [.ref (ga g 180), .ref (ga g 178), .null, .null, .null, .null] [] M (fX2_read M) := by
  unfold fX2_read
  refine r_aload_n dX2_read_0 rfl rfl ?_
  refine r_getR (k' := 181) dX2_read_1 fl_X2_12 kdc_180 rfl ?_
  refine r_callv (cl_V [] bX1_clear (by decide) dX2_read_4 ml_X2_18 kdc_181 rfl (Nat.le_of_ble_eq_true rfl) rfl) (kX1_clear _) (fun M1 _ => ?_)
  refine r_iconst ic_0 dX2_read_7 ?_
  refine r_istore_n (l' := [.ref (ga g 180), .ref (ga g 178), .int 0, .null, .null, .null]) dX2_read_8 rfl (Nat.le_of_ble_eq_true rfl) rfl rfl ?_
  refine vX2_read_L9 _ (fun M15 => ?_) FU _ _
  · refine r_iconst ic_1 dX2_read_131 ?_
    exact vRet rfl rfl rfl dX2_read_132
theorem kX2_read {g : G}    (M : Mem) : CtrI g uX2_read 41 (fun r => r.1) rmW [.ref (ga g 180), .ref (ga g 178)] M (fX2_read M) := CtrI.of mX2_read rfl (Nat.le_of_ble_eq_true rfl) rfl (vX2_read M)
set_option maxHeartbeats 4000000 in
set_option maxRecDepth 100000 in
theorem vX1_copyFrom {g : G} {k0 : Nat} {k1 : Nat} (hk0 : kd k0 = (1, 9)) (hk1 : kd k1 = (1, 9))  (M : Mem) : V g uX1_copyFrom 2 rvU rmU 0 [.ref (ga g k0), .ref (ga g k1)] [] M (fX1_copyFrom k0 k1 M) := by
  unfold fX1_copyFrom
  refine r_aload_n dX1_copyFrom_0 rfl rfl ?_
  refine r_aload_n dX1_copyFrom_1 rfl rfl ?_
  refine r_getI dX1_copyFrom_2 fl_X1_33 hk1 ?_
  refine r_put dX1_copyFrom_5 fw_X1_33 hk0 (fun M1 => ?_)
  refine r_aload_n dX1_copyFrom_8 rfl rfl ?_
  refine r_aload_n dX1_copyFrom_9 rfl rfl ?_
  refine r_getI dX1_copyFrom_10 fl_X1_37 hk1 ?_
  refine r_put dX1_copyFrom_13 fw_X1_37 hk0 (fun M2 => ?_)
  refine r_aload_n dX1_copyFrom_16 rfl rfl ?_
  refine r_getR (k' := (k1 + 1)) dX1_copyFrom_17 fl_X1_9 hk1 rfl ?_
  refine r_iconst ic_0 dX1_copyFrom_20 ?_
  refine r_aload_n dX1_copyFrom_21 rfl rfl ?_
  refine r_getR (k' := (k0 + 1)) dX1_copyFrom_22 fl_X1_9 hk0 rfl ?_
  refine r_iconst ic_0 dX1_copyFrom_25 ?_
  refine r_bipush bp_16 dX1_copyFrom_26 ?_
  refine r_cpy (by decide) (Nat.le_of_ble_eq_true rfl) ml_X1_40 j_cp1 j_cp2 j_cp3 dX1_copyFrom_28 (kx_1_1 hk1) (kx_1_1 hk0) (fun M3 => ?_)
  refine r_aload_n dX1_copyFrom_31 rfl rfl ?_
  refine r_getR (k' := (k1 + 2)) dX1_copyFrom_32 fl_X1_15 hk1 rfl ?_
  refine r_iconst ic_0 dX1_copyFrom_35 ?_
  refine r_aload_n dX1_copyFrom_36 rfl rfl ?_
  refine r_getR (k' := (k0 + 2)) dX1_copyFrom_37 fl_X1_15 hk0 rfl ?_
  refine r_iconst ic_0 dX1_copyFrom_40 ?_
  refine r_bipush bp_16 dX1_copyFrom_41 ?_
  refine r_cpy (by decide) (Nat.le_of_ble_eq_true rfl) ml_X1_40 j_cp1 j_cp2 j_cp3 dX1_copyFrom_43 (kx_1_2 hk1) (kx_1_2 hk0) (fun M4 => ?_)
  refine r_aload_n dX1_copyFrom_46 rfl rfl ?_
  refine r_getR (k' := (k1 + 3)) dX1_copyFrom_47 fl_X1_18 hk1 rfl ?_
  refine r_iconst ic_0 dX1_copyFrom_50 ?_
  refine r_aload_n dX1_copyFrom_51 rfl rfl ?_
  refine r_getR (k' := (k0 + 3)) dX1_copyFrom_52 fl_X1_18 hk0 rfl ?_
  refine r_iconst ic_0 dX1_copyFrom_55 ?_
  refine r_bipush bp_16 dX1_copyFrom_56 ?_
  refine r_cpy (by decide) (Nat.le_of_ble_eq_true rfl) ml_X1_40 j_cp1 j_cp2 j_cp3 dX1_copyFrom_58 (kx_1_3 hk1) (kx_1_3 hk0) (fun M5 => ?_)
  refine r_aload_n dX1_copyFrom_61 rfl rfl ?_
  refine r_getR (k' := (k1 + 4)) dX1_copyFrom_62 fl_X1_21 hk1 rfl ?_
  refine r_iconst ic_0 dX1_copyFrom_65 ?_
  refine r_aload_n dX1_copyFrom_66 rfl rfl ?_
  refine r_getR (k' := (k0 + 4)) dX1_copyFrom_67 fl_X1_21 hk0 rfl ?_
  refine r_iconst ic_0 dX1_copyFrom_70 ?_
  refine r_bipush bp_16 dX1_copyFrom_71 ?_
  refine r_cpy (by decide) (Nat.le_of_ble_eq_true rfl) ml_X1_40 j_cp1 j_cp2 j_cp3 dX1_copyFrom_73 (kx_1_4 hk1) (kx_1_4 hk0) (fun M6 => ?_)
  refine r_aload_n dX1_copyFrom_76 rfl rfl ?_
  refine r_getR (k' := (k1 + 5)) dX1_copyFrom_77 fl_X1_24 hk1 rfl ?_
  refine r_iconst ic_0 dX1_copyFrom_80 ?_
  refine r_aload_n dX1_copyFrom_81 rfl rfl ?_
  refine r_getR (k' := (k0 + 5)) dX1_copyFrom_82 fl_X1_24 hk0 rfl ?_
  refine r_iconst ic_0 dX1_copyFrom_85 ?_
  refine r_sipush sp_400 dX1_copyFrom_86 ?_
  refine r_cpy (by decide) (Nat.le_of_ble_eq_true rfl) ml_X1_40 j_cp1 j_cp2 j_cp3 dX1_copyFrom_89 (kx_1_5 hk1) (kx_1_5 hk0) (fun M7 => ?_)
  exact vRet rfl rfl trivial dX1_copyFrom_92
theorem kX1_copyFrom {g : G} {k0 : Nat} {k1 : Nat} (hk0 : kd k0 = (1, 9)) (hk1 : kd k1 = (1, 9))  (M : Mem) : CtrV g uX1_copyFrom 2 rmU [.ref (ga g k0), .ref (ga g k1)] M (fX1_copyFrom k0 k1 M) := CtrV.of mX1_copyFrom rfl (Nat.le_of_ble_eq_true rfl) rfl (vX1_copyFrom hk0 hk1 M)
set_option maxHeartbeats 4000000 in
set_option maxRecDepth 100000 in
theorem vX8_takeNumber {g : G}   (p1 : Int32) (M : Mem) : V g uX8_takeNumber 3 rvW rmW 0 [.ref (ga g 178), .int p1] [] M (fX8_takeNumber p1 M) := by
  unfold fX8_takeNumber
  refine r_aload_n dX8_takeNumber_0 rfl rfl ?_
  refine r_getI dX8_takeNumber_1 fl_X8_38 kdc_178 ?_
  refine r_iconst ic_2 dX8_takeNumber_4 ?_
  refine r_icmp_eq dX8_takeNumber_5 (fun h => eT h ?_) (fun h => eF h ?_)
  · refine r_aload_n dX8_takeNumber_14 rfl rfl ?_
    refine r_getI dX8_takeNumber_15 fl_X8_41 kdc_178 ?_
    refine r_iload_n dX8_takeNumber_18 rfl rfl ?_
    refine r_icmp_lt dX8_takeNumber_19 (fun h => eT h ?_) (fun h => eF h ?_)
    · refine r_aload_n dX8_takeNumber_28 rfl rfl ?_
      refine r_aload_n dX8_takeNumber_29 rfl rfl ?_
      refine r_getI dX8_takeNumber_30 fl_X8_41 kdc_178 ?_
      refine r_put dX8_takeNumber_33 fw_X8_65 kdc_178 (fun M1 => ?_)
      refine r_aload_n dX8_takeNumber_36 rfl rfl ?_
      refine r_callv (cl_V [] bX8_advance (by decide) dX8_takeNumber_37 ml_X8_28 kdc_178 rfl (Nat.le_of_ble_eq_true rfl) rfl) (kX8_advance _) (fun M2 _ => ?_)
      refine r_iconst ic_1 dX8_takeNumber_40 ?_
      exact vRet rfl rfl rfl dX8_takeNumber_41
    · refine r_aload_n dX8_takeNumber_22 rfl rfl ?_
      refine r_iconst ic_2 dX8_takeNumber_23 ?_
      refine r_calli (cl_V [.int 2] bX8_refuse (by decide) dX8_takeNumber_24 ml_X8_61 kdc_178 rfl (Nat.le_of_ble_eq_true rfl) rfl) (kX8_refuse _ _) (fun r3 _ => ?_)
      exact vRetZ rfl rfl rfl dX8_takeNumber_27
  · refine r_aload_n dX8_takeNumber_8 rfl rfl ?_
    refine r_iconst ic_1 dX8_takeNumber_9 ?_
    refine r_calli (cl_V [.int 1] bX8_refuse (by decide) dX8_takeNumber_10 ml_X8_61 kdc_178 rfl (Nat.le_of_ble_eq_true rfl) rfl) (kX8_refuse _ _) (fun r4 _ => ?_)
    exact vRetZ rfl rfl rfl dX8_takeNumber_13
theorem kX8_takeNumber {g : G}   (p1 : Int32) (M : Mem) : CtrI g uX8_takeNumber 3 (fun r => r.1) rmW [.ref (ga g 178), .int p1] M (fX8_takeNumber p1 M) := CtrI.of mX8_takeNumber rfl (Nat.le_of_ble_eq_true rfl) rfl (vX8_takeNumber p1 M)
set_option maxHeartbeats 4000000 in
set_option maxRecDepth 100000 in
theorem vX8_takeWord {g : G} {w1 : Nat} (hw1 : w1 < strN)  (M : Mem) : V g uX8_takeWord 7 rvW rmW 0 [.ref (ga g 178), .ref (gs g w1)] [] M (fX8_takeWord w1 M) := by
  unfold fX8_takeWord
  refine r_aload_n dX8_takeWord_0 rfl rfl ?_
  refine r_aload_n dX8_takeWord_1 rfl rfl ?_
  refine r_calli (cl_V [.ref (gs g w1)] bX8_isWord (by decide) dX8_takeWord_2 ml_X8_53 kdc_178 rfl (Nat.le_of_ble_eq_true rfl) rfl) (kX8_isWord hw1 _) (fun v1 _ => ?_)
  refine r_if_ne dX8_takeWord_5 (fun h => eF h ?_) (fun h => eT h ?_)
  · refine r_aload_n dX8_takeWord_14 rfl rfl ?_
    refine r_callv (cl_V [] bX8_advance (by decide) dX8_takeWord_15 ml_X8_28 kdc_178 rfl (Nat.le_of_ble_eq_true rfl) rfl) (kX8_advance _) (fun M2 _ => ?_)
    refine r_iconst ic_1 dX8_takeWord_18 ?_
    exact vRet rfl rfl rfl dX8_takeWord_19
  · refine r_aload_n dX8_takeWord_8 rfl rfl ?_
    refine r_iconst ic_1 dX8_takeWord_9 ?_
    refine r_calli (cl_V [.int 1] bX8_refuse (by decide) dX8_takeWord_10 ml_X8_61 kdc_178 rfl (Nat.le_of_ble_eq_true rfl) rfl) (kX8_refuse _ _) (fun r3 _ => ?_)
    exact vRetZ rfl rfl rfl dX8_takeWord_13
theorem kX8_takeWord {g : G} {w1 : Nat} (hw1 : w1 < strN)  (M : Mem) : CtrI g uX8_takeWord 7 (fun r => r.1) rmW [.ref (ga g 178), .ref (gs g w1)] M (fX8_takeWord w1 M) := CtrI.of mX8_takeWord rfl (Nat.le_of_ble_eq_true rfl) rfl (vX8_takeWord hw1 M)
set_option maxHeartbeats 4000000 in
set_option maxRecDepth 100000 in
theorem vX9_isOneOf {g : G}   (p1 : Int32) (p2 : Int32) (M : Mem) : V g uX9_isOneOf 2 rvI (rmP M) 0 [.ref (ga g 2), .int p1, .int p2] [] M (fX9_isOneOf p1 p2 M) := by
  unfold fX9_isOneOf
  refine r_aload_n dX9_isOneOf_0 rfl rfl ?_
  refine r_iload_n dX9_isOneOf_1 rfl rfl ?_
  refine r_calliT (cl_V [.int p1] bX9_hasBargain (by decide) dX9_isOneOf_2 ml_X9_68 kdc_2 rfl (Nat.le_of_ble_eq_true rfl) rfl) (kX9_hasBargain kdc_2 _ _) ?_
  refine r_if_eq dX9_isOneOf_5 (fun h => eT h ?_) (fun h => eF h ?_)
  · refine r_iconst ic_0 dX9_isOneOf_32 ?_
    exact vRet rfl rfl rfl dX9_isOneOf_33
  · refine r_aload_n dX9_isOneOf_8 rfl rfl ?_
    refine r_getR (k' := 6) dX9_isOneOf_9 fl_X9_21 kdc_2 rfl ?_
    refine r_iload_n dX9_isOneOf_12 rfl rfl ?_
    refine r_iald dX9_isOneOf_13 kdc_6 (fun v1 => ?_)
    refine r_iload_n dX9_isOneOf_14 rfl rfl ?_
    refine r_icmp_eq dX9_isOneOf_15 (fun h => eT h ?_) (fun h => eF h ?_)
    · refine r_iconst ic_1 dX9_isOneOf_28 ?_
      refine r_goto dX9_isOneOf_29 ?_
      exact vRet rfl rfl rfl dX9_isOneOf_33
    · refine r_aload_n dX9_isOneOf_18 rfl rfl ?_
      refine r_getR (k' := 7) dX9_isOneOf_19 fl_X9_24 kdc_2 rfl ?_
      refine r_iload_n dX9_isOneOf_22 rfl rfl ?_
      refine r_iald dX9_isOneOf_23 kdc_7 (fun v2 => ?_)
      refine r_iload_n dX9_isOneOf_24 rfl rfl ?_
      refine r_icmp_ne dX9_isOneOf_25 (fun h => eF h ?_) (fun h => eT h ?_)
      · refine r_iconst ic_0 dX9_isOneOf_32 ?_
        exact vRet rfl rfl rfl dX9_isOneOf_33
      · refine r_iconst ic_1 dX9_isOneOf_28 ?_
        refine r_goto dX9_isOneOf_29 ?_
        exact vRet rfl rfl rfl dX9_isOneOf_33
theorem kX9_isOneOf {g : G}   (p1 : Int32) (p2 : Int32) (M : Mem) : CtrI g uX9_isOneOf 2 (fun r => r) (rmP M) [.ref (ga g 2), .int p1, .int p2] M (fX9_isOneOf p1 p2 M) := CtrI.of mX9_isOneOf rfl (Nat.le_of_ble_eq_true rfl) rfl (vX9_isOneOf p1 p2 M)
set_option maxHeartbeats 4000000 in
set_option maxRecDepth 100000 in
theorem vX4_readHearing {g : G}    (M : Mem) : V g uX4_readHearing 8 rvW rmW 0 [.ref (ga g 189), .ref (ga g 178), .ref (ga g 2)] [] M (fX4_readHearing M) := by
  unfold fX4_readHearing
  refine r_aload_n dX4_readHearing_0 rfl rfl ?_
  refine r_aload_n dX4_readHearing_1 rfl rfl ?_
  refine r_getI dX4_readHearing_2 fl_X4_85 kdc_2 ?_
  refine r_calli (cl_V [.int (M 2 5)] bX8_takeNumber (by decide) dX4_readHearing_5 ml_X4_70 kdc_178 rfl (Nat.le_of_ble_eq_true rfl) rfl) (kX8_takeNumber _ _) (fun r1 _ => ?_)
  refine r_if_ne dX4_readHearing_8 (fun h => eF h ?_) (fun h => eT h ?_)
  · refine r_aload_n dX4_readHearing_13 rfl rfl ?_
    refine r_aload_n dX4_readHearing_14 rfl rfl ?_
    refine r_getI dX4_readHearing_15 fl_X4_73 kdc_178 ?_
    refine r_put dX4_readHearing_18 fw_X4_56 kdc_189 (fun M2 => ?_)
    refine r_aload_n dX4_readHearing_21 rfl rfl ?_
    refine r_ldcS (i := 19) (List.mem_of_getElem? (i := 19) rfl) dX4_readHearing_22 ?_
    refine r_calli (cl_V [.ref (gs g 19)] bX8_takeWord (by decide) dX4_readHearing_24 ml_X4_82 kdc_178 rfl (Nat.le_of_ble_eq_true rfl) rfl) (kX8_takeWord (by decide) _) (fun r3 _ => ?_)
    refine r_if_ne dX4_readHearing_27 (fun h => eF h ?_) (fun h => eT h ?_)
    · refine r_aload_n dX4_readHearing_32 rfl rfl ?_
      refine r_getI dX4_readHearing_33 fl_X4_24 kdc_178 ?_
      refine r_iconst ic_2 dX4_readHearing_36 ?_
      refine eJ (fun (J4 : Option (Int32 × Mem)) => V g uX4_readHearing 8 rvW rmW 61 [.ref (ga g 189), .ref (ga g 178), .ref (ga g 2)] [] r3.2 (J4)) ( ?_) (fun J4 hJ4 => ?_)
      · refine r_aload_n dX4_readHearing_61 rfl rfl ?_
        refine r_aload_n dX4_readHearing_62 rfl rfl ?_
        refine r_getI dX4_readHearing_63 fl_X4_98 kdc_2 ?_
        refine r_calli (cl_V [.int (r3.2 2 4)] bX8_takeNumber (by decide) dX4_readHearing_66 ml_X4_70 kdc_178 rfl (Nat.le_of_ble_eq_true rfl) rfl) (kX8_takeNumber _ _) (fun r5 _ => ?_)
        refine r_if_ne dX4_readHearing_69 (fun h => eF h ?_) (fun h => eT h ?_)
        · refine r_aload_n dX4_readHearing_74 rfl rfl ?_
          refine r_aload_n dX4_readHearing_75 rfl rfl ?_
          refine r_getI dX4_readHearing_76 fl_X4_73 kdc_178 ?_
          refine r_put dX4_readHearing_79 fw_X4_59 kdc_189 (fun M6 => ?_)
          refine r_iconst ic_1 dX4_readHearing_82 ?_
          exact vRet rfl rfl rfl dX4_readHearing_83
        · refine r_iconst ic_0 dX4_readHearing_72 ?_
          exact vRet rfl rfl rfl dX4_readHearing_73
      · refine r_icmp_ne dX4_readHearing_37 (fun h => eF h ?_) (fun h => eT h ?_)
        · exact hJ4
        · refine r_aload_n dX4_readHearing_40 rfl rfl ?_
          refine r_aload_n dX4_readHearing_41 rfl rfl ?_
          refine r_getI dX4_readHearing_42 fl_X4_56 kdc_189 ?_
          refine r_aload_n dX4_readHearing_45 rfl rfl ?_
          refine r_getI dX4_readHearing_46 fl_X4_111 kdc_178 ?_
          refine r_calli (cl_V [.int (r3.2 189 3), .int (r3.2 178 7)] bX9_isOneOf (by decide) dX4_readHearing_49 ml_X4_114 kdc_2 rfl (Nat.le_of_ble_eq_true rfl) rfl) (kX9_isOneOf _ _ _) (fun v7 _ => ?_)
          refine r_if_eq dX4_readHearing_52 (fun h => eT h ?_) (fun h => eF h ?_)
          · exact hJ4
          · refine r_aload_n dX4_readHearing_55 rfl rfl ?_
            refine r_iconst ic_2 dX4_readHearing_56 ?_
            refine r_calli (cl_V [.int 2] bX8_refuse (by decide) dX4_readHearing_57 ml_X4_37 kdc_178 rfl (Nat.le_of_ble_eq_true rfl) rfl) (kX8_refuse _ _) (fun r8 _ => ?_)
            exact vRetZ rfl rfl rfl dX4_readHearing_60
    · refine r_iconst ic_0 dX4_readHearing_30 ?_
      exact vRet rfl rfl rfl dX4_readHearing_31
  · refine r_iconst ic_0 dX4_readHearing_11 ?_
    exact vRet rfl rfl rfl dX4_readHearing_12
theorem kX4_readHearing {g : G}    (M : Mem) : CtrI g uX4_readHearing 8 (fun r => r.1) rmW [.ref (ga g 189), .ref (ga g 178), .ref (ga g 2)] M (fX4_readHearing M) := CtrI.of mX4_readHearing rfl (Nat.le_of_ble_eq_true rfl) rfl (vX4_readHearing M)
set_option maxHeartbeats 4000000 in
set_option maxRecDepth 100000 in
theorem vX4_readTwist {g : G}    (M : Mem) : V g uX4_readTwist 8 rvW rmW 0 [.ref (ga g 189), .ref (ga g 178), .ref (ga g 2)] [] M (fX4_readTwist M) := by
  unfold fX4_readTwist
  refine r_aload_n dX4_readTwist_0 rfl rfl ?_
  refine r_ldcS (i := 17) (List.mem_of_getElem? (i := 17) rfl) dX4_readTwist_1 ?_
  refine r_calli (cl_V [.ref (gs g 17)] bX8_takeWord (by decide) dX4_readTwist_3 ml_X4_82 kdc_178 rfl (Nat.le_of_ble_eq_true rfl) rfl) (kX8_takeWord (by decide) _) (fun r1 _ => ?_)
  refine r_if_eq dX4_readTwist_6 (fun h => eT h ?_) (fun h => eF h ?_)
  · refine r_iconst ic_0 dX4_readTwist_20 ?_
    exact vRet rfl rfl rfl dX4_readTwist_21
  · refine r_aload_n dX4_readTwist_9 rfl rfl ?_
    refine r_aload_n dX4_readTwist_10 rfl rfl ?_
    refine r_getI dX4_readTwist_11 fl_X4_85 kdc_2 ?_
    refine r_calli (cl_V [.int (r1.2 2 5)] bX8_takeNumber (by decide) dX4_readTwist_14 ml_X4_70 kdc_178 rfl (Nat.le_of_ble_eq_true rfl) rfl) (kX8_takeNumber _ _) (fun r2 _ => ?_)
    refine r_if_ne dX4_readTwist_17 (fun h => eF h ?_) (fun h => eT h ?_)
    · refine r_aload_n dX4_readTwist_22 rfl rfl ?_
      refine r_aload_n dX4_readTwist_23 rfl rfl ?_
      refine r_getI dX4_readTwist_24 fl_X4_73 kdc_178 ?_
      refine r_put dX4_readTwist_27 fw_X4_56 kdc_189 (fun M3 => ?_)
      refine r_aload_n dX4_readTwist_30 rfl rfl ?_
      refine r_aload_n dX4_readTwist_31 rfl rfl ?_
      refine r_ldcS (i := 20) (List.mem_of_getElem? (i := 20) rfl) dX4_readTwist_32 ?_
      refine r_calli (cl_V [.ref (gs g 20)] bX8_isWord (by decide) dX4_readTwist_34 ml_X4_33 kdc_178 rfl (Nat.le_of_ble_eq_true rfl) rfl) (kX8_isWord (by decide) _) (fun v4 _ => ?_)
      refine eJ (fun (J5 : (Int32) → Option (Int32 × Mem)) => ∀ (t6 : Int32), V g uX4_readTwist 8 rvW rmW 45 [.ref (ga g 189), .ref (ga g 178), .null] [.int t6, .ref (ga g 189)] M3 (J5 t6)) (fun t6 => ?_) (fun J5 hJ5 => ?_)
      · refine r_put dX4_readTwist_45 fw_X4_55 kdc_189 (fun M7 => ?_)
        refine r_aload_n dX4_readTwist_48 rfl rfl ?_
        refine r_aload_n dX4_readTwist_49 rfl rfl ?_
        refine r_getI dX4_readTwist_50 fl_X4_55 kdc_189 ?_
        refine r_iconst ic_1 dX4_readTwist_53 ?_
        refine eJ (fun (J8 : (Nat) → Option (Int32 × Mem)) => ∀ (w9 : Nat) (hw9 : w9 < strN), V g uX4_readTwist 8 rvW rmW 64 [.null, .null, .null] [.ref (gs g w9), .ref (ga g 178)] M7 (J8 w9)) (fun w9 hw9 => ?_) (fun J8 hJ8 => ?_)
        · refine r_calli (cl_V [.ref (gs g w9)] bX8_takeWord (by decide) dX4_readTwist_64 ml_X4_82 kdc_178 rfl (Nat.le_of_ble_eq_true rfl) rfl) (kX8_takeWord hw9 _) (fun r10 _ => ?_)
          exact vRetZ rfl rfl rfl dX4_readTwist_67
        · refine r_icmp_ne dX4_readTwist_54 (fun h => eF h ?_) (fun h => eT h ?_)
          · refine r_ldcS (i := 21) (List.mem_of_getElem? (i := 21) rfl) dX4_readTwist_62 ?_
            exact vSub (l' := [.null, .null, .null]) ⟨Or.inl rfl, ⟨Or.inl rfl, ⟨Or.inl rfl, trivial⟩⟩⟩ (hJ8 _ (by decide))
          · refine r_ldcS (i := 20) (List.mem_of_getElem? (i := 20) rfl) dX4_readTwist_57 ?_
            refine r_goto dX4_readTwist_59 ?_
            exact vSub (l' := [.null, .null, .null]) ⟨Or.inl rfl, ⟨Or.inl rfl, ⟨Or.inl rfl, trivial⟩⟩⟩ (hJ8 _ (by decide))
      · refine r_if_eq dX4_readTwist_37 (fun h => eT h ?_) (fun h => eF h ?_)
        · refine r_iconst ic_0 dX4_readTwist_44 ?_
          exact vSub (l' := [.ref (ga g 189), .ref (ga g 178), .null]) ⟨Or.inr rfl, ⟨Or.inr rfl, ⟨Or.inl rfl, trivial⟩⟩⟩ (hJ5 _)
        · refine r_iconst ic_1 dX4_readTwist_40 ?_
          refine r_goto dX4_readTwist_41 ?_
          exact vSub (l' := [.ref (ga g 189), .ref (ga g 178), .null]) ⟨Or.inr rfl, ⟨Or.inr rfl, ⟨Or.inl rfl, trivial⟩⟩⟩ (hJ5 _)
    · refine r_iconst ic_0 dX4_readTwist_20 ?_
      exact vRet rfl rfl rfl dX4_readTwist_21
theorem kX4_readTwist {g : G}    (M : Mem) : CtrI g uX4_readTwist 8 (fun r => r.1) rmW [.ref (ga g 189), .ref (ga g 178), .ref (ga g 2)] M (fX4_readTwist M) := CtrI.of mX4_readTwist rfl (Nat.le_of_ble_eq_true rfl) rfl (vX4_readTwist M)
set_option maxHeartbeats 4000000 in
set_option maxRecDepth 100000 in
theorem vX4_kindAtHand {g : G}    (M : Mem) : V g uX4_kindAtHand 7 rvI (rmP M) 0 [.ref (ga g 178)] [] M (fX4_kindAtHand M) := by
  unfold fX4_kindAtHand
  refine r_aload_n dX4_kindAtHand_0 rfl rfl ?_
  refine r_ldcS (i := 7) (List.mem_of_getElem? (i := 22) rfl) dX4_kindAtHand_1 ?_
  refine r_calli (cl_V [.ref (gs g 7)] bX8_isWord (by decide) dX4_kindAtHand_3 ml_X4_33 kdc_178 rfl (Nat.le_of_ble_eq_true rfl) rfl) (kX8_isWord (by decide) _) (fun v1 _ => ?_)
  refine r_if_eq dX4_kindAtHand_6 (fun h => eT h ?_) (fun h => eF h ?_)
  · refine r_aload_n dX4_kindAtHand_11 rfl rfl ?_
    refine r_ldcS (i := 8) (List.mem_of_getElem? (i := 23) rfl) dX4_kindAtHand_12 ?_
    refine r_calli (cl_V [.ref (gs g 8)] bX8_isWord (by decide) dX4_kindAtHand_14 ml_X4_33 kdc_178 rfl (Nat.le_of_ble_eq_true rfl) rfl) (kX8_isWord (by decide) _) (fun v2 _ => ?_)
    refine r_if_eq dX4_kindAtHand_17 (fun h => eT h ?_) (fun h => eF h ?_)
    · refine r_aload_n dX4_kindAtHand_22 rfl rfl ?_
      refine r_ldcS (i := 6) (List.mem_of_getElem? (i := 24) rfl) dX4_kindAtHand_23 ?_
      refine r_calli (cl_V [.ref (gs g 6)] bX8_isWord (by decide) dX4_kindAtHand_25 ml_X4_33 kdc_178 rfl (Nat.le_of_ble_eq_true rfl) rfl) (kX8_isWord (by decide) _) (fun v3 _ => ?_)
      refine r_if_eq dX4_kindAtHand_28 (fun h => eT h ?_) (fun h => eF h ?_)
      · refine r_aload_n dX4_kindAtHand_33 rfl rfl ?_
        refine r_ldcS (i := 3) (List.mem_of_getElem? (i := 25) rfl) dX4_kindAtHand_34 ?_
        refine r_calli (cl_V [.ref (gs g 3)] bX8_isWord (by decide) dX4_kindAtHand_36 ml_X4_33 kdc_178 rfl (Nat.le_of_ble_eq_true rfl) rfl) (kX8_isWord (by decide) _) (fun v4 _ => ?_)
        refine r_if_eq dX4_kindAtHand_39 (fun h => eT h ?_) (fun h => eF h ?_)
        · refine r_iconst ic_m1 dX4_kindAtHand_46 ?_
          exact vRet rfl rfl rfl dX4_kindAtHand_47
        · refine r_iconst ic_3 dX4_kindAtHand_42 ?_
          refine r_goto dX4_kindAtHand_43 ?_
          exact vRet rfl rfl rfl dX4_kindAtHand_47
      · refine r_iconst ic_2 dX4_kindAtHand_31 ?_
        exact vRet rfl rfl rfl dX4_kindAtHand_32
    · refine r_iconst ic_1 dX4_kindAtHand_20 ?_
      exact vRet rfl rfl rfl dX4_kindAtHand_21
  · refine r_iconst ic_0 dX4_kindAtHand_9 ?_
    exact vRet rfl rfl rfl dX4_kindAtHand_10
theorem kX4_kindAtHand {g : G}    (M : Mem) : CtrI g uX4_kindAtHand 7 (fun r => r) (rmP M) [.ref (ga g 178)] M (fX4_kindAtHand M) := CtrI.of mX4_kindAtHand rfl (Nat.le_of_ble_eq_true rfl) rfl (vX4_kindAtHand M)
set_option maxHeartbeats 4000000 in
set_option maxRecDepth 100000 in
theorem vX4_readEvening {g : G}    (M : Mem) : V g uX4_readEvening 8 rvW rmW 0 [.ref (ga g 189), .ref (ga g 178), .ref (ga g 2)] [] M (fX4_readEvening M) := by
  unfold fX4_readEvening
  refine r_aload_n dX4_readEvening_0 rfl rfl ?_
  refine r_aload_n dX4_readEvening_1 rfl rfl ?_
  refine r_calli (cl_S [.ref (ga g 178)] bX4_kindAtHand (by decide) dX4_readEvening_2 ml_X4_94 rfl (Nat.le_of_ble_eq_true rfl) rfl) (kX4_kindAtHand _) (fun v1 _ => ?_)
  refine r_put dX4_readEvening_5 fw_X4_55 kdc_189 (fun M2 => ?_)
  refine r_aload_n dX4_readEvening_8 rfl rfl ?_
  refine r_getI dX4_readEvening_9 fl_X4_55 kdc_189 ?_
  refine r_iconst ic_m1 dX4_readEvening_12 ?_
  refine r_icmp_ne dX4_readEvening_13 (fun h => eF h ?_) (fun h => eT h ?_)
  · refine r_aload_n dX4_readEvening_22 rfl rfl ?_
    refine r_callv (cl_V [] bX8_advance (by decide) dX4_readEvening_23 ml_X4_41 kdc_178 rfl (Nat.le_of_ble_eq_true rfl) rfl) (kX8_advance _) (fun M3 _ => ?_)
    refine r_aload_n dX4_readEvening_26 rfl rfl ?_
    refine r_getI dX4_readEvening_27 fl_X4_55 kdc_189 ?_
    refine r_iconst ic_2 dX4_readEvening_30 ?_
    refine eJ (fun (J4 : (Mem) → Option (Int32 × Mem)) => ∀ (M5 : Mem), V g uX4_readEvening 8 rvW rmW 78 [.ref (ga g 189), .ref (ga g 178), .null] [] M5 (J4 M5)) (fun M5 => ?_) (fun J4 hJ4 => ?_)
    · refine r_aload_n dX4_readEvening_78 rfl rfl ?_
      refine r_getI dX4_readEvening_79 fl_X4_55 kdc_189 ?_
      refine r_iconst ic_2 dX4_readEvening_82 ?_
      refine r_icmp_eq dX4_readEvening_83 (fun h => eT h ?_) (fun h => eF h ?_)
      · refine r_iconst ic_1 dX4_readEvening_105 ?_
        exact vRet rfl rfl rfl dX4_readEvening_106
      · refine r_aload_n dX4_readEvening_86 rfl rfl ?_
        refine r_bipush bp_10 dX4_readEvening_87 ?_
        refine r_calli (cl_V [.int 10] bX8_takeNumber (by decide) dX4_readEvening_89 ml_X4_70 kdc_178 rfl (Nat.le_of_ble_eq_true rfl) rfl) (kX8_takeNumber _ _) (fun r6 _ => ?_)
        refine r_if_ne dX4_readEvening_92 (fun h => eF h ?_) (fun h => eT h ?_)
        · refine r_aload_n dX4_readEvening_97 rfl rfl ?_
          refine r_aload_n dX4_readEvening_98 rfl rfl ?_
          refine r_getI dX4_readEvening_99 fl_X4_73 kdc_178 ?_
          refine r_put dX4_readEvening_102 fw_X4_59 kdc_189 (fun M7 => ?_)
          refine r_iconst ic_1 dX4_readEvening_105 ?_
          exact vRet rfl rfl rfl dX4_readEvening_106
        · refine r_iconst ic_0 dX4_readEvening_95 ?_
          exact vRet rfl rfl rfl dX4_readEvening_96
    · refine eJ (fun (J8 : Option (Int32 × Mem)) => V g uX4_readEvening 8 rvW rmW 42 [.ref (ga g 189), .ref (ga g 178), .ref (ga g 2)] [] M3 (J8)) ( ?_) (fun J8 hJ8 => ?_)
      · refine r_aload_n dX4_readEvening_42 rfl rfl ?_
        refine r_aload_n dX4_readEvening_43 rfl rfl ?_
        refine r_getI dX4_readEvening_44 fl_X4_55 kdc_189 ?_
        refine r_iconst ic_2 dX4_readEvening_47 ?_
        refine eJ (fun (J9 : (Int32) → Option (Int32 × Mem)) => ∀ (t10 : Int32), V g uX4_readEvening 8 rvW rmW 62 [.ref (ga g 189), .ref (ga g 178), .null] [.int t10, .ref (ga g 178)] M3 (J9 t10)) (fun t10 => ?_) (fun J9 hJ9 => ?_)
        · refine r_calli (cl_V [.int t10] bX8_takeNumber (by decide) dX4_readEvening_62 ml_X4_70 kdc_178 rfl (Nat.le_of_ble_eq_true rfl) rfl) (kX8_takeNumber _ _) (fun r11 _ => ?_)
          refine r_if_ne dX4_readEvening_65 (fun h => eF h ?_) (fun h => eT h ?_)
          · refine r_aload_n dX4_readEvening_70 rfl rfl ?_
            refine r_aload_n dX4_readEvening_71 rfl rfl ?_
            refine r_getI dX4_readEvening_72 fl_X4_73 kdc_178 ?_
            refine r_put dX4_readEvening_75 fw_X4_56 kdc_189 (fun M12 => ?_)
            exact hJ4 _
          · refine r_iconst ic_0 dX4_readEvening_68 ?_
            exact vRet rfl rfl rfl dX4_readEvening_69
        · refine r_icmp_ne dX4_readEvening_48 (fun h => eF h ?_) (fun h => eT h ?_)
          · refine r_aload_n dX4_readEvening_58 rfl rfl ?_
            refine r_getI dX4_readEvening_59 fl_X4_98 kdc_2 ?_
            exact vSub (l' := [.ref (ga g 189), .ref (ga g 178), .null]) ⟨Or.inr rfl, ⟨Or.inr rfl, ⟨Or.inl rfl, trivial⟩⟩⟩ (hJ9 _)
          · refine r_aload_n dX4_readEvening_51 rfl rfl ?_
            refine r_getI dX4_readEvening_52 fl_X4_85 kdc_2 ?_
            refine r_goto dX4_readEvening_55 ?_
            exact vSub (l' := [.ref (ga g 189), .ref (ga g 178), .null]) ⟨Or.inr rfl, ⟨Or.inr rfl, ⟨Or.inl rfl, trivial⟩⟩⟩ (hJ9 _)
      · refine r_icmp_eq dX4_readEvening_31 (fun h => eT h ?_) (fun h => eF h ?_)
        · exact hJ8
        · refine r_aload_n dX4_readEvening_34 rfl rfl ?_
          refine r_getI dX4_readEvening_35 fl_X4_55 kdc_189 ?_
          refine r_iconst ic_3 dX4_readEvening_38 ?_
          refine r_icmp_ne dX4_readEvening_39 (fun h => eF h ?_) (fun h => eT h ?_)
          · exact vSub (l' := [.ref (ga g 189), .ref (ga g 178), .null]) ⟨Or.inr rfl, ⟨Or.inr rfl, ⟨Or.inl rfl, trivial⟩⟩⟩ (hJ4 _)
          · exact hJ8
  · refine r_aload_n dX4_readEvening_16 rfl rfl ?_
    refine r_iconst ic_1 dX4_readEvening_17 ?_
    refine r_calli (cl_V [.int 1] bX8_refuse (by decide) dX4_readEvening_18 ml_X4_37 kdc_178 rfl (Nat.le_of_ble_eq_true rfl) rfl) (kX8_refuse _ _) (fun r13 _ => ?_)
    exact vRetZ rfl rfl rfl dX4_readEvening_21
theorem kX4_readEvening {g : G}    (M : Mem) : CtrI g uX4_readEvening 8 (fun r => r.1) rmW [.ref (ga g 189), .ref (ga g 178), .ref (ga g 2)] M (fX4_readEvening M) := CtrI.of mX4_readEvening rfl (Nat.le_of_ble_eq_true rfl) rfl (vX4_readEvening M)
set_option maxHeartbeats 4000000 in
set_option maxRecDepth 100000 in
theorem vX4_readLine {g : G}   (p2 : Int32) (M : Mem) : V g uX4_readLine 9 rvW rmW 0 [.ref (ga g 189), .ref (ga g 178), .int p2, .ref (ga g 2)] [] M (fX4_readLine p2 M) := by
  unfold fX4_readLine
  refine r_aload_n dX4_readLine_0 rfl rfl ?_
  refine r_iconst ic_0 dX4_readLine_1 ?_
  refine r_put dX4_readLine_2 fw_X4_52 kdc_189 (fun M1 => ?_)
  refine r_aload_n dX4_readLine_5 rfl rfl ?_
  refine r_iconst ic_0 dX4_readLine_6 ?_
  refine r_put dX4_readLine_7 fw_X4_55 kdc_189 (fun M2 => ?_)
  refine r_aload_n dX4_readLine_10 rfl rfl ?_
  refine r_iconst ic_0 dX4_readLine_11 ?_
  refine r_put dX4_readLine_12 fw_X4_56 kdc_189 (fun M3 => ?_)
  refine r_aload_n dX4_readLine_15 rfl rfl ?_
  refine r_iconst ic_0 dX4_readLine_16 ?_
  refine r_put dX4_readLine_17 fw_X4_59 kdc_189 (fun M4 => ?_)
  refine r_iload_n dX4_readLine_20 rfl rfl ?_
  refine r_iconst ic_3 dX4_readLine_21 ?_
  refine r_icmp_ne dX4_readLine_22 (fun h => eF h ?_) (fun h => eT h ?_)
  · refine r_aload_n dX4_readLine_32 rfl rfl ?_
    refine r_sipush sp_1000 dX4_readLine_33 ?_
    refine r_calli (cl_V [.int 1000] bX8_takeNumber (by decide) dX4_readLine_36 ml_X4_70 kdc_178 rfl (Nat.le_of_ble_eq_true rfl) rfl) (kX8_takeNumber _ _) (fun r5 _ => ?_)
    refine r_if_ne dX4_readLine_39 (fun h => eF h ?_) (fun h => eT h ?_)
    · refine r_aload_n dX4_readLine_44 rfl rfl ?_
      refine r_aload_n dX4_readLine_45 rfl rfl ?_
      refine r_getI dX4_readLine_46 fl_X4_73 kdc_178 ?_
      refine r_put dX4_readLine_49 fw_X4_52 kdc_189 (fun M6 => ?_)
      refine r_iload_n dX4_readLine_52 rfl rfl ?_
      refine r_iconst ic_1 dX4_readLine_53 ?_
      refine r_icmp_ne dX4_readLine_54 (fun h => eF h ?_) (fun h => eT h ?_)
      · refine r_aload_n dX4_readLine_66 rfl rfl ?_
        refine r_aload_n dX4_readLine_67 rfl rfl ?_
        refine r_aload_n dX4_readLine_68 rfl rfl ?_
        refine r_calli (cl_V [.ref (ga g 178), .ref (ga g 2)] bX4_readEvening (by decide) dX4_readLine_69 ml_X4_79 kdc_189 rfl (Nat.le_of_ble_eq_true rfl) rfl) (kX4_readEvening _) (fun r7 _ => ?_)
        exact vRetZ rfl rfl rfl dX4_readLine_72
      · refine r_aload_n dX4_readLine_57 rfl rfl ?_
        refine r_aload_n dX4_readLine_58 rfl rfl ?_
        refine r_aload_n dX4_readLine_59 rfl rfl ?_
        refine r_calli (cl_V [.ref (ga g 178), .ref (ga g 2)] bX4_readTwist (by decide) dX4_readLine_60 ml_X4_76 kdc_189 rfl (Nat.le_of_ble_eq_true rfl) rfl) (kX4_readTwist _) (fun r8 _ => ?_)
        refine r_goto dX4_readLine_63 ?_
        exact vRetZ rfl rfl rfl dX4_readLine_72
    · refine r_iconst ic_0 dX4_readLine_42 ?_
      exact vRet rfl rfl rfl dX4_readLine_43
  · refine r_aload_n dX4_readLine_25 rfl rfl ?_
    refine r_aload_n dX4_readLine_26 rfl rfl ?_
    refine r_aload_n dX4_readLine_27 rfl rfl ?_
    refine r_calli (cl_V [.ref (ga g 178), .ref (ga g 2)] bX4_readHearing (by decide) dX4_readLine_28 ml_X4_66 kdc_189 rfl (Nat.le_of_ble_eq_true rfl) rfl) (kX4_readHearing _) (fun r9 _ => ?_)
    exact vRetZ rfl rfl rfl dX4_readLine_31
theorem kX4_readLine {g : G}   (p2 : Int32) (M : Mem) : CtrI g uX4_readLine 9 (fun r => r.1) rmW [.ref (ga g 189), .ref (ga g 178), .int p2, .ref (ga g 2)] M (fX4_readLine p2 M) := CtrI.of mX4_readLine rfl (Nat.le_of_ble_eq_true rfl) rfl (vX4_readLine p2 M)
set_option maxHeartbeats 4000000 in
set_option maxRecDepth 100000 in
theorem vX4_read_L11 {g : G}  (K117 : Mem → Option (Int32 × Mem)) (K86 : Mem → Option (Int32 × Mem)) (z2 : Int32)   (hK117 : ∀ (M : Mem), V g uX4_read 10 rvW rmW 117 [.null, .null, .null, .null, .null] [] M (K117 M)) (hK86 : ∀ (M : Mem), V g uX4_read 10 rvW rmW 86 [.null, .null, .null, .null, .null] [] M (K86 M)) : ∀ (n : Nat) (y4 : Int32) (M : Mem), V g uX4_read 10 rvW rmW 11 [.ref (ga g 189), .ref (ga g 178), .int z2, .ref (ga g 2), .int y4] [] M (fX4_read_L11 K117 K86 z2 n y4 M) := by
  intro n
  induction n with
  | zero => intro y4 M; exact vNone
  | succ n ih =>
    intro y4 M
    rw [fX4_read_L11]
    refine r_iload dX4_read_11 rfl ?_
    refine r_bipush bp_16 dX4_read_13 ?_
    refine r_icmp_gt dX4_read_15 (fun h => eT h ?_) (fun h => eF h ?_)
    · exact vSub (l' := [.null, .null, .null, .null, .null]) ⟨Or.inl rfl, ⟨Or.inl rfl, ⟨Or.inl rfl, ⟨Or.inl rfl, ⟨Or.inl rfl, trivial⟩⟩⟩⟩⟩ (hK117 _)
    · refine r_aload_n dX4_read_18 rfl rfl ?_
      refine r_getI dX4_read_19 fl_X4_24 kdc_178 ?_
      refine r_if_eq dX4_read_22 (fun h => eT h ?_) (fun h => eF h ?_)
      · exact vSub (l' := [.null, .null, .null, .null, .null]) ⟨Or.inl rfl, ⟨Or.inl rfl, ⟨Or.inl rfl, ⟨Or.inl rfl, ⟨Or.inl rfl, trivial⟩⟩⟩⟩⟩ (hK117 _)
      · refine r_aload_n dX4_read_25 rfl rfl ?_
        refine r_iload_n dX4_read_26 rfl rfl ?_
        refine r_iconst ic_3 dX4_read_27 ?_
        refine eJ (fun (J2 : (Nat) → Option (Int32 × Mem)) => ∀ (w3 : Nat) (hw3 : w3 < strN), V g uX4_read 10 rvW rmW 38 [.ref (ga g 189), .ref (ga g 178), .int z2, .ref (ga g 2), .int y4] [.ref (gs g w3), .ref (ga g 178)] M (J2 w3)) (fun w3 hw3 => ?_) (fun J2 hJ2 => ?_)
        · refine r_calli (cl_V [.ref (gs g w3)] bX8_isWord (by decide) dX4_read_38 ml_X4_33 kdc_178 rfl (Nat.le_of_ble_eq_true rfl) rfl) (kX8_isWord hw3 _) (fun v4 _ => ?_)
          refine r_if_ne dX4_read_41 (fun h => eF h ?_) (fun h => eT h ?_)
          · refine r_iload dX4_read_50 rfl ?_
            refine r_bipush bp_16 dX4_read_52 ?_
            refine r_icmp_ne dX4_read_54 (fun h => eF h ?_) (fun h => eT h ?_)
            · refine r_aload_n dX4_read_63 rfl rfl ?_
              refine r_callv (cl_V [] bX8_advance (by decide) dX4_read_64 ml_X4_41 kdc_178 rfl (Nat.le_of_ble_eq_true rfl) rfl) (kX8_advance _) (fun M5 _ => ?_)
              refine r_aload_n dX4_read_67 rfl rfl ?_
              refine r_aload_n dX4_read_68 rfl rfl ?_
              refine r_iload_n dX4_read_69 rfl rfl ?_
              refine r_aload_n dX4_read_70 rfl rfl ?_
              refine r_calli (cl_V [.ref (ga g 178), .int z2, .ref (ga g 2)] bX4_readLine (by decide) dX4_read_71 ml_X4_44 kdc_189 rfl (Nat.le_of_ble_eq_true rfl) rfl) (kX4_readLine _ _) (fun r6 _ => ?_)
              refine r_if_eq dX4_read_74 (fun h => eT h ?_) (fun h => eF h ?_)
              · exact vSub (l' := [.null, .null, .null, .null, .null]) ⟨Or.inl rfl, ⟨Or.inl rfl, ⟨Or.inl rfl, ⟨Or.inl rfl, ⟨Or.inl rfl, trivial⟩⟩⟩⟩⟩ (hK86 _)
              · refine r_aload_n dX4_read_77 rfl rfl ?_
                refine r_bipush bp_59 dX4_read_78 ?_
                refine r_calli (cl_V [.int 59] bX8_takeSign (by decide) dX4_read_80 ml_X4_48 kdc_178 rfl (Nat.le_of_ble_eq_true rfl) rfl) (kX8_takeSign _ _) (fun r7 _ => ?_)
                refine r_if_ne dX4_read_83 (fun h => eF h ?_) (fun h => eT h ?_)
                · refine r_aload_n dX4_read_88 rfl rfl ?_
                  refine r_getR (k' := 190) dX4_read_89 fl_X4_14 kdc_189 rfl ?_
                  refine r_aload_n dX4_read_92 rfl rfl ?_
                  refine r_getI dX4_read_93 fl_X4_52 kdc_189 ?_
                  refine r_aload_n dX4_read_96 rfl rfl ?_
                  refine r_getI dX4_read_97 fl_X4_55 kdc_189 ?_
                  refine r_aload_n dX4_read_100 rfl rfl ?_
                  refine r_getI dX4_read_101 fl_X4_56 kdc_189 ?_
                  refine r_aload_n dX4_read_104 rfl rfl ?_
                  refine r_getI dX4_read_105 fl_X4_59 kdc_189 ?_
                  refine r_callv (cl_V [.int (r7.2 189 1), .int (r7.2 189 2), .int (r7.2 189 3), .int (r7.2 189 4)] bX3_append (by decide) dX4_read_108 ml_X4_62 kdc_190 rfl (Nat.le_of_ble_eq_true rfl) rfl) (kX3_append kdc_190 _ _ _ _ _) (fun M8 _ => ?_)
                  refine r_iinc (l' := [.ref (ga g 189), .ref (ga g 178), .int z2, .ref (ga g 2), .int (y4 + 1)]) dX4_read_111 rfl (inc_1 _) (Nat.le_of_ble_eq_true rfl) rfl rfl ?_
                  refine r_goto dX4_read_114 ?_
                  exact ih _ _
                · exact vSub (l' := [.null, .null, .null, .null, .null]) ⟨Or.inl rfl, ⟨Or.inl rfl, ⟨Or.inl rfl, ⟨Or.inl rfl, ⟨Or.inl rfl, trivial⟩⟩⟩⟩⟩ (hK86 _)
            · refine r_aload_n dX4_read_57 rfl rfl ?_
              refine r_iconst ic_3 dX4_read_58 ?_
              refine r_calli (cl_V [.int 3] bX8_refuse (by decide) dX4_read_59 ml_X4_37 kdc_178 rfl (Nat.le_of_ble_eq_true rfl) rfl) (kX8_refuse _ _) (fun r9 _ => ?_)
              exact vRetZ rfl rfl rfl dX4_read_62
          · refine r_aload_n dX4_read_44 rfl rfl ?_
            refine r_iconst ic_1 dX4_read_45 ?_
            refine r_calli (cl_V [.int 1] bX8_refuse (by decide) dX4_read_46 ml_X4_37 kdc_178 rfl (Nat.le_of_ble_eq_true rfl) rfl) (kX8_refuse _ _) (fun r10 _ => ?_)
            exact vRetZ rfl rfl rfl dX4_read_49
        · refine r_icmp_ne dX4_read_28 (fun h => eF h ?_) (fun h => eT h ?_)
          · refine r_ldcS (i := 18) (List.mem_of_getElem? (i := 18) rfl) dX4_read_36 ?_
            exact hJ2 _ (by decide)
          · refine r_ldcS (i := 17) (List.mem_of_getElem? (i := 17) rfl) dX4_read_31 ?_
            refine r_goto dX4_read_33 ?_
            exact hJ2 _ (by decide)
set_option maxHeartbeats 4000000 in
set_option maxRecDepth 100000 in
theorem vX4_read {g : G}   (p2 : Int32) (M : Mem) : V g uX4_read 10 rvW rmW 0 [.ref (ga g 189), .ref (ga g 178), .int p2, .ref (ga g 2), .null] [] M (fX4_read p2 M) := by
  unfold fX4_read
  refine r_aload_n dX4_read_0 rfl rfl ?_
  refine r_getR (k' := 190) dX4_read_1 fl_X4_14 kdc_189 rfl ?_
  refine r_iconst ic_0 dX4_read_4 ?_
  refine r_put dX4_read_5 fw_X4_20 kdc_190 (fun M1 => ?_)
  refine r_iconst ic_0 dX4_read_8 ?_
  refine r_istore (l' := [.ref (ga g 189), .ref (ga g 178), .int p2, .ref (ga g 2), .int 0]) dX4_read_9 (Nat.le_of_ble_eq_true rfl) rfl rfl ?_
  refine vX4_read_L11 _ _ _ (fun M11 => ?_) (fun M12 => ?_) FU _ _
  · refine r_iconst ic_1 dX4_read_117 ?_
    exact vRet rfl rfl rfl dX4_read_118
  · refine r_iconst ic_0 dX4_read_86 ?_
    exact vRet rfl rfl rfl dX4_read_87
theorem kX4_read {g : G}   (p2 : Int32) (M : Mem) : CtrI g uX4_read 10 (fun r => r.1) rmW [.ref (ga g 189), .ref (ga g 178), .int p2, .ref (ga g 2)] M (fX4_read p2 M) := CtrI.of mX4_read rfl (Nat.le_of_ble_eq_true rfl) rfl (vX4_read p2 M)
set_option maxHeartbeats 4000000 in
set_option maxRecDepth 100000 in
theorem vX0_linesOf {g : G}   (p1 : Int32) (M : Mem) : V g uX0_linesOf 1 (rvN g) (rmP M) 0 [.ref (ga g 1), .int p1] [] M (fX0_linesOf p1 M) := by
  unfold fX0_linesOf
  refine r_iload_n dX0_linesOf_0 rfl rfl ?_
  refine r_iconst ic_1 dX0_linesOf_1 ?_
  refine r_icmp_ne dX0_linesOf_2 (fun h => eF h ?_) (fun h => eT h ?_)
  · refine r_iload_n dX0_linesOf_10 rfl rfl ?_
    refine r_iconst ic_2 dX0_linesOf_11 ?_
    refine r_icmp_ne dX0_linesOf_12 (fun h => eF h ?_) (fun h => eT h ?_)
    · refine r_aload_n dX0_linesOf_22 rfl rfl ?_
      refine r_getR (k' := 35) dX0_linesOf_23 fl_X0_40 kdc_1 rfl ?_
      exact vRet rfl rfl trivial dX0_linesOf_26
    · refine r_aload_n dX0_linesOf_15 rfl rfl ?_
      refine r_getR (k' := 30) dX0_linesOf_16 fl_X0_37 kdc_1 rfl ?_
      refine r_goto dX0_linesOf_19 ?_
      exact vRet rfl rfl trivial dX0_linesOf_26
  · refine r_aload_n dX0_linesOf_5 rfl rfl ?_
    refine r_getR (k' := 25) dX0_linesOf_6 fl_X0_34 kdc_1 rfl ?_
    exact vRet rfl rfl trivial dX0_linesOf_9
theorem kX0_linesOf {g : G}   (p1 : Int32) (M : Mem) : CtrR g uX0_linesOf 1 (fun r => r) (rmP M) [.ref (ga g 1), .int p1] M (fX0_linesOf p1 M) := CtrR.of mX0_linesOf rfl (Nat.le_of_ble_eq_true rfl) rfl (vX0_linesOf p1 M)
set_option maxHeartbeats 4000000 in
set_option maxRecDepth 100000 in
theorem vX3_copyFrom {g : G} {k0 : Nat} {k1 : Nat} (hk0 : kd k0 = (3, 6)) (hk1 : kd k1 = (3, 6))  (M : Mem) : V g uX3_copyFrom 2 rvU rmU 0 [.ref (ga g k0), .ref (ga g k1)] [] M (fX3_copyFrom k0 k1 M) := by
  unfold fX3_copyFrom
  refine r_aload_n dX3_copyFrom_0 rfl rfl ?_
  refine r_aload_n dX3_copyFrom_1 rfl rfl ?_
  refine r_getI dX3_copyFrom_2 fl_X3_13 hk0 ?_
  refine r_aload_n dX3_copyFrom_5 rfl rfl ?_
  refine r_getI dX3_copyFrom_6 fl_X3_32 hk1 ?_
  refine r_min (by decide) (Nat.le_of_ble_eq_true rfl) ml_X3_35 jmin_1 j_math jmin_2 dX3_copyFrom_9 ?_
  refine r_put dX3_copyFrom_12 fw_X3_32 hk0 (fun M1 => ?_)
  refine r_aload_n dX3_copyFrom_15 rfl rfl ?_
  refine r_getR (k' := (k1 + 1)) dX3_copyFrom_16 fl_X3_19 hk1 rfl ?_
  refine r_iconst ic_0 dX3_copyFrom_19 ?_
  refine r_aload_n dX3_copyFrom_20 rfl rfl ?_
  refine r_getR (k' := (k0 + 1)) dX3_copyFrom_21 fl_X3_19 hk0 rfl ?_
  refine r_iconst ic_0 dX3_copyFrom_24 ?_
  refine r_aload_n dX3_copyFrom_25 rfl rfl ?_
  refine r_getI dX3_copyFrom_26 fl_X3_32 hk0 ?_
  refine r_cpy (by decide) (Nat.le_of_ble_eq_true rfl) ml_X3_38 j_cp1 j_cp2 j_cp3 dX3_copyFrom_29 (kx_3_1 hk1) (kx_3_1 hk0) (fun M2 => ?_)
  refine r_aload_n dX3_copyFrom_32 rfl rfl ?_
  refine r_getR (k' := (k1 + 2)) dX3_copyFrom_33 fl_X3_23 hk1 rfl ?_
  refine r_iconst ic_0 dX3_copyFrom_36 ?_
  refine r_aload_n dX3_copyFrom_37 rfl rfl ?_
  refine r_getR (k' := (k0 + 2)) dX3_copyFrom_38 fl_X3_23 hk0 rfl ?_
  refine r_iconst ic_0 dX3_copyFrom_41 ?_
  refine r_aload_n dX3_copyFrom_42 rfl rfl ?_
  refine r_getI dX3_copyFrom_43 fl_X3_32 hk0 ?_
  refine r_cpy (by decide) (Nat.le_of_ble_eq_true rfl) ml_X3_38 j_cp1 j_cp2 j_cp3 dX3_copyFrom_46 (kx_3_2 hk1) (kx_3_2 hk0) (fun M3 => ?_)
  refine r_aload_n dX3_copyFrom_49 rfl rfl ?_
  refine r_getR (k' := (k1 + 3)) dX3_copyFrom_50 fl_X3_26 hk1 rfl ?_
  refine r_iconst ic_0 dX3_copyFrom_53 ?_
  refine r_aload_n dX3_copyFrom_54 rfl rfl ?_
  refine r_getR (k' := (k0 + 3)) dX3_copyFrom_55 fl_X3_26 hk0 rfl ?_
  refine r_iconst ic_0 dX3_copyFrom_58 ?_
  refine r_aload_n dX3_copyFrom_59 rfl rfl ?_
  refine r_getI dX3_copyFrom_60 fl_X3_32 hk0 ?_
  refine r_cpy (by decide) (Nat.le_of_ble_eq_true rfl) ml_X3_38 j_cp1 j_cp2 j_cp3 dX3_copyFrom_63 (kx_3_3 hk1) (kx_3_3 hk0) (fun M4 => ?_)
  refine r_aload_n dX3_copyFrom_66 rfl rfl ?_
  refine r_getR (k' := (k1 + 4)) dX3_copyFrom_67 fl_X3_29 hk1 rfl ?_
  refine r_iconst ic_0 dX3_copyFrom_70 ?_
  refine r_aload_n dX3_copyFrom_71 rfl rfl ?_
  refine r_getR (k' := (k0 + 4)) dX3_copyFrom_72 fl_X3_29 hk0 rfl ?_
  refine r_iconst ic_0 dX3_copyFrom_75 ?_
  refine r_aload_n dX3_copyFrom_76 rfl rfl ?_
  refine r_getI dX3_copyFrom_77 fl_X3_32 hk0 ?_
  refine r_cpy (by decide) (Nat.le_of_ble_eq_true rfl) ml_X3_38 j_cp1 j_cp2 j_cp3 dX3_copyFrom_80 (kx_3_4 hk1) (kx_3_4 hk0) (fun M5 => ?_)
  exact vRet rfl rfl trivial dX3_copyFrom_83
theorem kX3_copyFrom {g : G} {k0 : Nat} {k1 : Nat} (hk0 : kd k0 = (3, 6)) (hk1 : kd k1 = (3, 6))  (M : Mem) : CtrV g uX3_copyFrom 2 rmU [.ref (ga g k0), .ref (ga g k1)] M (fX3_copyFrom k0 k1 M) := CtrV.of mX3_copyFrom rfl (Nat.le_of_ble_eq_true rfl) rfl (vX3_copyFrom hk0 hk1 M)
set_option maxHeartbeats 4000000 in
set_option maxRecDepth 100000 in
theorem vX11_text {g : G}   (p1 : Int32) (M : Mem) : V g uX11_text 42 rvW rmW 0 [.ref (ga g 0), .int p1, .null, .null] [] M (fX11_text p1 M) := by
  unfold fX11_text
  refine r_aload_n dX11_text_0 rfl rfl ?_
  refine r_getR (k' := 178) dX11_text_1 fl_X11_36 kdc_0 rfl ?_
  refine r_callv (cl_V [] bX8_begin (by decide) dX11_text_4 ml_X11_156 kdc_178 rfl (Nat.le_of_ble_eq_true rfl) rfl) (kX8_begin _) (fun M1 _ => ?_)
  refine r_iconst ic_m1 dX11_text_7 ?_
  refine r_istore_n (l' := [.ref (ga g 0), .int p1, .int (-1), .null]) dX11_text_8 rfl (Nat.le_of_ble_eq_true rfl) rfl rfl ?_
  refine r_iload_n dX11_text_9 rfl rfl ?_
  refine eJ (fun (J2 : (Int32) → (Mem) → Option (Int32 × Mem)) => ∀ (a3 : Int32) (M4 : Mem), V g uX11_text 42 rvW rmW 55 [.ref (ga g 0), .int p1, .int a3, .null] [] M4 (J2 a3 M4)) (fun a3 M4 => ?_) (fun J2 hJ2 => ?_)
  · refine r_iload_n dX11_text_55 rfl rfl ?_
    refine r_iconst ic_1 dX11_text_56 ?_
    refine r_iconst ic_3 dX11_text_57 ?_
    refine r_calliT (cl_S [.int p1, .int 1, .int 3] bX11_isWithin (by decide) dX11_text_58 ml_X11_71 rfl (Nat.le_of_ble_eq_true rfl) rfl) (kX11_isWithin _ _ _ _) ?_
    refine eJ (fun (J5 : (Int32) → (Mem) → Option (Int32 × Mem)) => ∀ (a6 : Int32) (M7 : Mem), V g uX11_text 42 rvW rmW 111 [.ref (ga g 0), .int p1, .int a6, .null] [] M7 (J5 a6 M7)) (fun a6 M7 => ?_) (fun J5 hJ5 => ?_)
    · refine r_aload_n dX11_text_111 rfl rfl ?_
      refine r_getR (k' := 178) dX11_text_112 fl_X11_36 kdc_0 rfl ?_
      refine r_iconst ic_0 dX11_text_115 ?_
      refine r_put dX11_text_116 fw_X11_150 kdc_178 (fun M8 => ?_)
      refine r_iload_n dX11_text_119 rfl rfl ?_
      refine r_iconst ic_m1 dX11_text_120 ?_
      refine r_icmp_eq dX11_text_121 (fun h => eT h ?_) (fun h => eF h ?_)
      · refine r_iload_n dX11_text_141 rfl rfl ?_
        exact vRet rfl rfl rfl dX11_text_142
      · refine r_iload_n dX11_text_124 rfl rfl ?_
        refine r_iconst ic_1 dX11_text_125 ?_
        refine eJ (fun (J9 : Option (Int32 × Mem)) => V g uX11_text 42 rvW rmW 134 [.ref (ga g 0), .null, .int a6, .null] [] M8 (J9)) ( ?_) (fun J9 hJ9 => ?_)
        · refine r_aload_n dX11_text_134 rfl rfl ?_
          refine r_getR (k' := 105) dX11_text_135 fl_X11_22 kdc_0 rfl ?_
          refine r_callv (cl_V [] bX6_forget (by decide) dX11_text_138 ml_X11_68 kdc_105 rfl (Nat.le_of_ble_eq_true rfl) rfl) (kX6_forget _) (fun M10 _ => ?_)
          refine r_iload_n dX11_text_141 rfl rfl ?_
          exact vRet rfl rfl rfl dX11_text_142
        · refine r_icmp_eq dX11_text_126 (fun h => eT h ?_) (fun h => eF h ?_)
          · exact vSub (l' := [.ref (ga g 0), .null, .int a6, .null]) ⟨Or.inr rfl, ⟨Or.inl rfl, ⟨Or.inr rfl, ⟨Or.inl rfl, trivial⟩⟩⟩⟩ (hJ9 )
          · refine r_iload_n dX11_text_129 rfl rfl ?_
            refine r_iconst ic_2 dX11_text_130 ?_
            refine r_icmp_ne dX11_text_131 (fun h => eF h ?_) (fun h => eT h ?_)
            · refine r_iload_n dX11_text_141 rfl rfl ?_
              exact vRet rfl rfl rfl dX11_text_142
            · exact vSub (l' := [.ref (ga g 0), .null, .int a6, .null]) ⟨Or.inr rfl, ⟨Or.inl rfl, ⟨Or.inr rfl, ⟨Or.inl rfl, trivial⟩⟩⟩⟩ (hJ9 )
    · refine r_if_eq dX11_text_61 (fun h => eT h ?_) (fun h => eF h ?_)
      · exact hJ5 _ _
      · refine r_aload_n dX11_text_64 rfl rfl ?_
        refine r_getR (k' := 189) dX11_text_65 fl_X11_50 kdc_0 rfl ?_
        refine r_aload_n dX11_text_68 rfl rfl ?_
        refine r_getR (k' := 178) dX11_text_69 fl_X11_36 kdc_0 rfl ?_
        refine r_iload_n dX11_text_72 rfl rfl ?_
        refine r_aload_n dX11_text_73 rfl rfl ?_
        refine r_getR (k' := 1) dX11_text_74 fl_X11_12 kdc_0 rfl ?_
        refine r_getR (k' := 2) dX11_text_77 fl_X11_61 kdc_1 rfl ?_
        refine r_calli (cl_V [.ref (ga g 178), .int p1, .ref (ga g 2)] bX4_read (by decide) dX11_text_80 ml_X11_175 kdc_189 rfl (Nat.le_of_ble_eq_true rfl) rfl) (kX4_read _ _) (fun r11 _ => ?_)
        refine r_if_eq dX11_text_83 (fun h => eT h ?_) (fun h => eF h ?_)
        · exact hJ5 _ _
        · refine r_aload_n dX11_text_86 rfl rfl ?_
          refine r_getR (k' := 1) dX11_text_87 fl_X11_12 kdc_0 rfl ?_
          refine r_iload_n dX11_text_90 rfl rfl ?_
          refine r_callr (cl_V [.int p1] bX0_linesOf (by decide) dX11_text_91 ml_X11_178 kdc_1 rfl (Nat.le_of_ble_eq_true rfl) rfl) (kX0_linesOf _ _) (fun q12 _ => ?_)
          refine eK (fun hq12 => ?_)
          refine r_astore_n (l' := [.ref (ga g 0), .int p1, .int a3, .ref (ga g q12)]) dX11_text_94 rfl (Nat.le_of_ble_eq_true rfl) rfl rfl ?_
          refine r_aload_n dX11_text_95 rfl rfl ?_
          refine r_aload_n dX11_text_96 rfl rfl ?_
          refine r_getR (k' := 189) dX11_text_97 fl_X11_50 kdc_0 rfl ?_
          refine r_getR (k' := 190) dX11_text_100 fl_X11_182 kdc_189 rfl ?_
          refine r_callv (cl_V [.ref (ga g 190)] bX3_copyFrom (by decide) dX11_text_103 ml_X11_185 hq12 rfl (Nat.le_of_ble_eq_true rfl) rfl) (kX3_copyFrom hq12 kdc_190 _) (fun M13 _ => ?_)
          refine r_aload_n dX11_text_106 rfl rfl ?_
          refine r_getI dX11_text_107 fl_X11_120 hq12 ?_
          refine r_bndi (fun x14 => ?_)
          refine r_istore_n (l' := [.ref (ga g 0), .int p1, .int x14, .ref (ga g q12)]) dX11_text_110 rfl (Nat.le_of_ble_eq_true rfl) rfl rfl ?_
          exact vSub (l' := [.ref (ga g 0), .int p1, .int x14, .null]) ⟨Or.inr rfl, ⟨Or.inr rfl, ⟨Or.inr rfl, ⟨Or.inl rfl, trivial⟩⟩⟩⟩ (hJ5 _ _)
  · refine r_if_ne dX11_text_10 (fun h => eF h ?_) (fun h => eT h ?_)
    · exact hJ2 _ _
    · refine r_aload_n dX11_text_13 rfl rfl ?_
      refine r_getR (k' := 180) dX11_text_14 fl_X11_43 kdc_0 rfl ?_
      refine r_aload_n dX11_text_17 rfl rfl ?_
      refine r_getR (k' := 178) dX11_text_18 fl_X11_36 kdc_0 rfl ?_
      refine r_calli (cl_V [.ref (ga g 178)] bX2_read (by decide) dX11_text_21 ml_X11_159 kdc_180 rfl (Nat.le_of_ble_eq_true rfl) rfl) (kX2_read _) (fun r15 _ => ?_)
      refine r_if_eq dX11_text_24 (fun h => eT h ?_) (fun h => eF h ?_)
      · exact hJ2 _ _
      · refine r_aload_n dX11_text_27 rfl rfl ?_
        refine r_getR (k' := 1) dX11_text_28 fl_X11_12 kdc_0 rfl ?_
        refine r_getR (k' := 17) dX11_text_31 fl_X11_163 kdc_1 rfl ?_
        refine r_aload_n dX11_text_34 rfl rfl ?_
        refine r_getR (k' := 180) dX11_text_35 fl_X11_43 kdc_0 rfl ?_
        refine r_getR (k' := 181) dX11_text_38 fl_X11_167 kdc_180 rfl ?_
        refine r_callv (cl_V [.ref (ga g 181)] bX1_copyFrom (by decide) dX11_text_41 ml_X11_168 kdc_17 rfl (Nat.le_of_ble_eq_true rfl) rfl) (kX1_copyFrom kdc_17 kdc_181 _) (fun M16 _ => ?_)
        refine r_aload_n dX11_text_44 rfl rfl ?_
        refine r_getR (k' := 1) dX11_text_45 fl_X11_12 kdc_0 rfl ?_
        refine r_getR (k' := 17) dX11_text_48 fl_X11_163 kdc_1 rfl ?_
        refine r_getI dX11_text_51 fl_X11_174 kdc_17 ?_
        refine r_bndi (fun x17 => ?_)
        refine r_istore_n (l' := [.ref (ga g 0), .int p1, .int x17, .null]) dX11_text_54 rfl (Nat.le_of_ble_eq_true rfl) rfl rfl ?_
        exact hJ2 _ _
theorem kX11_text {g : G}   (p1 : Int32) (M : Mem) : CtrI g uX11_text 42 (fun r => r.1) rmW [.ref (ga g 0), .int p1] M (fX11_text p1 M) := CtrI.of mX11_text rfl (Nat.le_of_ble_eq_true rfl) rfl (vX11_text p1 M)
set_option maxHeartbeats 4000000 in
set_option maxRecDepth 100000 in
theorem vX12_raw {g : G}   (p1 : Int32) (M : Mem) : V g uX12_raw 1 rvI (rmP M) 0 [.ref (ga g 198), .int p1] [] M (fX12_raw p1 M) := by
  unfold fX12_raw
  refine r_iload_n dX12_raw_0 rfl rfl ?_
  refine r_aload_n dX12_raw_1 rfl rfl ?_
  refine r_getI dX12_raw_2 fl_X12_151 kdc_198 ?_
  refine r_icmp_ge dX12_raw_5 (fun h => eT h ?_) (fun h => eF h ?_)
  · refine r_iconst ic_m1 dX12_raw_17 ?_
    exact vRet rfl rfl rfl dX12_raw_18
  · refine r_aload_n dX12_raw_8 rfl rfl ?_
    refine r_getR (k' := 206) dX12_raw_9 fl_X12_31 kdc_198 rfl ?_
    refine r_iload_n dX12_raw_12 rfl rfl ?_
    refine r_iald dX12_raw_13 kdc_206 (fun v1 => ?_)
    refine r_goto dX12_raw_14 ?_
    exact vRet rfl rfl rfl dX12_raw_18
theorem kX12_raw {g : G}   (p1 : Int32) (M : Mem) : CtrI g uX12_raw 1 (fun r => r) (rmP M) [.ref (ga g 198), .int p1] M (fX12_raw p1 M) := CtrI.of mX12_raw rfl (Nat.le_of_ble_eq_true rfl) rfl (vX12_raw p1 M)
set_option maxHeartbeats 4000000 in
set_option maxRecDepth 100000 in
theorem vX12_isLetter {g : G}   (p1 : Int32) (M : Mem) : V g uX12_isLetter 2 rvI (rmP M) 0 [.ref (ga g 198), .int p1] [] M (some (fX12_isLetter p1)) := by
  unfold fX12_isLetter
  refine r_aload_n dX12_isLetter_0 rfl rfl ?_
  refine r_iload_n dX12_isLetter_1 rfl rfl ?_
  refine r_bipush bp_97 dX12_isLetter_2 ?_
  refine r_bipush bp_122 dX12_isLetter_4 ?_
  refine r_calliT (cl_V [.int p1, .int 97, .int 122] bX12_isIn (by decide) dX12_isLetter_6 ml_X12_140 kdc_198 rfl (Nat.le_of_ble_eq_true rfl) rfl) (kX12_isIn _ _ _ _) ?_
  refine r_if_ne dX12_isLetter_9 (fun h => eFT h ?_) (fun h => eTT h ?_)
  · refine r_iconst ic_1 dX12_isLetter_24 ?_
    refine r_goto dX12_isLetter_25 ?_
    exact vRet rfl rfl rfl dX12_isLetter_29
  · refine r_aload_n dX12_isLetter_12 rfl rfl ?_
    refine r_iload_n dX12_isLetter_13 rfl rfl ?_
    refine r_bipush bp_65 dX12_isLetter_14 ?_
    refine r_bipush bp_90 dX12_isLetter_16 ?_
    refine r_calliT (cl_V [.int p1, .int 65, .int 90] bX12_isIn (by decide) dX12_isLetter_18 ml_X12_140 kdc_198 rfl (Nat.le_of_ble_eq_true rfl) rfl) (kX12_isIn _ _ _ _) ?_
    refine r_if_eq dX12_isLetter_21 (fun h => eTT h ?_) (fun h => eFT h ?_)
    · refine r_iconst ic_0 dX12_isLetter_28 ?_
      exact vRet rfl rfl rfl dX12_isLetter_29
    · refine r_iconst ic_1 dX12_isLetter_24 ?_
      refine r_goto dX12_isLetter_25 ?_
      exact vRet rfl rfl rfl dX12_isLetter_29
theorem zX12_isLetter (p1 : Int32) : fX12_isLetter p1 = 0 ∨ fX12_isLetter p1 = 1 := by
  unfold fX12_isLetter
  repeat' split
  all_goals first | exact Or.inl rfl | exact Or.inr rfl | apply zX12_isIn
theorem kX12_isLetter {g : G}   (p1 : Int32) (M : Mem) : CtrI g uX12_isLetter 2 (fun r => r) (rmP M) [.ref (ga g 198), .int p1] M (some (fX12_isLetter p1)) := CtrI.of mX12_isLetter rfl (Nat.le_of_ble_eq_true rfl) rfl (vX12_isLetter p1 M)
set_option maxHeartbeats 4000000 in
set_option maxRecDepth 100000 in
theorem vX12_wordAt_L19 {g : G}  (K60 : Int32 → Option (Int32)) (z1 : Int32) (z2 : Int32) (z4 : Int32) (c3 : Int32) (M : Mem)  (hK60 : ∀ (e5 : Int32), V g uX12_wordAt 1 rvI (rmP M) 60 [.ref (ga g 198), .int z1, .int z2, .int c3, .int z4, .int e5] [] M (K60 e5)) : ∀ (n : Nat) (y5 : Int32), V g uX12_wordAt 1 rvI (rmP M) 19 [.ref (ga g 198), .int z1, .int z2, .int c3, .int z4, .int y5] [] M (fX12_wordAt_L19 K60 z1 z2 z4 M n y5) := by
  intro n
  induction n with
  | zero => intro y5; exact vNone
  | succ n ih =>
    intro y5
    rw [fX12_wordAt_L19]
    refine r_iload_n dX12_wordAt_19 rfl rfl ?_
    refine r_iload dX12_wordAt_20 rfl ?_
    refine r_iadd dX12_wordAt_22 ?_
    refine r_iload_n dX12_wordAt_23 rfl rfl ?_
    refine r_icmp_ge dX12_wordAt_24 (fun h => eT h ?_) (fun h => eF h ?_)
    · exact hK60 _
    · refine r_aload_n dX12_wordAt_27 rfl rfl ?_
      refine r_getR (k' := 207) dX12_wordAt_28 fl_X12_34 kdc_198 rfl ?_
      refine r_iload dX12_wordAt_31 rfl ?_
      refine r_iconst ic_1 dX12_wordAt_33 ?_
      refine r_iadd dX12_wordAt_34 ?_
      refine r_iload dX12_wordAt_35 rfl ?_
      refine r_iadd dX12_wordAt_37 ?_
      refine r_iald dX12_wordAt_38 kdc_207 (fun v2 => ?_)
      refine r_aload_n dX12_wordAt_39 rfl rfl ?_
      refine r_getR (k' := 206) dX12_wordAt_40 fl_X12_31 kdc_198 rfl ?_
      refine r_iload_n dX12_wordAt_43 rfl rfl ?_
      refine r_iload dX12_wordAt_44 rfl ?_
      refine r_iadd dX12_wordAt_46 ?_
      refine r_iald dX12_wordAt_47 kdc_206 (fun v3 => ?_)
      refine r_icmp_ne dX12_wordAt_48 (fun h => eF h ?_) (fun h => eT h ?_)
      · exact hK60 _
      · refine r_iload dX12_wordAt_51 rfl ?_
        refine r_iconst ic_1 dX12_wordAt_53 ?_
        refine r_iadd dX12_wordAt_54 ?_
        refine r_bndi (fun x4 => ?_)
        refine r_istore (l' := [.ref (ga g 198), .int z1, .int z2, .int c3, .int z4, .int x4]) dX12_wordAt_55 (Nat.le_of_ble_eq_true rfl) rfl rfl ?_
        refine r_goto dX12_wordAt_57 ?_
        exact ih _
set_option maxHeartbeats 4000000 in
set_option maxRecDepth 100000 in
theorem vX12_wordAt_L93 {g : G}  (K114 : Int32 → Option (Int32))  (c1 : Int32) (c2 : Int32) (c3 : Int32) (M : Mem)  (hK114 : ∀ (e4 : Int32), V g uX12_wordAt 1 rvI (rmP M) 114 [.ref (ga g 198), .int c1, .int c2, .int c3, .int e4, .null] [] M (K114 e4)) : ∀ (n : Nat) (y4 : Int32), V g uX12_wordAt 1 rvI (rmP M) 93 [.ref (ga g 198), .int c1, .int c2, .int c3, .int y4, .null] [] M (fX12_wordAt_L93 K114 M n y4) := by
  intro n
  induction n with
  | zero => intro y4; exact vNone
  | succ n ih =>
    intro y4
    rw [fX12_wordAt_L93]
    refine r_aload_n dX12_wordAt_93 rfl rfl ?_
    refine r_getR (k' := 207) dX12_wordAt_94 fl_X12_34 kdc_198 rfl ?_
    refine r_iload dX12_wordAt_97 rfl ?_
    refine r_iald dX12_wordAt_99 kdc_207 (fun v8 => ?_)
    refine r_bipush bp_32 dX12_wordAt_100 ?_
    refine r_icmp_eq dX12_wordAt_102 (fun h => eT h ?_) (fun h => eF h ?_)
    · exact hK114 _
    · refine r_iload dX12_wordAt_105 rfl ?_
      refine r_iconst ic_1 dX12_wordAt_107 ?_
      refine r_iadd dX12_wordAt_108 ?_
      refine r_bndi (fun x9 => ?_)
      refine r_istore (l' := [.ref (ga g 198), .int c1, .int c2, .int c3, .int x9, .null]) dX12_wordAt_109 (Nat.le_of_ble_eq_true rfl) rfl rfl ?_
      refine r_goto dX12_wordAt_111 ?_
      exact ih _
set_option maxHeartbeats 4000000 in
set_option maxRecDepth 100000 in
theorem vX12_wordAt_L5 {g : G}   (z1 : Int32) (z2 : Int32)  (M : Mem)   : ∀ (n : Nat) (y3 : Int32) (y4 : Int32), V g uX12_wordAt 1 rvI (rmP M) 5 [.ref (ga g 198), .int z1, .int z2, .int y3, .int y4, .null] [] M (fX12_wordAt_L5 z1 z2 M n y3 y4) := by
  intro n
  induction n with
  | zero => intro y3 y4; exact vNone
  | succ n ih =>
    intro y3 y4
    rw [fX12_wordAt_L5]
    refine r_iload dX12_wordAt_5 rfl ?_
    refine r_bipush bp_117 dX12_wordAt_7 ?_
    refine r_icmp_ge dX12_wordAt_9 (fun h => eT h ?_) (fun h => eF h ?_)
    · refine r_iconst ic_m1 dX12_wordAt_117 ?_
      exact vRet rfl rfl rfl dX12_wordAt_118
    · refine r_iconst ic_0 dX12_wordAt_12 ?_
      refine r_istore (l' := [.ref (ga g 198), .int z1, .int z2, .int y3, .int y4, .int 0]) dX12_wordAt_13 (Nat.le_of_ble_eq_true rfl) rfl rfl ?_
      refine r_iload_n dX12_wordAt_15 rfl rfl ?_
      refine r_iconst ic_1 dX12_wordAt_16 ?_
      refine r_iadd dX12_wordAt_17 ?_
      refine r_bndi (fun x1 => ?_)
      refine r_istore_n (l' := [.ref (ga g 198), .int z1, .int z2, .int x1, .int y4, .int 0]) dX12_wordAt_18 rfl (Nat.le_of_ble_eq_true rfl) rfl rfl ?_
      refine vX12_wordAt_L19 _ _ _ _ _ _ (fun e5 => ?_) FU _
      · refine r_iload_n dX12_wordAt_60 rfl rfl ?_
        refine r_iload dX12_wordAt_61 rfl ?_
        refine r_iadd dX12_wordAt_63 ?_
        refine r_iload_n dX12_wordAt_64 rfl rfl ?_
        refine eJ (fun (J6 : Option (Int32)) => V g uX12_wordAt 1 rvI (rmP M) 87 [.ref (ga g 198), .int z1, .int z2, .int x1, .int y4, .null] [] M (J6)) ( ?_) (fun J6 hJ6 => ?_)
        · refine r_iload dX12_wordAt_87 rfl ?_
          refine r_iconst ic_1 dX12_wordAt_89 ?_
          refine r_iadd dX12_wordAt_90 ?_
          refine r_bndi (fun x7 => ?_)
          refine r_istore (l' := [.ref (ga g 198), .int z1, .int z2, .int x1, .int x7, .null]) dX12_wordAt_91 (Nat.le_of_ble_eq_true rfl) rfl rfl ?_
          refine vX12_wordAt_L93 _ _ _ _ _ (fun e10 => ?_) FU _
          · refine r_goto dX12_wordAt_114 ?_
            exact ih _ _
        · refine r_icmp_ne dX12_wordAt_65 (fun h => eF h ?_) (fun h => eT h ?_)
          · exact vSub (l' := [.ref (ga g 198), .int z1, .int z2, .int x1, .int y4, .null]) ⟨Or.inr rfl, ⟨Or.inr rfl, ⟨Or.inr rfl, ⟨Or.inr rfl, ⟨Or.inr rfl, ⟨Or.inl rfl, trivial⟩⟩⟩⟩⟩⟩ (hJ6 )
          · refine r_aload_n dX12_wordAt_68 rfl rfl ?_
            refine r_getR (k' := 207) dX12_wordAt_69 fl_X12_34 kdc_198 rfl ?_
            refine r_iload dX12_wordAt_72 rfl ?_
            refine r_iconst ic_1 dX12_wordAt_74 ?_
            refine r_iadd dX12_wordAt_75 ?_
            refine r_iload dX12_wordAt_76 rfl ?_
            refine r_iadd dX12_wordAt_78 ?_
            refine r_iald dX12_wordAt_79 kdc_207 (fun v11 => ?_)
            refine r_bipush bp_32 dX12_wordAt_80 ?_
            refine r_icmp_ne dX12_wordAt_82 (fun h => eF h ?_) (fun h => eT h ?_)
            · exact vSub (l' := [.ref (ga g 198), .int z1, .int z2, .int x1, .int y4, .null]) ⟨Or.inr rfl, ⟨Or.inr rfl, ⟨Or.inr rfl, ⟨Or.inr rfl, ⟨Or.inr rfl, ⟨Or.inl rfl, trivial⟩⟩⟩⟩⟩⟩ (hJ6 )
            · refine r_iload_n dX12_wordAt_85 rfl rfl ?_
              exact vRet rfl rfl rfl dX12_wordAt_86
set_option maxHeartbeats 4000000 in
set_option maxRecDepth 100000 in
theorem vX12_wordAt {g : G}   (p1 : Int32) (p2 : Int32) (M : Mem) : V g uX12_wordAt 1 rvI (rmP M) 0 [.ref (ga g 198), .int p1, .int p2, .null, .null, .null] [] M (fX12_wordAt p1 p2 M) := by
  unfold fX12_wordAt
  refine r_iconst ic_m1 dX12_wordAt_0 ?_
  refine r_istore_n (l' := [.ref (ga g 198), .int p1, .int p2, .int (-1), .null, .null]) dX12_wordAt_1 rfl (Nat.le_of_ble_eq_true rfl) rfl rfl ?_
  refine r_iconst ic_0 dX12_wordAt_2 ?_
  refine r_istore (l' := [.ref (ga g 198), .int p1, .int p2, .int (-1), .int 0, .null]) dX12_wordAt_3 (Nat.le_of_ble_eq_true rfl) rfl rfl ?_
  refine vX12_wordAt_L5 _ _ _ FU _ _
theorem kX12_wordAt {g : G}   (p1 : Int32) (p2 : Int32) (M : Mem) : CtrI g uX12_wordAt 1 (fun r => r) (rmP M) [.ref (ga g 198), .int p1, .int p2] M (fX12_wordAt p1 p2 M) := CtrI.of mX12_wordAt rfl (Nat.le_of_ble_eq_true rfl) rfl (vX12_wordAt p1 p2 M)
set_option maxHeartbeats 4000000 in
set_option maxRecDepth 100000 in
theorem vX12_isDigit {g : G}   (p1 : Int32) (M : Mem) : V g uX12_isDigit 2 rvI (rmP M) 0 [.ref (ga g 198), .int p1] [] M (some (fX12_isDigit p1)) := by
  unfold fX12_isDigit
  refine r_aload_n dX12_isDigit_0 rfl rfl ?_
  refine r_iload_n dX12_isDigit_1 rfl rfl ?_
  refine r_bipush bp_48 dX12_isDigit_2 ?_
  refine r_bipush bp_57 dX12_isDigit_4 ?_
  refine r_calliT (cl_V [.int p1, .int 48, .int 57] bX12_isIn (by decide) dX12_isDigit_6 ml_X12_140 kdc_198 rfl (Nat.le_of_ble_eq_true rfl) rfl) (kX12_isIn _ _ _ _) ?_
  exact vRetB rfl rfl rfl (zX12_isIn _ _ _) dX12_isDigit_9
theorem zX12_isDigit (p1 : Int32) : fX12_isDigit p1 = 0 ∨ fX12_isDigit p1 = 1 := by
  unfold fX12_isDigit
  repeat' split
  all_goals first | exact Or.inl rfl | exact Or.inr rfl | apply zX12_isIn
theorem kX12_isDigit {g : G}   (p1 : Int32) (M : Mem) : CtrI g uX12_isDigit 2 (fun r => r) (rmP M) [.ref (ga g 198), .int p1] M (some (fX12_isDigit p1)) := CtrI.of mX12_isDigit rfl (Nat.le_of_ble_eq_true rfl) rfl (vX12_isDigit p1 M)
set_option maxHeartbeats 4000000 in
set_option maxRecDepth 100000 in
theorem vX12_isMarkSign {g : G}   (p1 : Int32) (M : Mem) : V g uX12_isMarkSign 1 rvI (rmP M) 0 [.ref (ga g 198), .int p1] [] M (some (fX12_isMarkSign p1)) := by
  unfold fX12_isMarkSign
  refine r_iload_n dX12_isMarkSign_0 rfl rfl ?_
  refine r_bipush bp_59 dX12_isMarkSign_1 ?_
  refine r_icmp_eq dX12_isMarkSign_3 (fun h => eTT h ?_) (fun h => eFT h ?_)
  · refine r_iconst ic_1 dX12_isMarkSign_60 ?_
    refine r_goto dX12_isMarkSign_61 ?_
    exact vRet rfl rfl rfl dX12_isMarkSign_65
  · refine r_iload_n dX12_isMarkSign_6 rfl rfl ?_
    refine r_bipush bp_43 dX12_isMarkSign_7 ?_
    refine r_icmp_eq dX12_isMarkSign_9 (fun h => eTT h ?_) (fun h => eFT h ?_)
    · refine r_iconst ic_1 dX12_isMarkSign_60 ?_
      refine r_goto dX12_isMarkSign_61 ?_
      exact vRet rfl rfl rfl dX12_isMarkSign_65
    · refine r_iload_n dX12_isMarkSign_12 rfl rfl ?_
      refine r_bipush bp_45 dX12_isMarkSign_13 ?_
      refine r_icmp_eq dX12_isMarkSign_15 (fun h => eTT h ?_) (fun h => eFT h ?_)
      · refine r_iconst ic_1 dX12_isMarkSign_60 ?_
        refine r_goto dX12_isMarkSign_61 ?_
        exact vRet rfl rfl rfl dX12_isMarkSign_65
      · refine r_iload_n dX12_isMarkSign_18 rfl rfl ?_
        refine r_bipush bp_42 dX12_isMarkSign_19 ?_
        refine r_icmp_eq dX12_isMarkSign_21 (fun h => eTT h ?_) (fun h => eFT h ?_)
        · refine r_iconst ic_1 dX12_isMarkSign_60 ?_
          refine r_goto dX12_isMarkSign_61 ?_
          exact vRet rfl rfl rfl dX12_isMarkSign_65
        · refine r_iload_n dX12_isMarkSign_24 rfl rfl ?_
          refine r_bipush bp_47 dX12_isMarkSign_25 ?_
          refine r_icmp_eq dX12_isMarkSign_27 (fun h => eTT h ?_) (fun h => eFT h ?_)
          · refine r_iconst ic_1 dX12_isMarkSign_60 ?_
            refine r_goto dX12_isMarkSign_61 ?_
            exact vRet rfl rfl rfl dX12_isMarkSign_65
          · refine r_iload_n dX12_isMarkSign_30 rfl rfl ?_
            refine r_bipush bp_40 dX12_isMarkSign_31 ?_
            refine r_icmp_eq dX12_isMarkSign_33 (fun h => eTT h ?_) (fun h => eFT h ?_)
            · refine r_iconst ic_1 dX12_isMarkSign_60 ?_
              refine r_goto dX12_isMarkSign_61 ?_
              exact vRet rfl rfl rfl dX12_isMarkSign_65
            · refine r_iload_n dX12_isMarkSign_36 rfl rfl ?_
              refine r_bipush bp_41 dX12_isMarkSign_37 ?_
              refine r_icmp_eq dX12_isMarkSign_39 (fun h => eTT h ?_) (fun h => eFT h ?_)
              · refine r_iconst ic_1 dX12_isMarkSign_60 ?_
                refine r_goto dX12_isMarkSign_61 ?_
                exact vRet rfl rfl rfl dX12_isMarkSign_65
              · refine r_iload_n dX12_isMarkSign_42 rfl rfl ?_
                refine r_bipush bp_60 dX12_isMarkSign_43 ?_
                refine r_icmp_eq dX12_isMarkSign_45 (fun h => eTT h ?_) (fun h => eFT h ?_)
                · refine r_iconst ic_1 dX12_isMarkSign_60 ?_
                  refine r_goto dX12_isMarkSign_61 ?_
                  exact vRet rfl rfl rfl dX12_isMarkSign_65
                · refine r_iload_n dX12_isMarkSign_48 rfl rfl ?_
                  refine r_bipush bp_61 dX12_isMarkSign_49 ?_
                  refine r_icmp_eq dX12_isMarkSign_51 (fun h => eTT h ?_) (fun h => eFT h ?_)
                  · refine r_iconst ic_1 dX12_isMarkSign_60 ?_
                    refine r_goto dX12_isMarkSign_61 ?_
                    exact vRet rfl rfl rfl dX12_isMarkSign_65
                  · refine r_iload_n dX12_isMarkSign_54 rfl rfl ?_
                    refine r_bipush bp_62 dX12_isMarkSign_55 ?_
                    refine r_icmp_ne dX12_isMarkSign_57 (fun h => eFT h ?_) (fun h => eTT h ?_)
                    · refine r_iconst ic_0 dX12_isMarkSign_64 ?_
                      exact vRet rfl rfl rfl dX12_isMarkSign_65
                    · refine r_iconst ic_1 dX12_isMarkSign_60 ?_
                      refine r_goto dX12_isMarkSign_61 ?_
                      exact vRet rfl rfl rfl dX12_isMarkSign_65
theorem zX12_isMarkSign (p1 : Int32) : fX12_isMarkSign p1 = 0 ∨ fX12_isMarkSign p1 = 1 := by
  unfold fX12_isMarkSign
  repeat' split
  all_goals first | exact Or.inl rfl | exact Or.inr rfl
theorem kX12_isMarkSign {g : G}   (p1 : Int32) (M : Mem) : CtrI g uX12_isMarkSign 1 (fun r => r) (rmP M) [.ref (ga g 198), .int p1] M (some (fX12_isMarkSign p1)) := CtrI.of mX12_isMarkSign rfl (Nat.le_of_ble_eq_true rfl) rfl (vX12_isMarkSign p1 M)
set_option maxHeartbeats 4000000 in
set_option maxRecDepth 100000 in
theorem vX12_reads_L0 {g : G}  (K39 : Mem → Option (Mem))    (hK39 : ∀ (M : Mem), V g uX12_reads 3 rvU rmU 39 [.ref (ga g 198), .null] [] M (K39 M)) : ∀ (n : Nat) (M : Mem), V g uX12_reads 3 rvU rmU 0 [.ref (ga g 198), .null] [] M (fX12_reads_L0 K39 n M) := by
  intro n
  induction n with
  | zero => intro M; exact vNone
  | succ n ih =>
    intro M
    rw [fX12_reads_L0]
    refine r_aload_n dX12_reads_0 rfl rfl ?_
    refine r_aload_n dX12_reads_1 rfl rfl ?_
    refine r_getI dX12_reads_2 fl_X12_158 kdc_198 ?_
    refine r_calli (cl_V [.int (M 198 14)] bX12_raw (by decide) dX12_reads_5 ml_X12_161 kdc_198 rfl (Nat.le_of_ble_eq_true rfl) rfl) (kX12_raw _ _) (fun v1 _ => ?_)
    refine r_bipush bp_32 dX12_reads_8 ?_
    refine eJ (fun (J2 : Option (Mem)) => V g uX12_reads 3 rvU rmU 26 [.ref (ga g 198), .null] [] M (J2)) ( ?_) (fun J2 hJ2 => ?_)
    · refine r_aload_n dX12_reads_26 rfl rfl ?_
      refine r_aload_n dX12_reads_27 rfl rfl ?_
      refine r_getI dX12_reads_28 fl_X12_158 kdc_198 ?_
      refine r_iconst ic_1 dX12_reads_31 ?_
      refine r_iadd dX12_reads_32 ?_
      refine r_put dX12_reads_33 fw_X12_158 kdc_198 (fun M3 => ?_)
      refine r_goto dX12_reads_36 ?_
      exact ih _
    · refine r_icmp_eq dX12_reads_10 (fun h => eT h ?_) (fun h => eF h ?_)
      · exact hJ2
      · refine r_aload_n dX12_reads_13 rfl rfl ?_
        refine r_aload_n dX12_reads_14 rfl rfl ?_
        refine r_getI dX12_reads_15 fl_X12_158 kdc_198 ?_
        refine r_calli (cl_V [.int (M 198 14)] bX12_raw (by decide) dX12_reads_18 ml_X12_161 kdc_198 rfl (Nat.le_of_ble_eq_true rfl) rfl) (kX12_raw _ _) (fun v4 _ => ?_)
        refine r_bipush bp_10 dX12_reads_21 ?_
        refine r_icmp_ne dX12_reads_23 (fun h => eF h ?_) (fun h => eT h ?_)
        · exact hK39 _
        · exact hJ2
set_option maxHeartbeats 4000000 in
set_option maxRecDepth 100000 in
theorem vX12_reads_L171 {g : G}  (K239 : Mem → Option (Mem))    (hK239 : ∀ (M : Mem), V g uX12_reads 3 rvU rmU 239 [.ref (ga g 198), .null] [] M (K239 M)) : ∀ (n : Nat) (M : Mem), V g uX12_reads 3 rvU rmU 171 [.ref (ga g 198), .null] [] M (fX12_reads_L171 K239 n M) := by
  intro n
  induction n with
  | zero => intro M; exact vNone
  | succ n ih =>
    intro M
    rw [fX12_reads_L171]
    refine r_aload_n dX12_reads_171 rfl rfl ?_
    refine r_aload_n dX12_reads_172 rfl rfl ?_
    refine r_aload_n dX12_reads_173 rfl rfl ?_
    refine r_getI dX12_reads_174 fl_X12_158 kdc_198 ?_
    refine r_calli (cl_V [.int (M 198 14)] bX12_raw (by decide) dX12_reads_177 ml_X12_161 kdc_198 rfl (Nat.le_of_ble_eq_true rfl) rfl) (kX12_raw _ _) (fun v13 _ => ?_)
    refine r_calliT (cl_V [.int v13] bX12_isDigit (by decide) dX12_reads_180 ml_X12_181 kdc_198 rfl (Nat.le_of_ble_eq_true rfl) rfl) (kX12_isDigit _ _) ?_
    refine r_if_eq dX12_reads_183 (fun h => eT h ?_) (fun h => eF h ?_)
    · exact hK239 _
    · refine r_aload_n dX12_reads_186 rfl rfl ?_
      refine r_aload_n dX12_reads_187 rfl rfl ?_
      refine r_getI dX12_reads_188 fl_X12_171 kdc_198 ?_
      refine r_sipush sp_10000 dX12_reads_191 ?_
      refine eJ (fun (J14 : (Int32) → Option (Mem)) => ∀ (t15 : Int32), V g uX12_reads 3 rvU rmU 223 [.ref (ga g 198), .null] [.int t15, .ref (ga g 198)] M (J14 t15)) (fun t15 => ?_) (fun J14 hJ14 => ?_)
      · refine r_put dX12_reads_223 fw_X12_171 kdc_198 (fun M16 => ?_)
        refine r_aload_n dX12_reads_226 rfl rfl ?_
        refine r_aload_n dX12_reads_227 rfl rfl ?_
        refine r_getI dX12_reads_228 fl_X12_158 kdc_198 ?_
        refine r_iconst ic_1 dX12_reads_231 ?_
        refine r_iadd dX12_reads_232 ?_
        refine r_put dX12_reads_233 fw_X12_158 kdc_198 (fun M17 => ?_)
        refine r_goto dX12_reads_236 ?_
        exact ih _
      · refine r_icmp_ge dX12_reads_194 (fun h => eT h ?_) (fun h => eF h ?_)
        · refine r_aload_n dX12_reads_219 rfl rfl ?_
          refine r_getI dX12_reads_220 fl_X12_171 kdc_198 ?_
          exact hJ14 _
        · refine r_bipush bp_10 dX12_reads_197 ?_
          refine r_aload_n dX12_reads_199 rfl rfl ?_
          refine r_getI dX12_reads_200 fl_X12_171 kdc_198 ?_
          refine r_imul dX12_reads_203 ?_
          refine r_aload_n dX12_reads_204 rfl rfl ?_
          refine r_aload_n dX12_reads_205 rfl rfl ?_
          refine r_getI dX12_reads_206 fl_X12_158 kdc_198 ?_
          refine r_calli (cl_V [.int (M 198 14)] bX12_raw (by decide) dX12_reads_209 ml_X12_161 kdc_198 rfl (Nat.le_of_ble_eq_true rfl) rfl) (kX12_raw _ _) (fun v18 _ => ?_)
          refine r_iadd dX12_reads_212 ?_
          refine r_bipush bp_48 dX12_reads_213 ?_
          refine r_isub dX12_reads_215 ?_
          refine r_goto dX12_reads_216 ?_
          exact hJ14 _
set_option maxHeartbeats 4000000 in
set_option maxRecDepth 100000 in
theorem vX12_reads_L95 {g : G}  (K123 : Mem → Option (Mem))    (hK123 : ∀ (M : Mem), V g uX12_reads 3 rvU rmU 123 [.ref (ga g 198), .null] [] M (K123 M)) : ∀ (n : Nat) (M : Mem), V g uX12_reads 3 rvU rmU 95 [.ref (ga g 198), .null] [] M (fX12_reads_L95 K123 n M) := by
  intro n
  induction n with
  | zero => intro M; exact vNone
  | succ n ih =>
    intro M
    rw [fX12_reads_L95]
    refine r_aload_n dX12_reads_95 rfl rfl ?_
    refine r_aload_n dX12_reads_96 rfl rfl ?_
    refine r_aload_n dX12_reads_97 rfl rfl ?_
    refine r_getI dX12_reads_98 fl_X12_158 kdc_198 ?_
    refine r_calli (cl_V [.int (M 198 14)] bX12_raw (by decide) dX12_reads_101 ml_X12_161 kdc_198 rfl (Nat.le_of_ble_eq_true rfl) rfl) (kX12_raw _ _) (fun v21 _ => ?_)
    refine r_calliT (cl_V [.int v21] bX12_isLetter (by decide) dX12_reads_104 ml_X12_174 kdc_198 rfl (Nat.le_of_ble_eq_true rfl) rfl) (kX12_isLetter _ _) ?_
    refine r_if_eq dX12_reads_107 (fun h => eT h ?_) (fun h => eF h ?_)
    · exact hK123 _
    · refine r_aload_n dX12_reads_110 rfl rfl ?_
      refine r_aload_n dX12_reads_111 rfl rfl ?_
      refine r_getI dX12_reads_112 fl_X12_158 kdc_198 ?_
      refine r_iconst ic_1 dX12_reads_115 ?_
      refine r_iadd dX12_reads_116 ?_
      refine r_put dX12_reads_117 fw_X12_158 kdc_198 (fun M22 => ?_)
      refine r_goto dX12_reads_120 ?_
      exact ih _
set_option maxHeartbeats 4000000 in
set_option maxRecDepth 100000 in
theorem vX12_reads {g : G}    (M : Mem) : V g uX12_reads 3 rvU rmU 0 [.ref (ga g 198), .null] [] M (fX12_reads M) := by
  unfold fX12_reads
  refine vX12_reads_L0 _ (fun M5 => ?_) FU _
  · refine r_aload_n dX12_reads_39 rfl rfl ?_
    refine r_aload_n dX12_reads_40 rfl rfl ?_
    refine r_getI dX12_reads_41 fl_X12_158 kdc_198 ?_
    refine r_put dX12_reads_44 fw_X12_165 kdc_198 (fun M6 => ?_)
    refine r_aload_n dX12_reads_47 rfl rfl ?_
    refine r_iconst ic_1 dX12_reads_48 ?_
    refine r_put dX12_reads_49 fw_X12_168 kdc_198 (fun M7 => ?_)
    refine r_aload_n dX12_reads_52 rfl rfl ?_
    refine r_aload_n dX12_reads_53 rfl rfl ?_
    refine r_getI dX12_reads_54 fl_X12_158 kdc_198 ?_
    refine r_calli (cl_V [.int (M7 198 14)] bX12_raw (by decide) dX12_reads_57 ml_X12_161 kdc_198 rfl (Nat.le_of_ble_eq_true rfl) rfl) (kX12_raw _ _) (fun v8 _ => ?_)
    refine r_istore_n (l' := [.ref (ga g 198), .int v8]) dX12_reads_60 rfl (Nat.le_of_ble_eq_true rfl) rfl rfl ?_
    refine r_iload_n dX12_reads_61 rfl rfl ?_
    refine r_iconst ic_m1 dX12_reads_62 ?_
    refine r_icmp_ne dX12_reads_63 (fun h => eF h ?_) (fun h => eT h ?_)
    · refine r_aload_n dX12_reads_72 rfl rfl ?_
      refine r_aload_n dX12_reads_73 rfl rfl ?_
      refine r_getI dX12_reads_74 fl_X12_158 kdc_198 ?_
      refine r_iconst ic_1 dX12_reads_77 ?_
      refine r_iadd dX12_reads_78 ?_
      refine r_put dX12_reads_79 fw_X12_158 kdc_198 (fun M9 => ?_)
      refine r_aload_n dX12_reads_82 rfl rfl ?_
      refine r_iload_n dX12_reads_83 rfl rfl ?_
      refine r_put dX12_reads_84 fw_X12_171 kdc_198 (fun M10 => ?_)
      refine r_aload_n dX12_reads_87 rfl rfl ?_
      refine r_iload_n dX12_reads_88 rfl rfl ?_
      refine r_calliT (cl_V [.int v8] bX12_isLetter (by decide) dX12_reads_89 ml_X12_174 kdc_198 rfl (Nat.le_of_ble_eq_true rfl) rfl) (kX12_isLetter _ _) ?_
      refine r_if_eq dX12_reads_92 (fun h => eT h ?_) (fun h => eF h ?_)
      · refine r_aload_n dX12_reads_155 rfl rfl ?_
        refine r_iload_n dX12_reads_156 rfl rfl ?_
        refine r_calliT (cl_V [.int v8] bX12_isDigit (by decide) dX12_reads_157 ml_X12_181 kdc_198 rfl (Nat.le_of_ble_eq_true rfl) rfl) (kX12_isDigit _ _) ?_
        refine r_if_eq dX12_reads_160 (fun h => eT h ?_) (fun h => eF h ?_)
        · refine r_aload_n dX12_reads_260 rfl rfl ?_
          refine r_iload_n dX12_reads_261 rfl rfl ?_
          refine r_calliT (cl_V [.int v8] bX12_isMarkSign (by decide) dX12_reads_262 ml_X12_184 kdc_198 rfl (Nat.le_of_ble_eq_true rfl) rfl) (kX12_isMarkSign _ _) ?_
          refine r_if_eq dX12_reads_265 (fun h => eT h ?_) (fun h => eF h ?_)
          · exact vRet rfl rfl trivial dX12_reads_273
          · refine r_aload_n dX12_reads_268 rfl rfl ?_
            refine r_iconst ic_4 dX12_reads_269 ?_
            refine r_put dX12_reads_270 fw_X12_168 kdc_198 (fun M11 => ?_)
            exact vRet rfl rfl trivial dX12_reads_273
        · refine r_aload_n dX12_reads_163 rfl rfl ?_
          refine r_iload_n dX12_reads_164 rfl rfl ?_
          refine r_bipush bp_48 dX12_reads_165 ?_
          refine r_isub dX12_reads_167 ?_
          refine r_put dX12_reads_168 fw_X12_171 kdc_198 (fun M12 => ?_)
          refine vSub (l' := [.ref (ga g 198), .null]) ⟨Or.inr rfl, ⟨Or.inl rfl, trivial⟩⟩ ?_
          refine vX12_reads_L171 _ (fun M19 => ?_) FU _
          · refine r_aload_n dX12_reads_239 rfl rfl ?_
            refine r_getI dX12_reads_240 fl_X12_158 kdc_198 ?_
            refine r_aload_n dX12_reads_243 rfl rfl ?_
            refine r_getI dX12_reads_244 fl_X12_165 kdc_198 ?_
            refine r_isub dX12_reads_247 ?_
            refine r_iconst ic_5 dX12_reads_248 ?_
            refine r_icmp_ge dX12_reads_249 (fun h => eT h ?_) (fun h => eF h ?_)
            · exact vRet rfl rfl trivial dX12_reads_273
            · refine r_aload_n dX12_reads_252 rfl rfl ?_
              refine r_iconst ic_3 dX12_reads_253 ?_
              refine r_put dX12_reads_254 fw_X12_168 kdc_198 (fun M20 => ?_)
              refine r_goto dX12_reads_257 ?_
              exact vRet rfl rfl trivial dX12_reads_273
      · refine vSub (l' := [.ref (ga g 198), .null]) ⟨Or.inr rfl, ⟨Or.inl rfl, trivial⟩⟩ ?_
        refine vX12_reads_L95 _ (fun M23 => ?_) FU _
        · refine r_aload_n dX12_reads_123 rfl rfl ?_
          refine r_aload_n dX12_reads_124 rfl rfl ?_
          refine r_aload_n dX12_reads_125 rfl rfl ?_
          refine r_getI dX12_reads_126 fl_X12_165 kdc_198 ?_
          refine r_aload_n dX12_reads_129 rfl rfl ?_
          refine r_getI dX12_reads_130 fl_X12_158 kdc_198 ?_
          refine r_calli (cl_V [.int (M23 198 15), .int (M23 198 14)] bX12_wordAt (by decide) dX12_reads_133 ml_X12_177 kdc_198 rfl (Nat.le_of_ble_eq_true rfl) rfl) (kX12_wordAt _ _ _) (fun v24 _ => ?_)
          refine r_put dX12_reads_136 fw_X12_171 kdc_198 (fun M25 => ?_)
          refine r_aload_n dX12_reads_139 rfl rfl ?_
          refine r_getI dX12_reads_140 fl_X12_171 kdc_198 ?_
          refine r_iconst ic_m1 dX12_reads_143 ?_
          refine r_icmp_eq dX12_reads_144 (fun h => eT h ?_) (fun h => eF h ?_)
          · exact vRet rfl rfl trivial dX12_reads_273
          · refine r_aload_n dX12_reads_147 rfl rfl ?_
            refine r_iconst ic_2 dX12_reads_148 ?_
            refine r_put dX12_reads_149 fw_X12_168 kdc_198 (fun M26 => ?_)
            refine r_goto dX12_reads_152 ?_
            exact vRet rfl rfl trivial dX12_reads_273
    · refine r_aload_n dX12_reads_66 rfl rfl ?_
      refine r_iconst ic_0 dX12_reads_67 ?_
      refine r_put dX12_reads_68 fw_X12_168 kdc_198 (fun M27 => ?_)
      exact vRet rfl rfl trivial dX12_reads_71
theorem kX12_reads {g : G}    (M : Mem) : CtrV g uX12_reads 3 rmU [.ref (ga g 198)] M (fX12_reads M) := CtrV.of mX12_reads rfl (Nat.le_of_ble_eq_true rfl) rfl (vX12_reads M)
set_option maxHeartbeats 4000000 in
set_option maxRecDepth 100000 in
theorem vX12_isWord {g : G}   (p1 : Int32) (M : Mem) : V g uX12_isWord 1 rvI (rmP M) 0 [.ref (ga g 198), .int p1] [] M (some (fX12_isWord p1 M)) := by
  unfold fX12_isWord
  refine r_aload_n dX12_isWord_0 rfl rfl ?_
  refine r_getI dX12_isWord_1 fl_X12_168 kdc_198 ?_
  refine r_iconst ic_2 dX12_isWord_4 ?_
  refine r_icmp_ne dX12_isWord_5 (fun h => eFT h ?_) (fun h => eTT h ?_)
  · refine r_iconst ic_0 dX12_isWord_20 ?_
    exact vRet rfl rfl rfl dX12_isWord_21
  · refine r_aload_n dX12_isWord_8 rfl rfl ?_
    refine r_getI dX12_isWord_9 fl_X12_171 kdc_198 ?_
    refine r_iload_n dX12_isWord_12 rfl rfl ?_
    refine r_icmp_ne dX12_isWord_13 (fun h => eFT h ?_) (fun h => eTT h ?_)
    · refine r_iconst ic_0 dX12_isWord_20 ?_
      exact vRet rfl rfl rfl dX12_isWord_21
    · refine r_iconst ic_1 dX12_isWord_16 ?_
      refine r_goto dX12_isWord_17 ?_
      exact vRet rfl rfl rfl dX12_isWord_21
theorem zX12_isWord (p1 : Int32) (M : Mem) : fX12_isWord p1 M = 0 ∨ fX12_isWord p1 M = 1 := by
  unfold fX12_isWord
  repeat' split
  all_goals first | exact Or.inl rfl | exact Or.inr rfl
theorem kX12_isWord {g : G}   (p1 : Int32) (M : Mem) : CtrI g uX12_isWord 1 (fun r => r) (rmP M) [.ref (ga g 198), .int p1] M (some (fX12_isWord p1 M)) := CtrI.of mX12_isWord rfl (Nat.le_of_ble_eq_true rfl) rfl (vX12_isWord p1 M)
