set_option maxHeartbeats 4000000 in
set_option maxRecDepth 100000 in
theorem vX12_twoOf {g : G}   (p1 : Int32) (p2 : Int32) (p3 : Int32) (M : Mem) : V g uX12_twoOf 1 rvI (rmP M) 0 [.ref (ga g 198), .int p1, .int p2, .int p3] [] M (fX12_twoOf p1 p2 p3) := by
  unfold fX12_twoOf
  refine r_iload_n dX12_twoOf_0 rfl rfl ?_
  refine r_iconst ic_2 dX12_twoOf_1 ?_
  refine r_icmp_ne dX12_twoOf_2 (fun h => eF h ?_) (fun h => eT h ?_)
  · refine r_iload_n dX12_twoOf_9 rfl rfl ?_
    refine r_iconst ic_3 dX12_twoOf_10 ?_
    refine r_icmp_ne dX12_twoOf_11 (fun h => eF h ?_) (fun h => eT h ?_)
    · refine r_iload_n dX12_twoOf_18 rfl rfl ?_
      refine r_iconst ic_4 dX12_twoOf_19 ?_
      refine r_icmp_ne dX12_twoOf_20 (fun h => eF h ?_) (fun h => eT h ?_)
      · refine r_iload_n dX12_twoOf_27 rfl rfl ?_
        refine r_iconst ic_5 dX12_twoOf_28 ?_
        refine r_icmp_ne dX12_twoOf_29 (fun h => eF h ?_) (fun h => eT h ?_)
        · refine r_iload_n dX12_twoOf_36 rfl rfl ?_
          refine r_bipush bp_6 dX12_twoOf_37 ?_
          refine r_icmp_ne dX12_twoOf_39 (fun h => eF h ?_) (fun h => eT h ?_)
          · refine r_iload_n dX12_twoOf_53 rfl rfl ?_
            refine r_bipush bp_7 dX12_twoOf_54 ?_
            refine r_icmp_ne dX12_twoOf_56 (fun h => eF h ?_) (fun h => eT h ?_)
            · refine r_iload_n dX12_twoOf_70 rfl rfl ?_
              refine r_bipush bp_8 dX12_twoOf_71 ?_
              refine r_icmp_ne dX12_twoOf_73 (fun h => eF h ?_) (fun h => eT h ?_)
              · refine r_iload_n dX12_twoOf_87 rfl rfl ?_
                refine r_bipush bp_10 dX12_twoOf_88 ?_
                refine r_icmp_ne dX12_twoOf_90 (fun h => eF h ?_) (fun h => eT h ?_)
                · refine r_iload_n dX12_twoOf_99 rfl rfl ?_
                  refine r_iload_n dX12_twoOf_100 rfl rfl ?_
                  refine r_iadd dX12_twoOf_101 ?_
                  refine r_if_le dX12_twoOf_102 (fun h => eT h ?_) (fun h => eF h ?_)
                  · refine r_iconst ic_0 dX12_twoOf_109 ?_
                    exact vRet rfl rfl rfl dX12_twoOf_110
                  · refine r_iconst ic_1 dX12_twoOf_105 ?_
                    refine r_goto dX12_twoOf_106 ?_
                    exact vRet rfl rfl rfl dX12_twoOf_110
                · refine r_iload_n dX12_twoOf_93 rfl rfl ?_
                  refine r_iload_n dX12_twoOf_94 rfl rfl ?_
                  refine r_imul dX12_twoOf_95 ?_
                  refine r_goto dX12_twoOf_96 ?_
                  exact vRet rfl rfl rfl dX12_twoOf_110
              · refine r_iload_n dX12_twoOf_76 rfl rfl ?_
                refine r_iload_n dX12_twoOf_77 rfl rfl ?_
                refine r_icmp_le dX12_twoOf_78 (fun h => eT h ?_) (fun h => eF h ?_)
                · refine r_iconst ic_0 dX12_twoOf_85 ?_
                  exact vRet rfl rfl rfl dX12_twoOf_86
                · refine r_iconst ic_1 dX12_twoOf_81 ?_
                  refine r_goto dX12_twoOf_82 ?_
                  exact vRet rfl rfl rfl dX12_twoOf_86
            · refine r_iload_n dX12_twoOf_59 rfl rfl ?_
              refine r_iload_n dX12_twoOf_60 rfl rfl ?_
              refine r_icmp_ne dX12_twoOf_61 (fun h => eF h ?_) (fun h => eT h ?_)
              · refine r_iconst ic_0 dX12_twoOf_68 ?_
                exact vRet rfl rfl rfl dX12_twoOf_69
              · refine r_iconst ic_1 dX12_twoOf_64 ?_
                refine r_goto dX12_twoOf_65 ?_
                exact vRet rfl rfl rfl dX12_twoOf_69
          · refine r_iload_n dX12_twoOf_42 rfl rfl ?_
            refine r_iload_n dX12_twoOf_43 rfl rfl ?_
            refine r_icmp_ge dX12_twoOf_44 (fun h => eT h ?_) (fun h => eF h ?_)
            · refine r_iconst ic_0 dX12_twoOf_51 ?_
              exact vRet rfl rfl rfl dX12_twoOf_52
            · refine r_iconst ic_1 dX12_twoOf_47 ?_
              refine r_goto dX12_twoOf_48 ?_
              exact vRet rfl rfl rfl dX12_twoOf_52
        · refine r_iload_n dX12_twoOf_32 rfl rfl ?_
          refine r_iload_n dX12_twoOf_33 rfl rfl ?_
          refine r_idivG dX12_twoOf_34 ?_
          exact vRet rfl rfl rfl dX12_twoOf_35
      · refine r_iload_n dX12_twoOf_23 rfl rfl ?_
        refine r_iload_n dX12_twoOf_24 rfl rfl ?_
        refine r_imul dX12_twoOf_25 ?_
        exact vRet rfl rfl rfl dX12_twoOf_26
    · refine r_iload_n dX12_twoOf_14 rfl rfl ?_
      refine r_iload_n dX12_twoOf_15 rfl rfl ?_
      refine r_isub dX12_twoOf_16 ?_
      exact vRet rfl rfl rfl dX12_twoOf_17
  · refine r_iload_n dX12_twoOf_5 rfl rfl ?_
    refine r_iload_n dX12_twoOf_6 rfl rfl ?_
    refine r_iadd dX12_twoOf_7 ?_
    exact vRet rfl rfl rfl dX12_twoOf_8
theorem kX12_twoOf {g : G}   (p1 : Int32) (p2 : Int32) (p3 : Int32) (M : Mem) : CtrI g uX12_twoOf 1 (fun r => r) (rmP M) [.ref (ga g 198), .int p1, .int p2, .int p3] M (fX12_twoOf p1 p2 p3) := CtrI.of mX12_twoOf rfl (Nat.le_of_ble_eq_true rfl) rfl (vX12_twoOf p1 p2 p3 M)
set_option maxHeartbeats 4000000 in
set_option maxRecDepth 100000 in
theorem vX12_runs_L12 {g : G}   (z1 : Int32) (z3 : Int32)    : ∀ (n : Nat) (y4 : Int32) (y5 : Int32) (M : Mem), V g uX12_runs 2 rvW rmW 12 [.ref (ga g 198), .int z1, .null, .int z3, .int y4, .int y5] [] M (fX12_runs_L12 z1 z3 n y4 y5 M) := by
  intro n
  induction n with
  | zero => intro y4 y5 M; exact vNone
  | succ n ih =>
    intro y4 y5 M
    rw [fX12_runs_L12]
    refine r_iload dX12_runs_12 rfl ?_
    refine r_sipush sp_400 dX12_runs_14 ?_
    refine r_iload_n dX12_runs_17 rfl rfl ?_
    refine r_imul dX12_runs_18 ?_
    refine r_iload_n dX12_runs_19 rfl rfl ?_
    refine r_iadd dX12_runs_20 ?_
    refine r_icmp_ge dX12_runs_21 (fun h => eT h ?_) (fun h => eF h ?_)
    · refine r_aload_n dX12_runs_176 rfl rfl ?_
      refine r_getR (k' := 220) dX12_runs_177 fl_X12_77 kdc_198 rfl ?_
      refine r_iconst ic_0 dX12_runs_180 ?_
      refine r_iald dX12_runs_181 kdc_220 (fun v2 => ?_)
      exact vRet rfl rfl rfl dX12_runs_182
    · refine r_aload_n dX12_runs_24 rfl rfl ?_
      refine r_getR (k' := 213) dX12_runs_25 fl_X12_52 kdc_198 rfl ?_
      refine r_iload dX12_runs_28 rfl ?_
      refine r_iald dX12_runs_30 kdc_213 (fun v3 => ?_)
      refine eJ (fun (J4 : (Int32) → (Mem) → Option (Int32 × Mem)) => ∀ (a5 : Int32) (M6 : Mem), V g uX12_runs 2 rvW rmW 170 [.ref (ga g 198), .int z1, .null, .int z3, .int a5, .int y5] [] M6 (J4 a5 M6)) (fun a5 M6 => ?_) (fun J4 hJ4 => ?_)
      · refine r_iinc (l' := [.ref (ga g 198), .int z1, .null, .int z3, .int a5, .int (y5 + 1)]) dX12_runs_170 rfl (inc_1 _) (Nat.le_of_ble_eq_true rfl) rfl rfl ?_
        refine r_goto dX12_runs_173 ?_
        exact ih _ _ _
      · refine eJ (fun (J7 : Option (Int32 × Mem)) => V g uX12_runs 2 rvW rmW 45 [.ref (ga g 198), .int z1, .null, .int z3, .int y4, .int y5] [] M (J7)) ( ?_) (fun J7 hJ7 => ?_)
        · refine r_aload_n dX12_runs_45 rfl rfl ?_
          refine r_getR (k' := 220) dX12_runs_46 fl_X12_77 kdc_198 rfl ?_
          refine r_iload dX12_runs_49 rfl ?_
          refine r_aload_n dX12_runs_51 rfl rfl ?_
          refine r_getR (k' := 213) dX12_runs_52 fl_X12_52 kdc_198 rfl ?_
          refine r_iload dX12_runs_55 rfl ?_
          refine r_iald dX12_runs_57 kdc_213 (fun v8 => ?_)
          refine eJ (fun (J9 : (Int32) → Option (Int32 × Mem)) => ∀ (t10 : Int32), V g uX12_runs 2 rvW rmW 83 [.ref (ga g 198), .int z1, .null, .int z3, .int y4, .int y5] [.int t10, .int y4, .ref (ga g 220)] M (J9 t10)) (fun t10 => ?_) (fun J9 hJ9 => ?_)
          · refine r_iast dX12_runs_83 kdc_220 (fun M11 => ?_)
            refine r_iload dX12_runs_84 rfl ?_
            refine r_iconst ic_1 dX12_runs_86 ?_
            refine r_iadd dX12_runs_87 ?_
            refine r_bndi (fun x12 => ?_)
            refine r_istore (l' := [.ref (ga g 198), .int z1, .null, .int z3, .int x12, .int y5]) dX12_runs_88 (Nat.le_of_ble_eq_true rfl) rfl rfl ?_
            refine r_goto dX12_runs_90 ?_
            exact hJ4 _ _
          · refine r_if_ne dX12_runs_58 (fun h => eF h ?_) (fun h => eT h ?_)
            · refine r_aload_n dX12_runs_71 rfl rfl ?_
              refine r_getR (k' := 219) dX12_runs_72 fl_X12_74 kdc_198 rfl ?_
              refine r_aload_n dX12_runs_75 rfl rfl ?_
              refine r_getR (k' := 214) dX12_runs_76 fl_X12_55 kdc_198 rfl ?_
              refine r_iload dX12_runs_79 rfl ?_
              refine r_iald dX12_runs_81 kdc_214 (fun v13 => ?_)
              refine r_iald dX12_runs_82 kdc_219 (fun v14 => ?_)
              exact hJ9 _
            · refine r_aload_n dX12_runs_61 rfl rfl ?_
              refine r_getR (k' := 214) dX12_runs_62 fl_X12_55 kdc_198 rfl ?_
              refine r_iload dX12_runs_65 rfl ?_
              refine r_iald dX12_runs_67 kdc_214 (fun v15 => ?_)
              refine r_goto dX12_runs_68 ?_
              exact hJ9 _
        · refine r_if_eq dX12_runs_31 (fun h => eT h ?_) (fun h => eF h ?_)
          · exact hJ7
          · refine r_aload_n dX12_runs_34 rfl rfl ?_
            refine r_getR (k' := 213) dX12_runs_35 fl_X12_52 kdc_198 rfl ?_
            refine r_iload dX12_runs_38 rfl ?_
            refine r_iald dX12_runs_40 kdc_213 (fun v16 => ?_)
            refine r_iconst ic_1 dX12_runs_41 ?_
            refine r_icmp_ne dX12_runs_42 (fun h => eF h ?_) (fun h => eT h ?_)
            · refine r_aload_n dX12_runs_93 rfl rfl ?_
              refine r_getR (k' := 213) dX12_runs_94 fl_X12_52 kdc_198 rfl ?_
              refine r_iload dX12_runs_97 rfl ?_
              refine r_iald dX12_runs_99 kdc_213 (fun v17 => ?_)
              refine r_bipush bp_9 dX12_runs_100 ?_
              refine r_icmp_ne dX12_runs_102 (fun h => eF h ?_) (fun h => eT h ?_)
              · refine r_iload dX12_runs_128 rfl ?_
                refine r_iconst ic_1 dX12_runs_130 ?_
                refine r_isub dX12_runs_131 ?_
                refine r_bndi (fun x18 => ?_)
                refine r_istore (l' := [.ref (ga g 198), .int z1, .null, .int z3, .int x18, .int y5]) dX12_runs_132 (Nat.le_of_ble_eq_true rfl) rfl rfl ?_
                refine r_aload_n dX12_runs_134 rfl rfl ?_
                refine r_getR (k' := 220) dX12_runs_135 fl_X12_77 kdc_198 rfl ?_
                refine r_iload dX12_runs_138 rfl ?_
                refine r_iconst ic_1 dX12_runs_140 ?_
                refine r_isub dX12_runs_141 ?_
                refine r_aload_n dX12_runs_142 rfl rfl ?_
                refine r_aload_n dX12_runs_143 rfl rfl ?_
                refine r_getR (k' := 213) dX12_runs_144 fl_X12_52 kdc_198 rfl ?_
                refine r_iload dX12_runs_147 rfl ?_
                refine r_iald dX12_runs_149 kdc_213 (fun v19 => ?_)
                refine r_aload_n dX12_runs_150 rfl rfl ?_
                refine r_getR (k' := 220) dX12_runs_151 fl_X12_77 kdc_198 rfl ?_
                refine r_iload dX12_runs_154 rfl ?_
                refine r_iconst ic_1 dX12_runs_156 ?_
                refine r_isub dX12_runs_157 ?_
                refine r_iald dX12_runs_158 kdc_220 (fun v20 => ?_)
                refine r_aload_n dX12_runs_159 rfl rfl ?_
                refine r_getR (k' := 220) dX12_runs_160 fl_X12_77 kdc_198 rfl ?_
                refine r_iload dX12_runs_163 rfl ?_
                refine r_iald dX12_runs_165 kdc_220 (fun v21 => ?_)
                refine r_calli (cl_V [.int v19, .int v20, .int v21] bX12_twoOf (by decide) dX12_runs_166 ml_X12_305 kdc_198 rfl (Nat.le_of_ble_eq_true rfl) rfl) (kX12_twoOf _ _ _ _) (fun v22 _ => ?_)
                refine r_iast dX12_runs_169 kdc_220 (fun M23 => ?_)
                exact hJ4 _ _
              · refine r_aload_n dX12_runs_105 rfl rfl ?_
                refine r_getR (k' := 220) dX12_runs_106 fl_X12_77 kdc_198 rfl ?_
                refine r_iload dX12_runs_109 rfl ?_
                refine r_iconst ic_1 dX12_runs_111 ?_
                refine r_isub dX12_runs_112 ?_
                refine r_iconst ic_1 dX12_runs_113 ?_
                refine r_aload_n dX12_runs_114 rfl rfl ?_
                refine r_getR (k' := 220) dX12_runs_115 fl_X12_77 kdc_198 rfl ?_
                refine r_iload dX12_runs_118 rfl ?_
                refine r_iconst ic_1 dX12_runs_120 ?_
                refine r_isub dX12_runs_121 ?_
                refine r_iald dX12_runs_122 kdc_220 (fun v24 => ?_)
                refine r_isub dX12_runs_123 ?_
                refine r_iast dX12_runs_124 kdc_220 (fun M25 => ?_)
                refine r_goto dX12_runs_125 ?_
                exact hJ4 _ _
            · exact hJ7
set_option maxHeartbeats 4000000 in
set_option maxRecDepth 100000 in
theorem vX12_runs {g : G}   (p1 : Int32) (p2 : Int32) (p3 : Int32) (M : Mem) : V g uX12_runs 2 rvW rmW 0 [.ref (ga g 198), .int p1, .int p2, .int p3, .null, .null] [] M (fX12_runs p1 p2 p3 M) := by
  unfold fX12_runs
  refine r_iconst ic_0 dX12_runs_0 ?_
  refine r_istore (l' := [.ref (ga g 198), .int p1, .int p2, .int p3, .int 0, .null]) dX12_runs_1 (Nat.le_of_ble_eq_true rfl) rfl rfl ?_
  refine r_sipush sp_400 dX12_runs_3 ?_
  refine r_iload_n dX12_runs_6 rfl rfl ?_
  refine r_imul dX12_runs_7 ?_
  refine r_iload_n dX12_runs_8 rfl rfl ?_
  refine r_iadd dX12_runs_9 ?_
  refine r_bndi (fun x1 => ?_)
  refine r_istore (l' := [.ref (ga g 198), .int p1, .int p2, .int p3, .int 0, .int x1]) dX12_runs_10 (Nat.le_of_ble_eq_true rfl) rfl rfl ?_
  refine vSub (l' := [.ref (ga g 198), .int p1, .null, .int p3, .int 0, .int x1]) ⟨Or.inr rfl, ⟨Or.inr rfl, ⟨Or.inl rfl, ⟨Or.inr rfl, ⟨Or.inr rfl, ⟨Or.inr rfl, trivial⟩⟩⟩⟩⟩⟩ ?_
  refine vX12_runs_L12 _ _ FU _ _ _
theorem kX12_runs {g : G}   (p1 : Int32) (p2 : Int32) (p3 : Int32) (M : Mem) : CtrI g uX12_runs 2 (fun r => r.1) rmW [.ref (ga g 198), .int p1, .int p2, .int p3] M (fX12_runs p1 p2 p3 M) := CtrI.of mX12_runs rfl (Nat.le_of_ble_eq_true rfl) rfl (vX12_runs p1 p2 p3 M)
set_option maxHeartbeats 4000000 in
set_option maxRecDepth 100000 in
theorem vX12_lineOf_L2 {g : G}  (K57 : Int32 → Mem → Option (Int32 × Mem)) (z1 : Int32)   (hK57 : ∀ (e2 : Int32) (M : Mem), V g uX12_lineOf 3 rvW rmW 57 [.null, .null, .int e2] [] M (K57 e2 M)) : ∀ (n : Nat) (y2 : Int32) (M : Mem), V g uX12_lineOf 3 rvW rmW 2 [.ref (ga g 198), .int z1, .int y2] [] M (fX12_lineOf_L2 K57 z1 n y2 M) := by
  intro n
  induction n with
  | zero => intro y2 M; exact vNone
  | succ n ih =>
    intro y2 M
    rw [fX12_lineOf_L2]
    refine r_iload_n dX12_lineOf_2 rfl rfl ?_
    refine r_aload_n dX12_lineOf_3 rfl rfl ?_
    refine r_getR (k' := 208) dX12_lineOf_4 fl_X12_37 kdc_198 rfl ?_
    refine r_iconst ic_0 dX12_lineOf_7 ?_
    refine r_iald dX12_lineOf_8 kdc_208 (fun v1 => ?_)
    refine r_icmp_ge dX12_lineOf_9 (fun h => eT h ?_) (fun h => eF h ?_)
    · refine r_iconst ic_m1 dX12_lineOf_65 ?_
      exact vRet rfl rfl rfl dX12_lineOf_66
    · refine r_aload_n dX12_lineOf_12 rfl rfl ?_
      refine r_getR (k' := 209) dX12_lineOf_13 fl_X12_40 kdc_198 rfl ?_
      refine r_iload_n dX12_lineOf_16 rfl rfl ?_
      refine r_iald dX12_lineOf_17 kdc_209 (fun v2 => ?_)
      refine r_iload_n dX12_lineOf_18 rfl rfl ?_
      refine eJ (fun (J3 : (Mem) → Option (Int32 × Mem)) => ∀ (M4 : Mem), V g uX12_lineOf 3 rvW rmW 59 [.ref (ga g 198), .int z1, .int y2] [] M4 (J3 M4)) (fun M4 => ?_) (fun J3 hJ3 => ?_)
      · refine r_iinc (l' := [.ref (ga g 198), .int z1, .int (y2 + 1)]) dX12_lineOf_59 rfl (inc_1 _) (Nat.le_of_ble_eq_true rfl) rfl rfl ?_
        refine r_goto dX12_lineOf_62 ?_
        exact ih _ _
      · refine r_icmp_ne dX12_lineOf_19 (fun h => eF h ?_) (fun h => eT h ?_)
        · exact hJ3 _
        · refine r_aload_n dX12_lineOf_22 rfl rfl ?_
          refine r_getR (k' := 211) dX12_lineOf_23 fl_X12_46 kdc_198 rfl ?_
          refine r_iload_n dX12_lineOf_26 rfl rfl ?_
          refine r_iald dX12_lineOf_27 kdc_211 (fun v5 => ?_)
          refine r_aload_n dX12_lineOf_28 rfl rfl ?_
          refine r_getR (k' := 212) dX12_lineOf_29 fl_X12_49 kdc_198 rfl ?_
          refine r_iload_n dX12_lineOf_32 rfl rfl ?_
          refine r_iald dX12_lineOf_33 kdc_212 (fun v6 => ?_)
          refine r_icmp_eq dX12_lineOf_34 (fun h => eT h ?_) (fun h => eF h ?_)
          · exact vSub (l' := [.null, .null, .int y2]) ⟨Or.inl rfl, ⟨Or.inl rfl, ⟨Or.inr rfl, trivial⟩⟩⟩ (hK57 _ _)
          · refine r_aload_n dX12_lineOf_37 rfl rfl ?_
            refine r_iconst ic_0 dX12_lineOf_38 ?_
            refine r_aload_n dX12_lineOf_39 rfl rfl ?_
            refine r_getR (k' := 211) dX12_lineOf_40 fl_X12_46 kdc_198 rfl ?_
            refine r_iload_n dX12_lineOf_43 rfl rfl ?_
            refine r_iald dX12_lineOf_44 kdc_211 (fun v7 => ?_)
            refine r_aload_n dX12_lineOf_45 rfl rfl ?_
            refine r_getR (k' := 212) dX12_lineOf_46 fl_X12_49 kdc_198 rfl ?_
            refine r_iload_n dX12_lineOf_49 rfl rfl ?_
            refine r_iald dX12_lineOf_50 kdc_212 (fun v8 => ?_)
            refine r_calli (cl_V [.int 0, .int v7, .int v8] bX12_runs (by decide) dX12_lineOf_51 ml_X12_308 kdc_198 rfl (Nat.le_of_ble_eq_true rfl) rfl) (kX12_runs _ _ _ _) (fun r9 _ => ?_)
            refine r_if_eq dX12_lineOf_54 (fun h => eT h ?_) (fun h => eF h ?_)
            · exact hJ3 _
            · exact vSub (l' := [.null, .null, .int y2]) ⟨Or.inl rfl, ⟨Or.inl rfl, ⟨Or.inr rfl, trivial⟩⟩⟩ (hK57 _ _)
set_option maxHeartbeats 4000000 in
set_option maxRecDepth 100000 in
theorem vX12_lineOf {g : G}   (p1 : Int32) (M : Mem) : V g uX12_lineOf 3 rvW rmW 0 [.ref (ga g 198), .int p1, .null] [] M (fX12_lineOf p1 M) := by
  unfold fX12_lineOf
  refine r_iconst ic_0 dX12_lineOf_0 ?_
  refine r_istore_n (l' := [.ref (ga g 198), .int p1, .int 0]) dX12_lineOf_1 rfl (Nat.le_of_ble_eq_true rfl) rfl rfl ?_
  refine vX12_lineOf_L2 _ _ (fun e10 M11 => ?_) FU _ _
  · refine r_iload_n dX12_lineOf_57 rfl rfl ?_
    exact vRet rfl rfl rfl dX12_lineOf_58
theorem kX12_lineOf {g : G}   (p1 : Int32) (M : Mem) : CtrI g uX12_lineOf 3 (fun r => r.1) rmW [.ref (ga g 198), .int p1] M (fX12_lineOf p1 M) := CtrI.of mX12_lineOf rfl (Nat.le_of_ble_eq_true rfl) rfl (vX12_lineOf p1 M)
set_option maxHeartbeats 4000000 in
set_option maxRecDepth 100000 in
theorem vX12_held {g : G}   (p1 : Int32) (p2 : Int32) (p3 : Int32) (M : Mem) : V g uX12_held 1 rvI (rmP M) 0 [.ref (ga g 198), .int p1, .int p2, .int p3] [] M (some (fX12_held p1 p2 p3)) := by
  unfold fX12_held
  refine r_iload_n dX12_held_0 rfl rfl ?_
  refine r_iload_n dX12_held_1 rfl rfl ?_
  refine r_icmp_ge dX12_held_2 (fun h => eTT h ?_) (fun h => eFT h ?_)
  · refine r_iload_n dX12_held_9 rfl rfl ?_
    refine r_iload_n dX12_held_10 rfl rfl ?_
    refine r_icmp_le dX12_held_11 (fun h => eTT h ?_) (fun h => eFT h ?_)
    · refine r_iload_n dX12_held_18 rfl rfl ?_
      exact vRet rfl rfl rfl dX12_held_19
    · refine r_iload_n dX12_held_14 rfl rfl ?_
      refine r_goto dX12_held_15 ?_
      exact vRet rfl rfl rfl dX12_held_19
  · refine r_iload_n dX12_held_5 rfl rfl ?_
    refine r_goto dX12_held_6 ?_
    exact vRet rfl rfl rfl dX12_held_19
theorem kX12_held {g : G}   (p1 : Int32) (p2 : Int32) (p3 : Int32) (M : Mem) : CtrI g uX12_held 1 (fun r => r) (rmP M) [.ref (ga g 198), .int p1, .int p2, .int p3] M (some (fX12_held p1 p2 p3)) := CtrI.of mX12_held rfl (Nat.le_of_ble_eq_true rfl) rfl (vX12_held p1 p2 p3 M)
set_option maxHeartbeats 4000000 in
set_option maxRecDepth 100000 in
theorem vX12_lawTells {g : G}   (p1 : Int32) (p2 : Int32) (p3 : Int32) (M : Mem) : V g uX12_lawTells 4 rvW rmW 0 [.ref (ga g 198), .int p1, .int p2, .int p3, .null] [] M (fX12_lawTells p1 p2 p3 M) := by
  unfold fX12_lawTells
  refine r_aload_n dX12_lawTells_0 rfl rfl ?_
  refine r_iload_n dX12_lawTells_1 rfl rfl ?_
  refine r_calli (cl_V [.int p1] bX12_lineOf (by decide) dX12_lawTells_2 ml_X12_314 kdc_198 rfl (Nat.le_of_ble_eq_true rfl) rfl) (kX12_lineOf _ _) (fun r1 _ => ?_)
  refine r_istore (l' := [.ref (ga g 198), .int p1, .int p2, .int p3, .int r1.1]) dX12_lawTells_5 (Nat.le_of_ble_eq_true rfl) rfl rfl ?_
  refine r_aload_n dX12_lawTells_7 rfl rfl ?_
  refine r_iload dX12_lawTells_8 rfl ?_
  refine r_iconst ic_m1 dX12_lawTells_10 ?_
  refine eJ (fun (J2 : (Int32) → (Mem) → Option (Int32 × Mem)) => ∀ (t3 : Int32) (M4 : Mem), V g uX12_lawTells 4 rvW rmW 37 [.null, .null, .null, .int p3, .null] [.int t3, .ref (ga g 198)] M4 (J2 t3 M4)) (fun t3 M4 => ?_) (fun J2 hJ2 => ?_)
  · refine r_iconst ic_0 dX12_lawTells_37 ?_
    refine r_iload_n dX12_lawTells_38 rfl rfl ?_
    refine r_calliT (cl_V [.int t3, .int 0, .int p3] bX12_held (by decide) dX12_lawTells_39 ml_X12_317 kdc_198 rfl (Nat.le_of_ble_eq_true rfl) rfl) (kX12_held _ _ _ _) ?_
    exact vRet rfl rfl rfl dX12_lawTells_42
  · refine r_icmp_ne dX12_lawTells_11 (fun h => eF h ?_) (fun h => eT h ?_)
    · refine r_aload_n dX12_lawTells_18 rfl rfl ?_
      refine r_iconst ic_0 dX12_lawTells_19 ?_
      refine r_aload_n dX12_lawTells_20 rfl rfl ?_
      refine r_getR (k' := 210) dX12_lawTells_21 fl_X12_43 kdc_198 rfl ?_
      refine r_iload dX12_lawTells_24 rfl ?_
      refine r_iald dX12_lawTells_26 kdc_210 (fun v5 => ?_)
      refine r_aload_n dX12_lawTells_27 rfl rfl ?_
      refine r_getR (k' := 211) dX12_lawTells_28 fl_X12_46 kdc_198 rfl ?_
      refine r_iload dX12_lawTells_31 rfl ?_
      refine r_iald dX12_lawTells_33 kdc_211 (fun v6 => ?_)
      refine r_calli (cl_V [.int 0, .int v5, .int v6] bX12_runs (by decide) dX12_lawTells_34 ml_X12_308 kdc_198 rfl (Nat.le_of_ble_eq_true rfl) rfl) (kX12_runs _ _ _ _) (fun r7 _ => ?_)
      exact vSub (l' := [.null, .null, .null, .int p3, .null]) ⟨Or.inl rfl, ⟨Or.inl rfl, ⟨Or.inl rfl, ⟨Or.inr rfl, ⟨Or.inl rfl, trivial⟩⟩⟩⟩⟩ (hJ2 _ _)
    · refine r_iload_n dX12_lawTells_14 rfl rfl ?_
      refine r_goto dX12_lawTells_15 ?_
      exact vSub (l' := [.null, .null, .null, .int p3, .null]) ⟨Or.inl rfl, ⟨Or.inl rfl, ⟨Or.inl rfl, ⟨Or.inr rfl, ⟨Or.inl rfl, trivial⟩⟩⟩⟩⟩ (hJ2 _ _)
theorem kX12_lawTells {g : G}   (p1 : Int32) (p2 : Int32) (p3 : Int32) (M : Mem) : CtrI g uX12_lawTells 4 (fun r => r.1) rmW [.ref (ga g 198), .int p1, .int p2, .int p3] M (fX12_lawTells p1 p2 p3 M) := CtrI.of mX12_lawTells rfl (Nat.le_of_ble_eq_true rfl) rfl (vX12_lawTells p1 p2 p3 M)
set_option maxHeartbeats 4000000 in
set_option maxRecDepth 100000 in
theorem vX12_landsOn {g : G}   (p1 : Int32) (p2 : Int32) (p3 : Int32) (M : Mem) : V g uX12_landsOn 5 rvW rmW 0 [.ref (ga g 198), .int p1, .int p2, .int p3] [] M (fX12_landsOn p1 p2 p3 M) := by
  unfold fX12_landsOn
  refine r_aload_n dX12_landsOn_0 rfl rfl ?_
  refine r_iload_n dX12_landsOn_1 rfl rfl ?_
  refine r_iload_n dX12_landsOn_2 rfl rfl ?_
  refine r_iload_n dX12_landsOn_3 rfl rfl ?_
  refine r_callv (cl_V [.int p1, .int p2, .int p3] bX12_asks (by decide) dX12_landsOn_4 ml_X12_320 kdc_198 rfl (Nat.le_of_ble_eq_true rfl) rfl) (kX12_asks _ _ _ _) (fun M1 _ => ?_)
  refine r_aload_n dX12_landsOn_7 rfl rfl ?_
  refine r_iconst ic_0 dX12_landsOn_8 ?_
  refine r_sipush sp_700 dX12_landsOn_9 ?_
  refine r_bipush bp_50 dX12_landsOn_12 ?_
  refine r_aload_n dX12_landsOn_14 rfl rfl ?_
  refine r_getR (k' := 219) dX12_landsOn_15 fl_X12_74 kdc_198 rfl ?_
  refine r_iconst ic_0 dX12_landsOn_18 ?_
  refine r_iald dX12_landsOn_19 kdc_219 (fun v2 => ?_)
  refine r_imul dX12_landsOn_20 ?_
  refine r_iadd dX12_landsOn_21 ?_
  refine r_bipush bp_30 dX12_landsOn_22 ?_
  refine r_aload_n dX12_landsOn_24 rfl rfl ?_
  refine r_getR (k' := 219) dX12_landsOn_25 fl_X12_74 kdc_198 rfl ?_
  refine r_iconst ic_4 dX12_landsOn_28 ?_
  refine r_iald dX12_landsOn_29 kdc_219 (fun v3 => ?_)
  refine r_imul dX12_landsOn_30 ?_
  refine r_isub dX12_landsOn_31 ?_
  refine r_sipush sp_1000 dX12_landsOn_32 ?_
  refine r_calli (cl_V [.int 0, .int ((700 + (50 * v2)) - (30 * v3)), .int 1000] bX12_lawTells (by decide) dX12_landsOn_35 ml_X12_324 kdc_198 rfl (Nat.le_of_ble_eq_true rfl) rfl) (kX12_lawTells _ _ _ _) (fun r4 _ => ?_)
  exact vRet rfl rfl rfl dX12_landsOn_38
theorem kX12_landsOn {g : G}   (p1 : Int32) (p2 : Int32) (p3 : Int32) (M : Mem) : CtrI g uX12_landsOn 5 (fun r => r.1) rmW [.ref (ga g 198), .int p1, .int p2, .int p3] M (fX12_landsOn p1 p2 p3 M) := CtrI.of mX12_landsOn rfl (Nat.le_of_ble_eq_true rfl) rfl (vX12_landsOn p1 p2 p3 M)
set_option maxHeartbeats 4000000 in
set_option maxRecDepth 100000 in
theorem vX12_draw {g : G}   (p1 : Int32) (M : Mem) : V g uX12_draw 1 rvW rmW 0 [.ref (ga g 198), .int p1] [] M (fX12_draw p1 M) := by
  unfold fX12_draw
  refine r_aload_n dX12_draw_0 rfl rfl ?_
  refine r_getR (k' := 199) dX12_draw_1 fl_X12_7 kdc_198 rfl ?_
  refine r_iconst ic_1 dX12_draw_4 ?_
  refine r_ldc lc_X12_132 dX12_draw_5 ?_
  refine r_aload_n dX12_draw_7 rfl rfl ?_
  refine r_getR (k' := 199) dX12_draw_8 fl_X12_7 kdc_198 rfl ?_
  refine r_iconst ic_1 dX12_draw_11 ?_
  refine r_iald dX12_draw_12 kdc_199 (fun v1 => ?_)
  refine r_imul dX12_draw_13 ?_
  refine r_ldc lc_X12_133 dX12_draw_14 ?_
  refine r_iadd dX12_draw_16 ?_
  refine r_iast dX12_draw_17 kdc_199 (fun M2 => ?_)
  refine r_aload_n dX12_draw_18 rfl rfl ?_
  refine r_getR (k' := 199) dX12_draw_19 fl_X12_7 kdc_198 rfl ?_
  refine r_iconst ic_1 dX12_draw_22 ?_
  refine r_iald dX12_draw_23 kdc_199 (fun v3 => ?_)
  refine r_bipush bp_8 dX12_draw_24 ?_
  refine r_iushr dX12_draw_26 ?_
  refine r_iload_n dX12_draw_27 rfl rfl ?_
  refine r_iremG dX12_draw_28 ?_
  exact vRet rfl rfl rfl dX12_draw_29
theorem kX12_draw {g : G}   (p1 : Int32) (M : Mem) : CtrI g uX12_draw 1 (fun r => r.1) rmW [.ref (ga g 198), .int p1] M (fX12_draw p1 M) := CtrI.of mX12_draw rfl (Nat.le_of_ble_eq_true rfl) rfl (vX12_draw p1 M)
set_option maxHeartbeats 4000000 in
set_option maxRecDepth 100000 in
theorem vX12_happens {g : G}   (p1 : Int32) (M : Mem) : V g uX12_happens 2 rvW rmW 0 [.ref (ga g 198), .int p1] [] M (fX12_happens p1 M) := by
  unfold fX12_happens
  refine r_aload_n dX12_happens_0 rfl rfl ?_
  refine r_getI dX12_happens_1 fl_X12_128 kdc_198 ?_
  refine r_if_eq dX12_happens_4 (fun h => eT h ?_) (fun h => eF h ?_)
  · refine r_iload_n dX12_happens_24 rfl rfl ?_
    refine r_if_le dX12_happens_25 (fun h => eT h ?_) (fun h => eF h ?_)
    · refine r_iconst ic_0 dX12_happens_43 ?_
      exact vRet rfl rfl rfl dX12_happens_44
    · refine r_aload_n dX12_happens_28 rfl rfl ?_
      refine r_sipush sp_1000 dX12_happens_29 ?_
      refine r_calli (cl_V [.int 1000] bX12_draw (by decide) dX12_happens_32 ml_X12_327 kdc_198 rfl (Nat.le_of_ble_eq_true rfl) rfl) (kX12_draw _ _) (fun r1 _ => ?_)
      refine r_iload_n dX12_happens_35 rfl rfl ?_
      refine r_icmp_ge dX12_happens_36 (fun h => eT h ?_) (fun h => eF h ?_)
      · refine r_iconst ic_0 dX12_happens_43 ?_
        exact vRet rfl rfl rfl dX12_happens_44
      · refine r_iconst ic_1 dX12_happens_39 ?_
        refine r_goto dX12_happens_40 ?_
        exact vRet rfl rfl rfl dX12_happens_44
  · refine r_iconst ic_2 dX12_happens_7 ?_
    refine r_iload_n dX12_happens_8 rfl rfl ?_
    refine r_imul dX12_happens_9 ?_
    refine r_sipush sp_1000 dX12_happens_10 ?_
    refine r_icmp_lt dX12_happens_13 (fun h => eT h ?_) (fun h => eF h ?_)
    · refine r_iconst ic_0 dX12_happens_20 ?_
      refine r_goto dX12_happens_21 ?_
      exact vRet rfl rfl rfl dX12_happens_44
    · refine r_iconst ic_1 dX12_happens_16 ?_
      refine r_goto dX12_happens_17 ?_
      exact vRet rfl rfl rfl dX12_happens_44
theorem kX12_happens {g : G}   (p1 : Int32) (M : Mem) : CtrI g uX12_happens 2 (fun r => r.1) rmW [.ref (ga g 198), .int p1] M (fX12_happens p1 M) := CtrI.of mX12_happens rfl (Nat.le_of_ble_eq_true rfl) rfl (vX12_happens p1 M)
set_option maxHeartbeats 4000000 in
set_option maxRecDepth 100000 in
theorem vX12_costsOn {g : G}   (p1 : Int32) (p2 : Int32) (p3 : Int32) (M : Mem) : V g uX12_costsOn 5 rvW rmW 0 [.ref (ga g 198), .int p1, .int p2, .int p3] [] M (fX12_costsOn p1 p2 p3 M) := by
  unfold fX12_costsOn
  refine r_aload_n dX12_costsOn_0 rfl rfl ?_
  refine r_iload_n dX12_costsOn_1 rfl rfl ?_
  refine r_iload_n dX12_costsOn_2 rfl rfl ?_
  refine r_iload_n dX12_costsOn_3 rfl rfl ?_
  refine r_callv (cl_V [.int p1, .int p2, .int p3] bX12_asks (by decide) dX12_costsOn_4 ml_X12_320 kdc_198 rfl (Nat.le_of_ble_eq_true rfl) rfl) (kX12_asks _ _ _ _) (fun M1 _ => ?_)
  refine r_aload_n dX12_costsOn_7 rfl rfl ?_
  refine r_iconst ic_2 dX12_costsOn_8 ?_
  refine r_iload_n dX12_costsOn_9 rfl rfl ?_
  refine r_bipush bp_9 dX12_costsOn_10 ?_
  refine r_calli (cl_V [.int 2, .int p3, .int 9] bX12_lawTells (by decide) dX12_costsOn_12 ml_X12_324 kdc_198 rfl (Nat.le_of_ble_eq_true rfl) rfl) (kX12_lawTells _ _ _ _) (fun r2 _ => ?_)
  exact vRet rfl rfl rfl dX12_costsOn_15
theorem kX12_costsOn {g : G}   (p1 : Int32) (p2 : Int32) (p3 : Int32) (M : Mem) : CtrI g uX12_costsOn 5 (fun r => r.1) rmW [.ref (ga g 198), .int p1, .int p2, .int p3] M (fX12_costsOn p1 p2 p3 M) := CtrI.of mX12_costsOn rfl (Nat.le_of_ble_eq_true rfl) rfl (vX12_costsOn p1 p2 p3 M)
set_option maxHeartbeats 4000000 in
set_option maxRecDepth 100000 in
theorem vX12_notes {g : G}   (p1 : Int32) (p2 : Int32) (p3 : Int32) (M : Mem) : V g uX12_notes 1 rvU rmU 0 [.ref (ga g 198), .int p1, .int p2, .int p3, .null] [] M (fX12_notes p1 p2 p3 M) := by
  unfold fX12_notes
  refine r_aload_n dX12_notes_0 rfl rfl ?_
  refine r_getI dX12_notes_1 fl_X12_128 kdc_198 ?_
  refine r_if_ne dX12_notes_4 (fun h => eF h ?_) (fun h => eT h ?_)
  · exact vRet rfl rfl trivial dX12_notes_19
  · refine r_aload_n dX12_notes_7 rfl rfl ?_
    refine r_getR (k' := 199) dX12_notes_8 fl_X12_7 kdc_198 rfl ?_
    refine r_iconst ic_2 dX12_notes_11 ?_
    refine r_iald dX12_notes_12 kdc_199 (fun v1 => ?_)
    refine r_sipush sp_150 dX12_notes_13 ?_
    refine r_icmp_ne dX12_notes_16 (fun h => eF h ?_) (fun h => eT h ?_)
    · refine r_iconst ic_4 dX12_notes_20 ?_
      refine r_aload_n dX12_notes_21 rfl rfl ?_
      refine r_getR (k' := 199) dX12_notes_22 fl_X12_7 kdc_198 rfl ?_
      refine r_iconst ic_2 dX12_notes_25 ?_
      refine r_iald dX12_notes_26 kdc_199 (fun v2 => ?_)
      refine r_imul dX12_notes_27 ?_
      refine r_bndi (fun x3 => ?_)
      refine r_istore (l' := [.ref (ga g 198), .int p1, .int p2, .int p3, .int x3]) dX12_notes_28 (Nat.le_of_ble_eq_true rfl) rfl rfl ?_
      refine r_aload_n dX12_notes_30 rfl rfl ?_
      refine r_getR (k' := 205) dX12_notes_31 fl_X12_28 kdc_198 rfl ?_
      refine r_iload dX12_notes_34 rfl ?_
      refine r_aload_n dX12_notes_36 rfl rfl ?_
      refine r_getR (k' := 199) dX12_notes_37 fl_X12_7 kdc_198 rfl ?_
      refine r_iconst ic_0 dX12_notes_40 ?_
      refine r_iald dX12_notes_41 kdc_199 (fun v4 => ?_)
      refine r_iast dX12_notes_42 kdc_205 (fun M5 => ?_)
      refine r_aload_n dX12_notes_43 rfl rfl ?_
      refine r_getR (k' := 205) dX12_notes_44 fl_X12_28 kdc_198 rfl ?_
      refine r_iload dX12_notes_47 rfl ?_
      refine r_iconst ic_1 dX12_notes_49 ?_
      refine r_iadd dX12_notes_50 ?_
      refine r_iload_n dX12_notes_51 rfl rfl ?_
      refine r_iast dX12_notes_52 kdc_205 (fun M6 => ?_)
      refine r_aload_n dX12_notes_53 rfl rfl ?_
      refine r_getR (k' := 205) dX12_notes_54 fl_X12_28 kdc_198 rfl ?_
      refine r_iload dX12_notes_57 rfl ?_
      refine r_iconst ic_2 dX12_notes_59 ?_
      refine r_iadd dX12_notes_60 ?_
      refine r_iload_n dX12_notes_61 rfl rfl ?_
      refine r_iast dX12_notes_62 kdc_205 (fun M7 => ?_)
      refine r_aload_n dX12_notes_63 rfl rfl ?_
      refine r_getR (k' := 205) dX12_notes_64 fl_X12_28 kdc_198 rfl ?_
      refine r_iload dX12_notes_67 rfl ?_
      refine r_iconst ic_3 dX12_notes_69 ?_
      refine r_iadd dX12_notes_70 ?_
      refine r_iload_n dX12_notes_71 rfl rfl ?_
      refine r_iast dX12_notes_72 kdc_205 (fun M8 => ?_)
      refine r_aload_n dX12_notes_73 rfl rfl ?_
      refine r_getR (k' := 199) dX12_notes_74 fl_X12_7 kdc_198 rfl ?_
      refine r_iconst ic_2 dX12_notes_77 ?_
      refine r_aload_n dX12_notes_78 rfl rfl ?_
      refine r_getR (k' := 199) dX12_notes_79 fl_X12_7 kdc_198 rfl ?_
      refine r_iconst ic_2 dX12_notes_82 ?_
      refine r_iald dX12_notes_83 kdc_199 (fun v9 => ?_)
      refine r_iconst ic_1 dX12_notes_84 ?_
      refine r_iadd dX12_notes_85 ?_
      refine r_iast dX12_notes_86 kdc_199 (fun M10 => ?_)
      exact vRet rfl rfl trivial dX12_notes_87
    · exact vRet rfl rfl trivial dX12_notes_19
theorem kX12_notes {g : G}   (p1 : Int32) (p2 : Int32) (p3 : Int32) (M : Mem) : CtrV g uX12_notes 1 rmU [.ref (ga g 198), .int p1, .int p2, .int p3] M (fX12_notes p1 p2 p3 M) := CtrV.of mX12_notes rfl (Nat.le_of_ble_eq_true rfl) rfl (vX12_notes p1 p2 p3 M)
set_option maxHeartbeats 4000000 in
set_option maxRecDepth 100000 in
theorem vX12_hopsOver_L10 {g : G}  (K82 : Mem → Option (Int32 × Mem)) (K39 : Int32 → Mem → Option (Int32 × Mem)) (z1 : Int32) (z3 : Int32) (c2 : Int32)  (hK82 : ∀ (M : Mem), V g uX12_hopsOver 6 rvW rmW 82 [.ref (ga g 198), .int z1, .int c2, .int z3, .null] [] M (K82 M)) (hK39 : ∀ (e4 : Int32) (M : Mem), V g uX12_hopsOver 6 rvW rmW 39 [.ref (ga g 198), .int z1, .null, .int z3, .int e4] [] M (K39 e4 M)) : ∀ (n : Nat) (y4 : Int32) (M : Mem), V g uX12_hopsOver 6 rvW rmW 10 [.ref (ga g 198), .int z1, .int c2, .int z3, .int y4] [] M (fX12_hopsOver_L10 K82 K39 z1 z3 n y4 M) := by
  intro n
  induction n with
  | zero => intro y4 M; exact vNone
  | succ n ih =>
    intro y4 M
    rw [fX12_hopsOver_L10]
    refine r_iload dX12_hopsOver_10 rfl ?_
    refine r_aload_n dX12_hopsOver_12 rfl rfl ?_
    refine r_getR (k' := 204) dX12_hopsOver_13 fl_X12_25 kdc_198 rfl ?_
    refine r_iload_n dX12_hopsOver_16 rfl rfl ?_
    refine r_iald dX12_hopsOver_17 kdc_204 (fun v2 => ?_)
    refine r_icmp_gt dX12_hopsOver_18 (fun h => eT h ?_) (fun h => eF h ?_)
    · exact vSub (l' := [.ref (ga g 198), .int z1, .int c2, .int z3, .null]) ⟨Or.inr rfl, ⟨Or.inr rfl, ⟨Or.inr rfl, ⟨Or.inr rfl, ⟨Or.inl rfl, trivial⟩⟩⟩⟩⟩ (hK82 _)
    · refine r_aload_n dX12_hopsOver_21 rfl rfl ?_
      refine r_aload_n dX12_hopsOver_22 rfl rfl ?_
      refine r_iload_n dX12_hopsOver_23 rfl rfl ?_
      refine r_iload_n dX12_hopsOver_24 rfl rfl ?_
      refine r_iload dX12_hopsOver_25 rfl ?_
      refine r_calli (cl_V [.int z1, .int z3, .int y4] bX12_landsOn (by decide) dX12_hopsOver_27 ml_X12_337 kdc_198 rfl (Nat.le_of_ble_eq_true rfl) rfl) (kX12_landsOn _ _ _ _) (fun r3 _ => ?_)
      refine r_calli (cl_V [.int r3.1] bX12_happens (by decide) dX12_hopsOver_30 ml_X12_340 kdc_198 rfl (Nat.le_of_ble_eq_true rfl) rfl) (kX12_happens _ _) (fun r4 _ => ?_)
      refine r_if_eq dX12_hopsOver_33 (fun h => eT h ?_) (fun h => eF h ?_)
      · exact vSub (l' := [.ref (ga g 198), .int z1, .null, .int z3, .int y4]) ⟨Or.inr rfl, ⟨Or.inr rfl, ⟨Or.inl rfl, ⟨Or.inr rfl, ⟨Or.inr rfl, trivial⟩⟩⟩⟩⟩ (hK39 _ _)
      · refine r_goto dX12_hopsOver_36 ?_
        refine r_iinc (l' := [.ref (ga g 198), .int z1, .int c2, .int z3, .int (y4 + 1)]) dX12_hopsOver_76 rfl (inc_1 _) (Nat.le_of_ble_eq_true rfl) rfl rfl ?_
        refine r_goto dX12_hopsOver_79 ?_
        exact ih _ _
set_option maxHeartbeats 4000000 in
set_option maxRecDepth 100000 in
theorem vX12_hopsOver {g : G}   (p1 : Int32) (p2 : Int32) (M : Mem) : V g uX12_hopsOver 6 rvW rmW 0 [.ref (ga g 198), .int p1, .int p2, .null, .null] [] M (fX12_hopsOver p1 p2 M) := by
  unfold fX12_hopsOver
  refine r_aload_n dX12_hopsOver_0 rfl rfl ?_
  refine r_iload_n dX12_hopsOver_1 rfl rfl ?_
  refine r_iload_n dX12_hopsOver_2 rfl rfl ?_
  refine r_calli (cl_V [.int p1, .int p2] bX12_hopperOf (by decide) dX12_hopsOver_3 ml_X12_334 kdc_198 rfl (Nat.le_of_ble_eq_true rfl) rfl) (kX12_hopperOf _ _ _) (fun v1 _ => ?_)
  refine r_istore_n (l' := [.ref (ga g 198), .int p1, .int p2, .int v1, .null]) dX12_hopsOver_6 rfl (Nat.le_of_ble_eq_true rfl) rfl rfl ?_
  refine r_iconst ic_1 dX12_hopsOver_7 ?_
  refine r_istore (l' := [.ref (ga g 198), .int p1, .int p2, .int v1, .int 1]) dX12_hopsOver_8 (Nat.le_of_ble_eq_true rfl) rfl rfl ?_
  refine vX12_hopsOver_L10 _ _ _ _ _ (fun M5 => ?_) (fun e21 M22 => ?_) FU _ _
  · refine r_aload_n dX12_hopsOver_82 rfl rfl ?_
    refine r_getR (k' := 199) dX12_hopsOver_83 fl_X12_7 kdc_198 rfl ?_
    refine r_bipush bp_55 dX12_hopsOver_86 ?_
    refine r_iload_n dX12_hopsOver_88 rfl rfl ?_
    refine r_iadd dX12_hopsOver_89 ?_
    refine r_aload_n dX12_hopsOver_90 rfl rfl ?_
    refine r_getR (k' := 199) dX12_hopsOver_91 fl_X12_7 kdc_198 rfl ?_
    refine r_bipush bp_55 dX12_hopsOver_94 ?_
    refine r_iload_n dX12_hopsOver_96 rfl rfl ?_
    refine r_iadd dX12_hopsOver_97 ?_
    refine r_iald dX12_hopsOver_98 kdc_199 (fun v6 => ?_)
    refine r_iconst ic_1 dX12_hopsOver_99 ?_
    refine r_iload_n dX12_hopsOver_100 rfl rfl ?_
    refine r_ishl dX12_hopsOver_101 ?_
    refine r_ior dX12_hopsOver_102 ?_
    refine r_iast dX12_hopsOver_103 kdc_199 (fun M7 => ?_)
    refine r_aload_n dX12_hopsOver_104 rfl rfl ?_
    refine r_iconst ic_0 dX12_hopsOver_105 ?_
    refine r_iload_n dX12_hopsOver_106 rfl rfl ?_
    refine r_iload_n dX12_hopsOver_107 rfl rfl ?_
    refine r_callv (cl_V [.int 0, .int p1, .int v1] bX12_notes (by decide) dX12_hopsOver_108 ml_X12_346 kdc_198 rfl (Nat.le_of_ble_eq_true rfl) rfl) (kX12_notes _ _ _ _) (fun M8 _ => ?_)
    refine r_aload_n dX12_hopsOver_111 rfl rfl ?_
    refine r_getR (k' := 199) dX12_hopsOver_112 fl_X12_7 kdc_198 rfl ?_
    refine r_bipush bp_55 dX12_hopsOver_115 ?_
    refine r_iload_n dX12_hopsOver_117 rfl rfl ?_
    refine r_iadd dX12_hopsOver_118 ?_
    refine r_iald dX12_hopsOver_119 kdc_199 (fun v9 => ?_)
    refine r_iconst ic_3 dX12_hopsOver_120 ?_
    refine r_icmp_eq dX12_hopsOver_121 (fun h => eT h ?_) (fun h => eF h ?_)
    · refine r_aload_n dX12_hopsOver_126 rfl rfl ?_
      refine r_getR (k' := 199) dX12_hopsOver_127 fl_X12_7 kdc_198 rfl ?_
      refine r_bipush bp_69 dX12_hopsOver_130 ?_
      refine r_iload_n dX12_hopsOver_132 rfl rfl ?_
      refine r_iadd dX12_hopsOver_133 ?_
      refine r_iconst ic_1 dX12_hopsOver_134 ?_
      refine r_iast dX12_hopsOver_135 kdc_199 (fun M10 => ?_)
      refine r_aload_n dX12_hopsOver_136 rfl rfl ?_
      refine r_getR (k' := 199) dX12_hopsOver_137 fl_X12_7 kdc_198 rfl ?_
      refine r_bipush bp_17 dX12_hopsOver_140 ?_
      refine r_aload_n dX12_hopsOver_142 rfl rfl ?_
      refine r_getR (k' := 202) dX12_hopsOver_143 fl_X12_19 kdc_198 rfl ?_
      refine r_iload_n dX12_hopsOver_146 rfl rfl ?_
      refine r_iald dX12_hopsOver_147 kdc_202 (fun v11 => ?_)
      refine r_iadd dX12_hopsOver_148 ?_
      refine r_aload_n dX12_hopsOver_149 rfl rfl ?_
      refine r_getR (k' := 199) dX12_hopsOver_150 fl_X12_7 kdc_198 rfl ?_
      refine r_bipush bp_17 dX12_hopsOver_153 ?_
      refine r_aload_n dX12_hopsOver_155 rfl rfl ?_
      refine r_getR (k' := 202) dX12_hopsOver_156 fl_X12_19 kdc_198 rfl ?_
      refine r_iload_n dX12_hopsOver_159 rfl rfl ?_
      refine r_iald dX12_hopsOver_160 kdc_202 (fun v12 => ?_)
      refine r_iadd dX12_hopsOver_161 ?_
      refine r_iald dX12_hopsOver_162 kdc_199 (fun v13 => ?_)
      refine r_iconst ic_1 dX12_hopsOver_163 ?_
      refine r_iadd dX12_hopsOver_164 ?_
      refine r_iast dX12_hopsOver_165 kdc_199 (fun M14 => ?_)
      refine r_aload_n dX12_hopsOver_166 rfl rfl ?_
      refine r_getR (k' := 199) dX12_hopsOver_167 fl_X12_7 kdc_198 rfl ?_
      refine r_bipush bp_17 dX12_hopsOver_170 ?_
      refine r_aload_n dX12_hopsOver_172 rfl rfl ?_
      refine r_getR (k' := 203) dX12_hopsOver_173 fl_X12_22 kdc_198 rfl ?_
      refine r_iload_n dX12_hopsOver_176 rfl rfl ?_
      refine r_iald dX12_hopsOver_177 kdc_203 (fun v15 => ?_)
      refine r_iadd dX12_hopsOver_178 ?_
      refine r_aload_n dX12_hopsOver_179 rfl rfl ?_
      refine r_getR (k' := 199) dX12_hopsOver_180 fl_X12_7 kdc_198 rfl ?_
      refine r_bipush bp_17 dX12_hopsOver_183 ?_
      refine r_aload_n dX12_hopsOver_185 rfl rfl ?_
      refine r_getR (k' := 203) dX12_hopsOver_186 fl_X12_22 kdc_198 rfl ?_
      refine r_iload_n dX12_hopsOver_189 rfl rfl ?_
      refine r_iald dX12_hopsOver_190 kdc_203 (fun v16 => ?_)
      refine r_iadd dX12_hopsOver_191 ?_
      refine r_iald dX12_hopsOver_192 kdc_199 (fun v17 => ?_)
      refine r_iconst ic_1 dX12_hopsOver_193 ?_
      refine r_iadd dX12_hopsOver_194 ?_
      refine r_iast dX12_hopsOver_195 kdc_199 (fun M18 => ?_)
      refine r_aload_n dX12_hopsOver_196 rfl rfl ?_
      refine r_iconst ic_2 dX12_hopsOver_197 ?_
      refine r_iload_n dX12_hopsOver_198 rfl rfl ?_
      refine r_aload_n dX12_hopsOver_199 rfl rfl ?_
      refine r_getR (k' := 204) dX12_hopsOver_200 fl_X12_25 kdc_198 rfl ?_
      refine r_iload_n dX12_hopsOver_203 rfl rfl ?_
      refine r_iald dX12_hopsOver_204 kdc_204 (fun v19 => ?_)
      refine r_callv (cl_V [.int 2, .int p1, .int v19] bX12_notes (by decide) dX12_hopsOver_205 ml_X12_346 kdc_198 rfl (Nat.le_of_ble_eq_true rfl) rfl) (kX12_notes _ _ _ _) (fun M20 _ => ?_)
      refine r_iconst ic_1 dX12_hopsOver_208 ?_
      exact vRet rfl rfl rfl dX12_hopsOver_209
    · refine r_iconst ic_0 dX12_hopsOver_124 ?_
      exact vRet rfl rfl rfl dX12_hopsOver_125
  · refine r_aload_n dX12_hopsOver_39 rfl rfl ?_
    refine r_getR (k' := 199) dX12_hopsOver_40 fl_X12_7 kdc_198 rfl ?_
    refine r_bipush bp_29 dX12_hopsOver_43 ?_
    refine r_iload_n dX12_hopsOver_45 rfl rfl ?_
    refine r_iadd dX12_hopsOver_46 ?_
    refine r_aload_n dX12_hopsOver_47 rfl rfl ?_
    refine r_getR (k' := 199) dX12_hopsOver_48 fl_X12_7 kdc_198 rfl ?_
    refine r_bipush bp_29 dX12_hopsOver_51 ?_
    refine r_iload_n dX12_hopsOver_53 rfl rfl ?_
    refine r_iadd dX12_hopsOver_54 ?_
    refine r_iald dX12_hopsOver_55 kdc_199 (fun v23 => ?_)
    refine r_aload_n dX12_hopsOver_56 rfl rfl ?_
    refine r_iload_n dX12_hopsOver_57 rfl rfl ?_
    refine r_iload_n dX12_hopsOver_58 rfl rfl ?_
    refine r_iload dX12_hopsOver_59 rfl ?_
    refine r_calli (cl_V [.int p1, .int v1, .int e21] bX12_costsOn (by decide) dX12_hopsOver_61 ml_X12_343 kdc_198 rfl (Nat.le_of_ble_eq_true rfl) rfl) (kX12_costsOn _ _ _ _) (fun r24 _ => ?_)
    refine r_iadd dX12_hopsOver_64 ?_
    refine r_iast dX12_hopsOver_65 kdc_199 (fun M25 => ?_)
    refine r_aload_n dX12_hopsOver_66 rfl rfl ?_
    refine r_iconst ic_1 dX12_hopsOver_67 ?_
    refine r_iload_n dX12_hopsOver_68 rfl rfl ?_
    refine r_iload dX12_hopsOver_69 rfl ?_
    refine r_callv (cl_V [.int 1, .int p1, .int e21] bX12_notes (by decide) dX12_hopsOver_71 ml_X12_346 kdc_198 rfl (Nat.le_of_ble_eq_true rfl) rfl) (kX12_notes _ _ _ _) (fun M26 _ => ?_)
    refine r_iconst ic_0 dX12_hopsOver_74 ?_
    exact vRet rfl rfl rfl dX12_hopsOver_75
theorem kX12_hopsOver {g : G}   (p1 : Int32) (p2 : Int32) (M : Mem) : CtrI g uX12_hopsOver 6 (fun r => r.1) rmW [.ref (ga g 198), .int p1, .int p2] M (fX12_hopsOver p1 p2 M) := CtrI.of mX12_hopsOver rfl (Nat.le_of_ble_eq_true rfl) rfl (vX12_hopsOver p1 p2 M)
set_option maxHeartbeats 4000000 in
set_option maxRecDepth 100000 in
theorem vX12_isCleared {g : G}   (p1 : Int32) (M : Mem) : V g uX12_isCleared 1 rvU rmU 0 [.ref (ga g 198), .int p1] [] M (fX12_isCleared p1 M) := by
  unfold fX12_isCleared
  refine r_aload_n dX12_isCleared_0 rfl rfl ?_
  refine r_getR (k' := 199) dX12_isCleared_1 fl_X12_7 kdc_198 rfl ?_
  refine r_bipush bp_69 dX12_isCleared_4 ?_
  refine r_iload_n dX12_isCleared_6 rfl rfl ?_
  refine r_iadd dX12_isCleared_7 ?_
  refine r_iald dX12_isCleared_8 kdc_199 (fun v1 => ?_)
  refine r_iconst ic_1 dX12_isCleared_9 ?_
  refine r_icmp_ne dX12_isCleared_10 (fun h => eF h ?_) (fun h => eT h ?_)
  · refine r_aload_n dX12_isCleared_14 rfl rfl ?_
    refine r_getR (k' := 199) dX12_isCleared_15 fl_X12_7 kdc_198 rfl ?_
    refine r_bipush bp_41 dX12_isCleared_18 ?_
    refine r_iload_n dX12_isCleared_20 rfl rfl ?_
    refine r_iadd dX12_isCleared_21 ?_
    refine r_bipush bp_9 dX12_isCleared_22 ?_
    refine r_iast dX12_isCleared_24 kdc_199 (fun M2 => ?_)
    refine r_aload_n dX12_isCleared_25 rfl rfl ?_
    refine r_getR (k' := 199) dX12_isCleared_26 fl_X12_7 kdc_198 rfl ?_
    refine r_bipush bp_69 dX12_isCleared_29 ?_
    refine r_iload_n dX12_isCleared_31 rfl rfl ?_
    refine r_iadd dX12_isCleared_32 ?_
    refine r_iconst ic_0 dX12_isCleared_33 ?_
    refine r_iast dX12_isCleared_34 kdc_199 (fun M3 => ?_)
    exact vRet rfl rfl trivial dX12_isCleared_35
  · exact vRet rfl rfl trivial dX12_isCleared_13
theorem kX12_isCleared {g : G}   (p1 : Int32) (M : Mem) : CtrV g uX12_isCleared 1 rmU [.ref (ga g 198), .int p1] M (fX12_isCleared p1 M) := CtrV.of mX12_isCleared rfl (Nat.le_of_ble_eq_true rfl) rfl (vX12_isCleared p1 M)
set_option maxHeartbeats 4000000 in
set_option maxRecDepth 100000 in
theorem vX12_isBlurred {g : G}   (p1 : Int32) (M : Mem) : V g uX12_isBlurred 2 rvU rmU 0 [.ref (ga g 198), .int p1] [] M (fX12_isBlurred p1 M) := by
  unfold fX12_isBlurred
  refine r_aload_n dX12_isBlurred_0 rfl rfl ?_
  refine r_iconst ic_3 dX12_isBlurred_1 ?_
  refine r_iload_n dX12_isBlurred_2 rfl rfl ?_
  refine r_aload_n dX12_isBlurred_3 rfl rfl ?_
  refine r_aload_n dX12_isBlurred_4 rfl rfl ?_
  refine r_getR (k' := 199) dX12_isBlurred_5 fl_X12_7 kdc_198 rfl ?_
  refine r_bipush bp_55 dX12_isBlurred_8 ?_
  refine r_iload_n dX12_isBlurred_10 rfl rfl ?_
  refine r_iadd dX12_isBlurred_11 ?_
  refine r_iald dX12_isBlurred_12 kdc_199 (fun v1 => ?_)
  refine r_calli (cl_V [.int v1] bX12_onesOf (by decide) dX12_isBlurred_13 ml_X12_311 kdc_198 rfl (Nat.le_of_ble_eq_true rfl) rfl) (kX12_onesOf _ _) (fun v2 _ => ?_)
  refine r_callv (cl_V [.int 3, .int p1, .int v2] bX12_notes (by decide) dX12_isBlurred_16 ml_X12_346 kdc_198 rfl (Nat.le_of_ble_eq_true rfl) rfl) (kX12_notes _ _ _ _) (fun M3 _ => ?_)
  refine r_aload_n dX12_isBlurred_19 rfl rfl ?_
  refine r_getR (k' := 199) dX12_isBlurred_20 fl_X12_7 kdc_198 rfl ?_
  refine r_bipush bp_41 dX12_isBlurred_23 ?_
  refine r_iload_n dX12_isBlurred_25 rfl rfl ?_
  refine r_iadd dX12_isBlurred_26 ?_
  refine r_iconst ic_0 dX12_isBlurred_27 ?_
  refine r_iast dX12_isBlurred_28 kdc_199 (fun M4 => ?_)
  refine r_aload_n dX12_isBlurred_29 rfl rfl ?_
  refine r_getR (k' := 199) dX12_isBlurred_30 fl_X12_7 kdc_198 rfl ?_
  refine r_bipush bp_69 dX12_isBlurred_33 ?_
  refine r_iload_n dX12_isBlurred_35 rfl rfl ?_
  refine r_iadd dX12_isBlurred_36 ?_
  refine r_iconst ic_2 dX12_isBlurred_37 ?_
  refine r_iast dX12_isBlurred_38 kdc_199 (fun M5 => ?_)
  refine r_aload_n dX12_isBlurred_39 rfl rfl ?_
  refine r_getR (k' := 199) dX12_isBlurred_40 fl_X12_7 kdc_198 rfl ?_
  refine r_bipush bp_55 dX12_isBlurred_43 ?_
  refine r_iload_n dX12_isBlurred_45 rfl rfl ?_
  refine r_iadd dX12_isBlurred_46 ?_
  refine r_iconst ic_0 dX12_isBlurred_47 ?_
  refine r_iast dX12_isBlurred_48 kdc_199 (fun M6 => ?_)
  exact vRet rfl rfl trivial dX12_isBlurred_49
theorem kX12_isBlurred {g : G}   (p1 : Int32) (M : Mem) : CtrV g uX12_isBlurred 2 rmU [.ref (ga g 198), .int p1] M (fX12_isBlurred p1 M) := CtrV.of mX12_isBlurred rfl (Nat.le_of_ble_eq_true rfl) rfl (vX12_isBlurred p1 M)
set_option maxHeartbeats 4000000 in
set_option maxRecDepth 100000 in
theorem vX12_act {g : G}   (p1 : Int32) (p2 : Int32) (M : Mem) : V g uX12_act 7 rvW rmW 0 [.ref (ga g 198), .int p1, .int p2] [] M (fX12_act p1 p2 M) := by
  unfold fX12_act
  refine r_aload_n dX12_act_0 rfl rfl ?_
  refine r_iconst ic_0 dX12_act_1 ?_
  refine r_put dX12_act_2 fw_X12_122 kdc_198 (fun M1 => ?_)
  refine r_aload_n dX12_act_5 rfl rfl ?_
  refine r_iload_n dX12_act_6 rfl rfl ?_
  refine r_iload_n dX12_act_7 rfl rfl ?_
  refine r_calli (cl_V [.int p1, .int p2] bX12_canAct (by decide) dX12_act_8 ml_X12_352 kdc_198 rfl (Nat.le_of_ble_eq_true rfl) rfl) (kX12_canAct _ _ _) (fun v2 _ => ?_)
  refine r_if_ne dX12_act_11 (fun h => eF h ?_) (fun h => eT h ?_)
  · refine r_aload_n dX12_act_16 rfl rfl ?_
    refine r_callv (cl_V [] bX12_keepsAhead (by decide) dX12_act_17 ml_X12_355 kdc_198 rfl (Nat.le_of_ble_eq_true rfl) rfl) (kX12_keepsAhead _) (fun M3 _ => ?_)
    refine r_iload_n dX12_act_20 rfl rfl ?_
    refine r_iconst ic_2 dX12_act_21 ?_
    refine eJ (fun (J4 : (Mem) → Option (Int32 × Mem)) => ∀ (M5 : Mem), V g uX12_act 7 rvW rmW 32 [.ref (ga g 198), .int p1, .int p2] [] M5 (J4 M5)) (fun M5 => ?_) (fun J4 hJ4 => ?_)
    · refine r_iload_n dX12_act_32 rfl rfl ?_
      refine r_iconst ic_2 dX12_act_33 ?_
      refine eJ (fun (J6 : (Mem) → Option (Int32 × Mem)) => ∀ (M7 : Mem), V g uX12_act 7 rvW rmW 42 [.ref (ga g 198), .int p1, .int p2] [] M7 (J6 M7)) (fun M7 => ?_) (fun J6 hJ6 => ?_)
      · refine r_iload_n dX12_act_42 rfl rfl ?_
        refine r_iconst ic_3 dX12_act_43 ?_
        refine eJ (fun (J8 : (Mem) → Option (Int32 × Mem)) => ∀ (M9 : Mem), V g uX12_act 7 rvW rmW 52 [.ref (ga g 198), .int p1, .int p2] [] M9 (J8 M9)) (fun M9 => ?_) (fun J8 hJ8 => ?_)
        · refine r_iload_n dX12_act_52 rfl rfl ?_
          refine r_iconst ic_4 dX12_act_53 ?_
          refine r_icmp_ne dX12_act_54 (fun h => eF h ?_) (fun h => eT h ?_)
          · refine r_iconst ic_1 dX12_act_77 ?_
            exact vRet rfl rfl rfl dX12_act_78
          · refine r_aload_n dX12_act_57 rfl rfl ?_
            refine r_getR (k' := 199) dX12_act_58 fl_X12_7 kdc_198 rfl ?_
            refine r_bipush bp_29 dX12_act_61 ?_
            refine r_iload_n dX12_act_63 rfl rfl ?_
            refine r_iadd dX12_act_64 ?_
            refine r_aload_n dX12_act_65 rfl rfl ?_
            refine r_getR (k' := 199) dX12_act_66 fl_X12_7 kdc_198 rfl ?_
            refine r_bipush bp_29 dX12_act_69 ?_
            refine r_iload_n dX12_act_71 rfl rfl ?_
            refine r_iadd dX12_act_72 ?_
            refine r_iald dX12_act_73 kdc_199 (fun v10 => ?_)
            refine r_iconst ic_1 dX12_act_74 ?_
            refine r_isub dX12_act_75 ?_
            refine r_iast dX12_act_76 kdc_199 (fun M11 => ?_)
            refine r_iconst ic_1 dX12_act_77 ?_
            exact vRet rfl rfl rfl dX12_act_78
        · refine r_icmp_ne dX12_act_44 (fun h => eF h ?_) (fun h => eT h ?_)
          · exact hJ8 _
          · refine r_aload_n dX12_act_47 rfl rfl ?_
            refine r_iload_n dX12_act_48 rfl rfl ?_
            refine r_callv (cl_V [.int p2] bX12_isBlurred (by decide) dX12_act_49 ml_X12_364 kdc_198 rfl (Nat.le_of_ble_eq_true rfl) rfl) (kX12_isBlurred _ _) (fun M12 _ => ?_)
            exact hJ8 _
      · refine r_icmp_ne dX12_act_34 (fun h => eF h ?_) (fun h => eT h ?_)
        · exact hJ6 _
        · refine r_aload_n dX12_act_37 rfl rfl ?_
          refine r_iload_n dX12_act_38 rfl rfl ?_
          refine r_callv (cl_V [.int p2] bX12_isCleared (by decide) dX12_act_39 ml_X12_361 kdc_198 rfl (Nat.le_of_ble_eq_true rfl) rfl) (kX12_isCleared _ _) (fun M13 _ => ?_)
          exact hJ6 _
    · refine r_icmp_ge dX12_act_22 (fun h => eT h ?_) (fun h => eF h ?_)
      · exact hJ4 _
      · refine r_aload_n dX12_act_25 rfl rfl ?_
        refine r_iload_n dX12_act_26 rfl rfl ?_
        refine r_iload_n dX12_act_27 rfl rfl ?_
        refine r_calli (cl_V [.int p2, .int p1] bX12_hopsOver (by decide) dX12_act_28 ml_X12_358 kdc_198 rfl (Nat.le_of_ble_eq_true rfl) rfl) (kX12_hopsOver _ _ _) (fun r14 _ => ?_)
        refine r_pop dX12_act_31 rfl ?_
        exact hJ4 _
  · refine r_iconst ic_0 dX12_act_14 ?_
    exact vRet rfl rfl rfl dX12_act_15
theorem kX12_act {g : G}   (p1 : Int32) (p2 : Int32) (M : Mem) : CtrI g uX12_act 7 (fun r => r.1) rmW [.ref (ga g 198), .int p1, .int p2] M (fX12_act p1 p2 M) := CtrI.of mX12_act rfl (Nat.le_of_ble_eq_true rfl) rfl (vX12_act p1 p2 M)
set_option maxHeartbeats 4000000 in
set_option maxRecDepth 100000 in
theorem vX0_tellEvening {g : G} {k1 : Nat} (hk1 : kd k1 = (9, 15)) (p2 : Int32) (M : Mem) : V g uX0_tellEvening 4 rvU rmU 0 [.ref (ga g 1), .ref (ga g k1), .int p2, .null, .null] [] M (fX0_tellEvening k1 p2 M) := by
  unfold fX0_tellEvening
  refine r_aload_n dX0_tellEvening_0 rfl rfl ?_
  refine r_getR (k' := 30) dX0_tellEvening_1 fl_X0_37 kdc_1 rfl ?_
  refine r_getR (k' := 33) dX0_tellEvening_4 fl_X0_67 kdc_30 rfl ?_
  refine r_iload_n dX0_tellEvening_7 rfl rfl ?_
  refine r_iald dX0_tellEvening_8 kdc_33 (fun v1 => ?_)
  refine r_istore_n (l' := [.ref (ga g 1), .ref (ga g k1), .int p2, .int v1, .null]) dX0_tellEvening_9 rfl (Nat.le_of_ble_eq_true rfl) rfl rfl ?_
  refine r_aload_n dX0_tellEvening_10 rfl rfl ?_
  refine r_getR (k' := 30) dX0_tellEvening_11 fl_X0_37 kdc_1 rfl ?_
  refine r_getR (k' := 34) dX0_tellEvening_14 fl_X0_71 kdc_30 rfl ?_
  refine r_iload_n dX0_tellEvening_17 rfl rfl ?_
  refine r_iald dX0_tellEvening_18 kdc_34 (fun v2 => ?_)
  refine r_istore (l' := [.ref (ga g 1), .ref (ga g k1), .int p2, .int v1, .int v2]) dX0_tellEvening_19 (Nat.le_of_ble_eq_true rfl) rfl rfl ?_
  refine r_aload_n dX0_tellEvening_21 rfl rfl ?_
  refine r_getR (k' := 30) dX0_tellEvening_22 fl_X0_37 kdc_1 rfl ?_
  refine r_getR (k' := 32) dX0_tellEvening_25 fl_X0_144 kdc_30 rfl ?_
  refine r_iload_n dX0_tellEvening_28 rfl rfl ?_
  refine r_iald dX0_tellEvening_29 kdc_32 (fun v3 => ?_)
  refine r_tsw (n := 3) (tg := [56, 65, 74]) (td := 82) dX0_tellEvening_30 rfl (by decide) (by decide) (by decide) (by decide) (by decide +kernel) (by decide) (lt_s (lt_s (lt_s (lt_0) ?_) ?_) ?_) ?_
  · refine r_aload_n dX0_tellEvening_56 rfl rfl ?_
    refine r_iload dX0_tellEvening_57 rfl ?_
    refine r_put dX0_tellEvening_59 fw_X0_103 hk1 (fun M4 => ?_)
    refine r_goto dX0_tellEvening_62 ?_
    exact vRet rfl rfl trivial dX0_tellEvening_98
  · refine r_aload_n dX0_tellEvening_65 rfl rfl ?_
    refine r_iload dX0_tellEvening_66 rfl ?_
    refine r_put dX0_tellEvening_68 fw_X0_106 hk1 (fun M5 => ?_)
    refine r_goto dX0_tellEvening_71 ?_
    exact vRet rfl rfl trivial dX0_tellEvening_98
  · refine r_aload_n dX0_tellEvening_74 rfl rfl ?_
    refine r_iload_n dX0_tellEvening_75 rfl rfl ?_
    refine r_callv (cl_V [.int v1] bX9_makeClear (by decide) dX0_tellEvening_76 ml_X0_158 hk1 rfl (Nat.le_of_ble_eq_true rfl) rfl) (kX9_makeClear hk1 _ _) (fun M6 _ => ?_)
    refine r_goto dX0_tellEvening_79 ?_
    exact vRet rfl rfl trivial dX0_tellEvening_98
  · refine r_aload_n dX0_tellEvening_82 rfl rfl ?_
    refine r_iload_n dX0_tellEvening_83 rfl rfl ?_
    refine r_calliT (cl_V [.int v1] bX9_hasPerson (by decide) dX0_tellEvening_84 ml_X0_85 hk1 rfl (Nat.le_of_ble_eq_true rfl) rfl) (kX9_hasPerson hk1 _ _) ?_
    refine r_if_eq dX0_tellEvening_87 (fun h => eT h ?_) (fun h => eF h ?_)
    · exact vRet rfl rfl trivial dX0_tellEvening_98
    · refine r_aload_n dX0_tellEvening_90 rfl rfl ?_
      refine r_getR (k' := (k1 + 1)) dX0_tellEvening_91 fl_X0_88 hk1 rfl ?_
      refine r_iload_n dX0_tellEvening_94 rfl rfl ?_
      refine r_iload dX0_tellEvening_95 rfl ?_
      refine r_iast dX0_tellEvening_97 (kx_9_1 hk1) (fun M7 => ?_)
      exact vRet rfl rfl trivial dX0_tellEvening_98
theorem kX0_tellEvening {g : G} {k1 : Nat} (hk1 : kd k1 = (9, 15)) (p2 : Int32) (M : Mem) : CtrV g uX0_tellEvening 4 rmU [.ref (ga g 1), .ref (ga g k1), .int p2] M (fX0_tellEvening k1 p2 M) := CtrV.of mX0_tellEvening rfl (Nat.le_of_ble_eq_true rfl) rfl (vX0_tellEvening hk1 p2 M)
set_option maxHeartbeats 4000000 in
set_option maxRecDepth 100000 in
theorem vX0_blurSome {g : G} {k1 : Nat} (hk1 : kd k1 = (9, 15)) (p2 : Int32) (p3 : Int32) (M : Mem) : V g uX0_blurSome 5 rvU rmU 0 [.ref (ga g 1), .ref (ga g k1), .int p2, .int p3, .null] [] M (fX0_blurSome k1 p2 p3 M) := by
  unfold fX0_blurSome
  refine r_aload_n dX0_blurSome_0 rfl rfl ?_
  refine r_iload_n dX0_blurSome_1 rfl rfl ?_
  refine r_calli (cl_V [.int p2] bX9_isOpen (by decide) dX0_blurSome_2 ml_X0_161 hk1 rfl (Nat.le_of_ble_eq_true rfl) rfl) (kX9_isOpen hk1 _ _) (fun v1 _ => ?_)
  refine r_if_ne dX0_blurSome_5 (fun h => eF h ?_) (fun h => eT h ?_)
  · refine r_aload_n dX0_blurSome_9 rfl rfl ?_
    refine r_iconst ic_1 dX0_blurSome_10 ?_
    refine r_aload_n dX0_blurSome_11 rfl rfl ?_
    refine r_iload_n dX0_blurSome_12 rfl rfl ?_
    refine r_iconst ic_m1 dX0_blurSome_13 ?_
    refine r_iconst ic_0 dX0_blurSome_14 ?_
    refine r_calli (cl_V [.int 1, .ref (ga g k1), .int p2, .int (-1), .int 0] bX0_asked (by decide) dX0_blurSome_15 ml_X0_168 kdc_1 rfl (Nat.le_of_ble_eq_true rfl) rfl) (kX0_asked hk1 _ _ _ _ _) (fun r2 _ => ?_)
    refine r_istore (l' := [.ref (ga g 1), .ref (ga g k1), .int p2, .int p3, .int r2.1]) dX0_blurSome_18 (Nat.le_of_ble_eq_true rfl) rfl rfl ?_
    refine r_aload_n dX0_blurSome_20 rfl rfl ?_
    refine r_getR (k' := (k1 + 7)) dX0_blurSome_21 fl_X0_100 hk1 rfl ?_
    refine r_iload_n dX0_blurSome_24 rfl rfl ?_
    refine r_iconst ic_0 dX0_blurSome_25 ?_
    refine r_aload_n dX0_blurSome_26 rfl rfl ?_
    refine r_getR (k' := (k1 + 7)) dX0_blurSome_27 fl_X0_100 hk1 rfl ?_
    refine r_iload_n dX0_blurSome_30 rfl rfl ?_
    refine r_iald dX0_blurSome_31 (kx_9_7 hk1) (fun v3 => ?_)
    refine r_iload dX0_blurSome_32 rfl ?_
    refine r_isub dX0_blurSome_34 ?_
    refine r_max (by decide) (Nat.le_of_ble_eq_true rfl) ml_X0_135 jmax_1 j_math jmax_2 dX0_blurSome_35 ?_
    refine r_iast dX0_blurSome_38 (kx_9_7 hk1) (fun M4 => ?_)
    refine r_aload_n dX0_blurSome_39 rfl rfl ?_
    refine r_getR (k' := (k1 + 7)) dX0_blurSome_40 fl_X0_100 hk1 rfl ?_
    refine r_iload_n dX0_blurSome_43 rfl rfl ?_
    refine r_iald dX0_blurSome_44 (kx_9_7 hk1) (fun v5 => ?_)
    refine r_if_ne dX0_blurSome_45 (fun h => eF h ?_) (fun h => eT h ?_)
    · exact vRet rfl rfl trivial dX0_blurSome_55
    · refine r_aload_n dX0_blurSome_48 rfl rfl ?_
      refine r_aload_n dX0_blurSome_49 rfl rfl ?_
      refine r_iload_n dX0_blurSome_50 rfl rfl ?_
      refine r_iload_n dX0_blurSome_51 rfl rfl ?_
      refine r_callv (cl_V [.ref (ga g k1), .int p2, .int p3] bX0_blurAway (by decide) dX0_blurSome_52 ml_X0_185 kdc_1 rfl (Nat.le_of_ble_eq_true rfl) rfl) (kX0_blurAway hk1 _ _ _) (fun M6 _ => ?_)
      exact vRet rfl rfl trivial dX0_blurSome_55
  · exact vRet rfl rfl trivial dX0_blurSome_8
theorem kX0_blurSome {g : G} {k1 : Nat} (hk1 : kd k1 = (9, 15)) (p2 : Int32) (p3 : Int32) (M : Mem) : CtrV g uX0_blurSome 5 rmU [.ref (ga g 1), .ref (ga g k1), .int p2, .int p3] M (fX0_blurSome k1 p2 p3 M) := CtrV.of mX0_blurSome rfl (Nat.le_of_ble_eq_true rfl) rfl (vX0_blurSome hk1 p2 p3 M)
set_option maxHeartbeats 4000000 in
set_option maxRecDepth 100000 in
theorem vX0_goDay_L2 {g : G} {k1 : Nat} (K41 : Mem → Option (Int32 × Mem))  (c2 : Int32) (hk1 : kd k1 = (9, 15)) (hK41 : ∀ (M : Mem), V g uX0_goDay 6 rvW rmW 41 [.ref (ga g 1), .ref (ga g k1), .int c2, .null, .null] [] M (K41 M)) : ∀ (n : Nat) (y3 : Int32) (M : Mem), V g uX0_goDay 6 rvW rmW 2 [.ref (ga g 1), .ref (ga g k1), .int c2, .int y3, .null] [] M (fX0_goDay_L2 K41 k1 n y3 M) := by
  intro n
  induction n with
  | zero => intro y3 M; exact vNone
  | succ n ih =>
    intro y3 M
    rw [fX0_goDay_L2]
    refine r_iload_n dX0_goDay_2 rfl rfl ?_
    refine r_aload_n dX0_goDay_3 rfl rfl ?_
    refine r_getR (k' := 30) dX0_goDay_4 fl_X0_37 kdc_1 rfl ?_
    refine r_getI dX0_goDay_7 fl_X0_63 kdc_30 ?_
    refine r_icmp_ge dX0_goDay_10 (fun h => eT h ?_) (fun h => eF h ?_)
    · exact vSub (l' := [.ref (ga g 1), .ref (ga g k1), .int c2, .null, .null]) ⟨Or.inr rfl, ⟨Or.inr rfl, ⟨Or.inr rfl, ⟨Or.inl rfl, ⟨Or.inl rfl, trivial⟩⟩⟩⟩⟩ (hK41 _)
    · refine r_aload_n dX0_goDay_13 rfl rfl ?_
      refine r_getR (k' := 30) dX0_goDay_14 fl_X0_37 kdc_1 rfl ?_
      refine r_getR (k' := 31) dX0_goDay_17 fl_X0_138 kdc_30 rfl ?_
      refine r_iload_n dX0_goDay_20 rfl rfl ?_
      refine r_iald dX0_goDay_21 kdc_31 (fun v1 => ?_)
      refine r_aload_n dX0_goDay_22 rfl rfl ?_
      refine r_getI dX0_goDay_23 fl_X0_118 hk1 ?_
      refine eJ (fun (J2 : (Mem) → Option (Int32 × Mem)) => ∀ (M3 : Mem), V g uX0_goDay 6 rvW rmW 35 [.ref (ga g 1), .ref (ga g k1), .int c2, .int y3, .null] [] M3 (J2 M3)) (fun M3 => ?_) (fun J2 hJ2 => ?_)
      · refine r_iinc (l' := [.ref (ga g 1), .ref (ga g k1), .int c2, .int (y3 + 1), .null]) dX0_goDay_35 rfl (inc_1 _) (Nat.le_of_ble_eq_true rfl) rfl rfl ?_
        refine r_goto dX0_goDay_38 ?_
        exact ih _ _
      · refine r_icmp_ne dX0_goDay_26 (fun h => eF h ?_) (fun h => eT h ?_)
        · exact hJ2 _
        · refine r_aload_n dX0_goDay_29 rfl rfl ?_
          refine r_aload_n dX0_goDay_30 rfl rfl ?_
          refine r_iload_n dX0_goDay_31 rfl rfl ?_
          refine r_callv (cl_V [.ref (ga g k1), .int y3] bX0_tellEvening (by decide) dX0_goDay_32 ml_X0_140 kdc_1 rfl (Nat.le_of_ble_eq_true rfl) rfl) (kX0_tellEvening hk1 _ _) (fun M4 _ => ?_)
          exact hJ2 _
set_option maxHeartbeats 4000000 in
set_option maxRecDepth 100000 in
theorem vX0_goDay_L46 {g : G} {k1 : Nat} (K113 : Int32 → Mem → Option (Int32 × Mem)) (z2 : Int32)  (hk1 : kd k1 = (9, 15)) (hK113 : ∀ (e3 : Int32) (M : Mem), V g uX0_goDay 6 rvW rmW 113 [.ref (ga g 1), .ref (ga g k1), .int z2, .int e3, .null] [] M (K113 e3 M)) : ∀ (n : Nat) (y3 : Int32) (y4 : Int32) (M : Mem), V g uX0_goDay 6 rvW rmW 46 [.ref (ga g 1), .ref (ga g k1), .int z2, .int y3, .int y4] [] M (fX0_goDay_L46 K113 k1 z2 n y3 y4 M) := by
  intro n
  induction n with
  | zero => intro y3 y4 M; exact vNone
  | succ n ih =>
    intro y3 y4 M
    rw [fX0_goDay_L46]
    refine r_iload dX0_goDay_46 rfl ?_
    refine r_aload_n dX0_goDay_48 rfl rfl ?_
    refine r_getR (k' := 25) dX0_goDay_49 fl_X0_34 kdc_1 rfl ?_
    refine r_getI dX0_goDay_52 fl_X0_63 kdc_25 ?_
    refine r_icmp_ge dX0_goDay_55 (fun h => eT h ?_) (fun h => eF h ?_)
    · exact vSub (l' := [.ref (ga g 1), .ref (ga g k1), .int z2, .int y3, .null]) ⟨Or.inr rfl, ⟨Or.inr rfl, ⟨Or.inr rfl, ⟨Or.inr rfl, ⟨Or.inl rfl, trivial⟩⟩⟩⟩⟩ (hK113 _ _)
    · refine r_aload_n dX0_goDay_58 rfl rfl ?_
      refine r_getR (k' := 25) dX0_goDay_59 fl_X0_34 kdc_1 rfl ?_
      refine r_getR (k' := 26) dX0_goDay_62 fl_X0_138 kdc_25 rfl ?_
      refine r_iload dX0_goDay_65 rfl ?_
      refine r_iald dX0_goDay_67 kdc_26 (fun v6 => ?_)
      refine r_aload_n dX0_goDay_68 rfl rfl ?_
      refine r_getI dX0_goDay_69 fl_X0_118 hk1 ?_
      refine eJ (fun (J7 : (Int32) → (Mem) → Option (Int32 × Mem)) => ∀ (a8 : Int32) (M9 : Mem), V g uX0_goDay 6 rvW rmW 107 [.ref (ga g 1), .ref (ga g k1), .int z2, .int a8, .int y4] [] M9 (J7 a8 M9)) (fun a8 M9 => ?_) (fun J7 hJ7 => ?_)
      · refine r_iinc (l' := [.ref (ga g 1), .ref (ga g k1), .int z2, .int a8, .int (y4 + 1)]) dX0_goDay_107 rfl (inc_1 _) (Nat.le_of_ble_eq_true rfl) rfl rfl ?_
        refine r_goto dX0_goDay_110 ?_
        exact ih _ _ _
      · refine r_icmp_ne dX0_goDay_72 (fun h => eF h ?_) (fun h => eT h ?_)
        · exact hJ7 _ _
        · refine r_aload_n dX0_goDay_75 rfl rfl ?_
          refine r_aload_n dX0_goDay_76 rfl rfl ?_
          refine r_aload_n dX0_goDay_77 rfl rfl ?_
          refine r_getR (k' := 25) dX0_goDay_78 fl_X0_34 kdc_1 rfl ?_
          refine r_getR (k' := 28) dX0_goDay_81 fl_X0_67 kdc_25 rfl ?_
          refine r_iload dX0_goDay_84 rfl ?_
          refine r_iald dX0_goDay_86 kdc_28 (fun v10 => ?_)
          refine r_aload_n dX0_goDay_87 rfl rfl ?_
          refine r_getR (k' := 25) dX0_goDay_88 fl_X0_34 kdc_1 rfl ?_
          refine r_getR (k' := 27) dX0_goDay_91 fl_X0_144 kdc_25 rfl ?_
          refine r_iload dX0_goDay_94 rfl ?_
          refine r_iald dX0_goDay_96 kdc_27 (fun v11 => ?_)
          refine r_iload_n dX0_goDay_97 rfl rfl ?_
          refine r_calli (cl_V [.ref (ga g k1), .int v10, .int v11, .int z2] bX0_twist (by decide) dX0_goDay_98 ml_X0_147 kdc_1 rfl (Nat.le_of_ble_eq_true rfl) rfl) (kX0_twist hk1 _ _ _ _) (fun r12 _ => ?_)
          refine r_if_eq dX0_goDay_101 (fun h => eT h ?_) (fun h => eF h ?_)
          · exact hJ7 _ _
          · refine r_iinc (l' := [.ref (ga g 1), .ref (ga g k1), .int z2, .int (y3 + 1), .int y4]) dX0_goDay_104 rfl (inc_1 _) (Nat.le_of_ble_eq_true rfl) rfl rfl ?_
            exact hJ7 _ _
set_option maxHeartbeats 4000000 in
set_option maxRecDepth 100000 in
theorem vX0_goDay_L116 {g : G} {k1 : Nat} (K139 : Mem → Option (Int32 × Mem)) (z2 : Int32) (c3 : Int32) (hk1 : kd k1 = (9, 15)) (hK139 : ∀ (M : Mem), V g uX0_goDay 6 rvW rmW 139 [.null, .ref (ga g k1), .null, .int c3, .null] [] M (K139 M)) : ∀ (n : Nat) (y4 : Int32) (M : Mem), V g uX0_goDay 6 rvW rmW 116 [.ref (ga g 1), .ref (ga g k1), .int z2, .int c3, .int y4] [] M (fX0_goDay_L116 K139 k1 z2 n y4 M) := by
  intro n
  induction n with
  | zero => intro y4 M; exact vNone
  | succ n ih =>
    intro y4 M
    rw [fX0_goDay_L116]
    refine r_iload dX0_goDay_116 rfl ?_
    refine r_aload_n dX0_goDay_118 rfl rfl ?_
    refine r_getI dX0_goDay_119 fl_X0_151 hk1 ?_
    refine r_icmp_ge dX0_goDay_122 (fun h => eT h ?_) (fun h => eF h ?_)
    · exact vSub (l' := [.null, .ref (ga g k1), .null, .int c3, .null]) ⟨Or.inl rfl, ⟨Or.inr rfl, ⟨Or.inl rfl, ⟨Or.inr rfl, ⟨Or.inl rfl, trivial⟩⟩⟩⟩⟩ (hK139 _)
    · refine r_aload_n dX0_goDay_125 rfl rfl ?_
      refine r_aload_n dX0_goDay_126 rfl rfl ?_
      refine r_iload dX0_goDay_127 rfl ?_
      refine r_iload_n dX0_goDay_129 rfl rfl ?_
      refine r_callv (cl_V [.ref (ga g k1), .int y4, .int z2] bX0_blurSome (by decide) dX0_goDay_130 ml_X0_154 kdc_1 rfl (Nat.le_of_ble_eq_true rfl) rfl) (kX0_blurSome hk1 _ _ _) (fun M15 _ => ?_)
      refine r_iinc (l' := [.ref (ga g 1), .ref (ga g k1), .int z2, .int c3, .int (y4 + 1)]) dX0_goDay_133 rfl (inc_1 _) (Nat.le_of_ble_eq_true rfl) rfl rfl ?_
      refine r_goto dX0_goDay_136 ?_
      exact ih _ _
set_option maxHeartbeats 4000000 in
set_option maxRecDepth 100000 in
theorem vX0_goDay {g : G} {k1 : Nat} (hk1 : kd k1 = (9, 15)) (p2 : Int32) (M : Mem) : V g uX0_goDay 6 rvW rmW 0 [.ref (ga g 1), .ref (ga g k1), .int p2, .null, .null] [] M (fX0_goDay k1 p2 M) := by
  unfold fX0_goDay
  refine r_iconst ic_0 dX0_goDay_0 ?_
  refine r_istore_n (l' := [.ref (ga g 1), .ref (ga g k1), .int p2, .int 0, .null]) dX0_goDay_1 rfl (Nat.le_of_ble_eq_true rfl) rfl rfl ?_
  refine vX0_goDay_L2 _ _ hk1 (fun M5 => ?_) FU _ _
  · refine r_iconst ic_0 dX0_goDay_41 ?_
    refine r_istore_n (l' := [.ref (ga g 1), .ref (ga g k1), .int p2, .int 0, .null]) dX0_goDay_42 rfl (Nat.le_of_ble_eq_true rfl) rfl rfl ?_
    refine r_iconst ic_0 dX0_goDay_43 ?_
    refine r_istore (l' := [.ref (ga g 1), .ref (ga g k1), .int p2, .int 0, .int 0]) dX0_goDay_44 (Nat.le_of_ble_eq_true rfl) rfl rfl ?_
    refine vX0_goDay_L46 _ _ hk1 (fun e13 M14 => ?_) FU _ _ _
    · refine r_iconst ic_0 dX0_goDay_113 ?_
      refine r_istore (l' := [.ref (ga g 1), .ref (ga g k1), .int p2, .int e13, .int 0]) dX0_goDay_114 (Nat.le_of_ble_eq_true rfl) rfl rfl ?_
      refine vX0_goDay_L116 _ _ _ hk1 (fun M16 => ?_) FU _ _
      · refine r_aload_n dX0_goDay_139 rfl rfl ?_
        refine r_dup dX0_goDay_140 rfl ?_
        refine r_getI dX0_goDay_141 fl_X0_118 hk1 ?_
        refine r_iconst ic_1 dX0_goDay_144 ?_
        refine r_iadd dX0_goDay_145 ?_
        refine r_put dX0_goDay_146 fw_X0_118 hk1 (fun M17 => ?_)
        refine r_iload_n dX0_goDay_149 rfl rfl ?_
        exact vRet rfl rfl rfl dX0_goDay_150
theorem kX0_goDay {g : G} {k1 : Nat} (hk1 : kd k1 = (9, 15)) (p2 : Int32) (M : Mem) : CtrI g uX0_goDay 6 (fun r => r.1) rmW [.ref (ga g 1), .ref (ga g k1), .int p2] M (fX0_goDay k1 p2 M) := CtrI.of mX0_goDay rfl (Nat.le_of_ble_eq_true rfl) rfl (vX0_goDay hk1 p2 M)
set_option maxHeartbeats 4000000 in
set_option maxRecDepth 100000 in
theorem vX11_days_L37 {g : G}   (z1 : Int32)    : ∀ (n : Nat) (y3 : Int32) (y4 : Int32) (M : Mem), V g uX11_days 7 rvW rmW 37 [.ref (ga g 0), .int z1, .ref (ga g 2), .int y3, .int y4] [] M (fX11_days_L37 z1 n y3 y4 M) := by
  intro n
  induction n with
  | zero => intro y3 y4 M; exact vNone
  | succ n ih =>
    intro y3 y4 M
    rw [fX11_days_L37]
    refine r_iload dX11_days_37 rfl ?_
    refine r_iload_n dX11_days_39 rfl rfl ?_
    refine r_icmp_ge dX11_days_40 (fun h => eT h ?_) (fun h => eF h ?_)
    · refine r_iload_n dX11_days_79 rfl rfl ?_
      exact vRet rfl rfl rfl dX11_days_80
    · refine r_aload_n dX11_days_43 rfl rfl ?_
      refine r_getR (k' := 105) dX11_days_44 fl_X11_22 kdc_0 rfl ?_
      refine r_aload_n dX11_days_47 rfl rfl ?_
      refine r_aload_n dX11_days_48 rfl rfl ?_
      refine r_getR (k' := 1) dX11_days_49 fl_X11_12 kdc_0 rfl ?_
      refine r_getR (k' := 12) dX11_days_52 fl_X11_116 kdc_1 rfl ?_
      refine r_getI dX11_days_55 fl_X11_120 kdc_12 ?_
      refine r_callv (cl_V [.ref (ga g 2), .int (M 12 0)] bX6_keep (by decide) dX11_days_58 ml_X11_125 kdc_105 rfl (Nat.le_of_ble_eq_true rfl) rfl) (kX6_keep _ _) (fun M1 _ => ?_)
      refine r_iload_n dX11_days_61 rfl rfl ?_
      refine r_aload_n dX11_days_62 rfl rfl ?_
      refine r_getR (k' := 1) dX11_days_63 fl_X11_12 kdc_0 rfl ?_
      refine r_aload_n dX11_days_66 rfl rfl ?_
      refine r_iconst ic_0 dX11_days_67 ?_
      refine r_calli (cl_V [.ref (ga g 2), .int 0] bX0_goDay (by decide) dX11_days_68 ml_X11_146 kdc_1 rfl (Nat.le_of_ble_eq_true rfl) rfl) (kX0_goDay kdc_2 _ _) (fun r2 _ => ?_)
      refine r_iadd dX11_days_71 ?_
      refine r_bndi (fun x3 => ?_)
      refine r_istore_n (l' := [.ref (ga g 0), .int z1, .ref (ga g 2), .int x3, .int y4]) dX11_days_72 rfl (Nat.le_of_ble_eq_true rfl) rfl rfl ?_
      refine r_iinc (l' := [.ref (ga g 0), .int z1, .ref (ga g 2), .int x3, .int (y4 + 1)]) dX11_days_73 rfl (inc_1 _) (Nat.le_of_ble_eq_true rfl) rfl rfl ?_
      refine r_goto dX11_days_76 ?_
      exact ih _ _ _
set_option maxHeartbeats 4000000 in
set_option maxRecDepth 100000 in
theorem vX11_days {g : G}   (p1 : Int32) (M : Mem) : V g uX11_days 7 rvW rmW 0 [.ref (ga g 0), .int p1, .null, .null, .null] [] M (fX11_days p1 M) := by
  unfold fX11_days
  refine r_aload_n dX11_days_0 rfl rfl ?_
  refine r_getR (k' := 1) dX11_days_1 fl_X11_12 kdc_0 rfl ?_
  refine r_getR (k' := 2) dX11_days_4 fl_X11_61 kdc_1 rfl ?_
  refine r_astore_n (l' := [.ref (ga g 0), .int p1, .ref (ga g 2), .null, .null]) dX11_days_7 rfl (Nat.le_of_ble_eq_true rfl) rfl rfl ?_
  refine r_iload_n dX11_days_8 rfl rfl ?_
  refine r_iconst ic_1 dX11_days_9 ?_
  refine r_bipush bp_60 dX11_days_10 ?_
  refine r_calliT (cl_S [.int p1, .int 1, .int 60] bX11_isWithin (by decide) dX11_days_12 ml_X11_71 rfl (Nat.le_of_ble_eq_true rfl) rfl) (kX11_isWithin _ _ _ _) ?_
  refine r_if_eq dX11_days_15 (fun h => eT h ?_) (fun h => eF h ?_)
  · refine r_iconst ic_m1 dX11_days_30 ?_
    exact vRet rfl rfl rfl dX11_days_31
  · refine r_aload_n dX11_days_18 rfl rfl ?_
    refine r_getI dX11_days_19 fl_X11_143 kdc_2 ?_
    refine r_iload_n dX11_days_22 rfl rfl ?_
    refine r_iadd dX11_days_23 ?_
    refine r_sipush sp_9999 dX11_days_24 ?_
    refine r_icmp_le dX11_days_27 (fun h => eT h ?_) (fun h => eF h ?_)
    · refine r_iconst ic_0 dX11_days_32 ?_
      refine r_istore_n (l' := [.ref (ga g 0), .int p1, .ref (ga g 2), .int 0, .null]) dX11_days_33 rfl (Nat.le_of_ble_eq_true rfl) rfl rfl ?_
      refine r_iconst ic_0 dX11_days_34 ?_
      refine r_istore (l' := [.ref (ga g 0), .int p1, .ref (ga g 2), .int 0, .int 0]) dX11_days_35 (Nat.le_of_ble_eq_true rfl) rfl rfl ?_
      refine vX11_days_L37 _ FU _ _ _
    · refine r_iconst ic_m1 dX11_days_30 ?_
      exact vRet rfl rfl rfl dX11_days_31
theorem kX11_days {g : G}   (p1 : Int32) (M : Mem) : CtrI g uX11_days 7 (fun r => r.1) rmW [.ref (ga g 0), .int p1] M (fX11_days p1 M) := CtrI.of mX11_days rfl (Nat.le_of_ble_eq_true rfl) rfl (vX11_days p1 M)
set_option maxHeartbeats 4000000 in
set_option maxRecDepth 100000 in
theorem vX12_comes {g : G}   (p1 : Int32) (M : Mem) : V g uX12_comes 2 rvU rmU 0 [.ref (ga g 198), .int p1, .null, .null] [] M (fX12_comes p1 M) := by
  unfold fX12_comes
  refine r_aload_n dX12_comes_0 rfl rfl ?_
  refine r_getR (k' := 217) dX12_comes_1 fl_X12_68 kdc_198 rfl ?_
  refine r_iload_n dX12_comes_4 rfl rfl ?_
  refine r_iconst ic_1 dX12_comes_5 ?_
  refine r_iadd dX12_comes_6 ?_
  refine r_iald dX12_comes_7 kdc_217 (fun v1 => ?_)
  refine r_istore_n (l' := [.ref (ga g 198), .int p1, .int v1, .null]) dX12_comes_8 rfl (Nat.le_of_ble_eq_true rfl) rfl rfl ?_
  refine r_aload_n dX12_comes_9 rfl rfl ?_
  refine r_getR (k' := 217) dX12_comes_10 fl_X12_68 kdc_198 rfl ?_
  refine r_iload_n dX12_comes_13 rfl rfl ?_
  refine r_iconst ic_2 dX12_comes_14 ?_
  refine r_iadd dX12_comes_15 ?_
  refine r_iald dX12_comes_16 kdc_217 (fun v2 => ?_)
  refine r_istore_n (l' := [.ref (ga g 198), .int p1, .int v1, .int v2]) dX12_comes_17 rfl (Nat.le_of_ble_eq_true rfl) rfl rfl ?_
  refine r_iload_n dX12_comes_18 rfl rfl ?_
  refine eJ (fun (J3 : (Mem) → Option (Mem)) => ∀ (M4 : Mem), V g uX12_comes 2 rvU rmU 29 [.ref (ga g 198), .int p1, .int v1, .int v2] [] M4 (J3 M4)) (fun M4 => ?_) (fun J3 hJ3 => ?_)
  · refine r_iload_n dX12_comes_29 rfl rfl ?_
    refine r_iconst ic_1 dX12_comes_30 ?_
    refine eJ (fun (J5 : (Mem) → Option (Mem)) => ∀ (M6 : Mem), V g uX12_comes 2 rvU rmU 41 [.ref (ga g 198), .int p1, .int v1, .int v2] [] M6 (J5 M6)) (fun M6 => ?_) (fun J5 hJ5 => ?_)
    · refine r_iload_n dX12_comes_41 rfl rfl ?_
      refine r_iconst ic_2 dX12_comes_42 ?_
      refine eJ (fun (J7 : (Mem) → Option (Mem)) => ∀ (M8 : Mem), V g uX12_comes 2 rvU rmU 51 [.ref (ga g 198), .int p1, .int v1, .int v2] [] M8 (J7 M8)) (fun M8 => ?_) (fun J7 hJ7 => ?_)
      · refine r_iload_n dX12_comes_51 rfl rfl ?_
        refine r_iconst ic_3 dX12_comes_52 ?_
        refine r_icmp_ne dX12_comes_53 (fun h => eF h ?_) (fun h => eT h ?_)
        · exact vRet rfl rfl trivial dX12_comes_72
        · refine r_aload_n dX12_comes_56 rfl rfl ?_
          refine r_getR (k' := 199) dX12_comes_57 fl_X12_7 kdc_198 rfl ?_
          refine r_iconst ic_5 dX12_comes_60 ?_
          refine r_iload_n dX12_comes_61 rfl rfl ?_
          refine r_iadd dX12_comes_62 ?_
          refine r_aload_n dX12_comes_63 rfl rfl ?_
          refine r_getR (k' := 217) dX12_comes_64 fl_X12_68 kdc_198 rfl ?_
          refine r_iload_n dX12_comes_67 rfl rfl ?_
          refine r_iconst ic_3 dX12_comes_68 ?_
          refine r_iadd dX12_comes_69 ?_
          refine r_iald dX12_comes_70 kdc_217 (fun v9 => ?_)
          refine r_iast dX12_comes_71 kdc_199 (fun M10 => ?_)
          exact vRet rfl rfl trivial dX12_comes_72
      · refine r_icmp_ne dX12_comes_43 (fun h => eF h ?_) (fun h => eT h ?_)
        · exact hJ7 _
        · refine r_aload_n dX12_comes_46 rfl rfl ?_
          refine r_iload_n dX12_comes_47 rfl rfl ?_
          refine r_callv (cl_V [.int v2] bX12_isCleared (by decide) dX12_comes_48 ml_X12_361 kdc_198 rfl (Nat.le_of_ble_eq_true rfl) rfl) (kX12_isCleared _ _) (fun M11 _ => ?_)
          exact hJ7 _
    · refine r_icmp_ne dX12_comes_31 (fun h => eF h ?_) (fun h => eT h ?_)
      · exact hJ5 _
      · refine r_aload_n dX12_comes_34 rfl rfl ?_
        refine r_getR (k' := 199) dX12_comes_35 fl_X12_7 kdc_198 rfl ?_
        refine r_iconst ic_4 dX12_comes_38 ?_
        refine r_iload_n dX12_comes_39 rfl rfl ?_
        refine r_iast dX12_comes_40 kdc_199 (fun M12 => ?_)
        exact hJ5 _
  · refine r_if_ne dX12_comes_19 (fun h => eF h ?_) (fun h => eT h ?_)
    · exact hJ3 _
    · refine r_aload_n dX12_comes_22 rfl rfl ?_
      refine r_getR (k' := 199) dX12_comes_23 fl_X12_7 kdc_198 rfl ?_
      refine r_iconst ic_3 dX12_comes_26 ?_
      refine r_iload_n dX12_comes_27 rfl rfl ?_
      refine r_iast dX12_comes_28 kdc_199 (fun M13 => ?_)
      exact hJ3 _
theorem kX12_comes {g : G}   (p1 : Int32) (M : Mem) : CtrV g uX12_comes 2 rmU [.ref (ga g 198), .int p1] M (fX12_comes p1 M) := CtrV.of mX12_comes rfl (Nat.le_of_ble_eq_true rfl) rfl (vX12_comes p1 M)
set_option maxHeartbeats 4000000 in
set_option maxRecDepth 100000 in
theorem vX12_wipesOf {g : G}   (p1 : Int32) (M : Mem) : V g uX12_wipesOf 5 rvW rmW 0 [.ref (ga g 198), .int p1] [] M (fX12_wipesOf p1 M) := by
  unfold fX12_wipesOf
  refine r_aload_n dX12_wipesOf_0 rfl rfl ?_
  refine r_iload_n dX12_wipesOf_1 rfl rfl ?_
  refine r_iconst ic_m1 dX12_wipesOf_2 ?_
  refine r_iconst ic_0 dX12_wipesOf_3 ?_
  refine r_callv (cl_V [.int p1, .int (-1), .int 0] bX12_asks (by decide) dX12_wipesOf_4 ml_X12_320 kdc_198 rfl (Nat.le_of_ble_eq_true rfl) rfl) (kX12_asks _ _ _ _) (fun M1 _ => ?_)
  refine r_aload_n dX12_wipesOf_7 rfl rfl ?_
  refine r_iconst ic_1 dX12_wipesOf_8 ?_
  refine r_aload_n dX12_wipesOf_9 rfl rfl ?_
  refine r_getR (k' := 219) dX12_wipesOf_10 fl_X12_74 kdc_198 rfl ?_
  refine r_iconst ic_4 dX12_wipesOf_13 ?_
  refine r_iald dX12_wipesOf_14 kdc_219 (fun v2 => ?_)
  refine r_iconst ic_2 dX12_wipesOf_15 ?_
  refine r_idiv dX12_wipesOf_16 (by decide) ?_
  refine r_aload_n dX12_wipesOf_17 rfl rfl ?_
  refine r_getR (k' := 219) dX12_wipesOf_18 fl_X12_74 kdc_198 rfl ?_
  refine r_iconst ic_5 dX12_wipesOf_21 ?_
  refine r_iald dX12_wipesOf_22 kdc_219 (fun v3 => ?_)
  refine r_iconst ic_2 dX12_wipesOf_23 ?_
  refine r_idiv dX12_wipesOf_24 (by decide) ?_
  refine r_iadd dX12_wipesOf_25 ?_
  refine r_bipush bp_9 dX12_wipesOf_26 ?_
  refine r_calli (cl_V [.int 1, .int ((v2 / 2) + (v3 / 2)), .int 9] bX12_lawTells (by decide) dX12_wipesOf_28 ml_X12_324 kdc_198 rfl (Nat.le_of_ble_eq_true rfl) rfl) (kX12_lawTells _ _ _ _) (fun r4 _ => ?_)
  exact vRet rfl rfl rfl dX12_wipesOf_31
theorem kX12_wipesOf {g : G}   (p1 : Int32) (M : Mem) : CtrI g uX12_wipesOf 5 (fun r => r.1) rmW [.ref (ga g 198), .int p1] M (fX12_wipesOf p1 M) := CtrI.of mX12_wipesOf rfl (Nat.le_of_ble_eq_true rfl) rfl (vX12_wipesOf p1 M)
