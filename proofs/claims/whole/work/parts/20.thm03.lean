set_option maxHeartbeats 4000000 in
set_option maxRecDepth 100000 in
theorem vX12_greater {g : G}   (p1 : Int32) (p2 : Int32) (M : Mem) : V g uX12_greater 1 rvI (rmP M) 0 [.ref (ga g 198), .int p1, .int p2] [] M (some (fX12_greater p1 p2)) := by
  unfold fX12_greater
  refine r_iload_n dX12_greater_0 rfl rfl ?_
  refine r_iload_n dX12_greater_1 rfl rfl ?_
  refine r_icmp_le dX12_greater_2 (fun h => eTT h ?_) (fun h => eFT h ?_)
  · refine r_iload_n dX12_greater_9 rfl rfl ?_
    exact vRet rfl rfl rfl dX12_greater_10
  · refine r_iload_n dX12_greater_5 rfl rfl ?_
    refine r_goto dX12_greater_6 ?_
    exact vRet rfl rfl rfl dX12_greater_10
theorem kX12_greater {g : G}   (p1 : Int32) (p2 : Int32) (M : Mem) : CtrI g uX12_greater 1 (fun r => r) (rmP M) [.ref (ga g 198), .int p1, .int p2] M (some (fX12_greater p1 p2)) := CtrI.of mX12_greater rfl (Nat.le_of_ble_eq_true rfl) rfl (vX12_greater p1 p2 M)
set_option maxHeartbeats 4000000 in
set_option maxRecDepth 100000 in
theorem vX12_goesBy_L2 {g : G}  (K39 : Mem → Option (Int32 × Mem))    (hK39 : ∀ (M : Mem), V g uX12_goesBy 7 rvW rmW 39 [.ref (ga g 198), .null, .null] [] M (K39 M)) : ∀ (n : Nat) (y1 : Int32) (M : Mem), V g uX12_goesBy 7 rvW rmW 2 [.ref (ga g 198), .int y1, .null] [] M (fX12_goesBy_L2 K39 n y1 M) := by
  intro n
  induction n with
  | zero => intro y1 M; exact vNone
  | succ n ih =>
    intro y1 M
    rw [fX12_goesBy_L2]
    refine r_iload_n dX12_goesBy_2 rfl rfl ?_
    refine r_iconst ic_4 dX12_goesBy_3 ?_
    refine r_aload_n dX12_goesBy_4 rfl rfl ?_
    refine r_getI dX12_goesBy_5 fl_X12_290 kdc_198 ?_
    refine r_imul dX12_goesBy_8 ?_
    refine r_icmp_ge dX12_goesBy_9 (fun h => eT h ?_) (fun h => eF h ?_)
    · exact vSub (l' := [.ref (ga g 198), .null, .null]) ⟨Or.inr rfl, ⟨Or.inl rfl, ⟨Or.inl rfl, trivial⟩⟩⟩ (hK39 _)
    · refine r_aload_n dX12_goesBy_12 rfl rfl ?_
      refine r_getR (k' := 217) dX12_goesBy_13 fl_X12_68 kdc_198 rfl ?_
      refine r_iload_n dX12_goesBy_16 rfl rfl ?_
      refine r_iald dX12_goesBy_17 kdc_217 (fun v1 => ?_)
      refine r_aload_n dX12_goesBy_18 rfl rfl ?_
      refine r_getR (k' := 199) dX12_goesBy_19 fl_X12_7 kdc_198 rfl ?_
      refine r_iconst ic_0 dX12_goesBy_22 ?_
      refine r_iald dX12_goesBy_23 kdc_199 (fun v2 => ?_)
      refine eJ (fun (J3 : (Mem) → Option (Int32 × Mem)) => ∀ (M4 : Mem), V g uX12_goesBy 7 rvW rmW 32 [.ref (ga g 198), .int y1, .null] [] M4 (J3 M4)) (fun M4 => ?_) (fun J3 hJ3 => ?_)
      · refine r_iload_n dX12_goesBy_32 rfl rfl ?_
        refine r_iconst ic_4 dX12_goesBy_33 ?_
        refine r_iadd dX12_goesBy_34 ?_
        refine r_bndi (fun x5 => ?_)
        refine r_istore_n (l' := [.ref (ga g 198), .int x5, .null]) dX12_goesBy_35 rfl (Nat.le_of_ble_eq_true rfl) rfl rfl ?_
        refine r_goto dX12_goesBy_36 ?_
        exact ih _ _
      · refine r_icmp_ne dX12_goesBy_24 (fun h => eF h ?_) (fun h => eT h ?_)
        · exact hJ3 _
        · refine r_aload_n dX12_goesBy_27 rfl rfl ?_
          refine r_iload_n dX12_goesBy_28 rfl rfl ?_
          refine r_callv (cl_V [.int y1] bX12_comes (by decide) dX12_goesBy_29 ml_X12_367 kdc_198 rfl (Nat.le_of_ble_eq_true rfl) rfl) (kX12_comes _ _) (fun M6 _ => ?_)
          exact hJ3 _
set_option maxHeartbeats 4000000 in
set_option maxRecDepth 100000 in
theorem vX12_goesBy_L43 {g : G}  (K125 : Int32 → Mem → Option (Int32 × Mem))    (hK125 : ∀ (e1 : Int32) (M : Mem), V g uX12_goesBy 7 rvW rmW 125 [.ref (ga g 198), .int e1, .null] [] M (K125 e1 M)) : ∀ (n : Nat) (y1 : Int32) (y2 : Int32) (M : Mem), V g uX12_goesBy 7 rvW rmW 43 [.ref (ga g 198), .int y1, .int y2] [] M (fX12_goesBy_L43 K125 n y1 y2 M) := by
  intro n
  induction n with
  | zero => intro y1 y2 M; exact vNone
  | succ n ih =>
    intro y1 y2 M
    rw [fX12_goesBy_L43]
    refine r_iload_n dX12_goesBy_43 rfl rfl ?_
    refine r_iconst ic_3 dX12_goesBy_44 ?_
    refine r_aload_n dX12_goesBy_45 rfl rfl ?_
    refine r_getI dX12_goesBy_46 fl_X12_287 kdc_198 ?_
    refine r_imul dX12_goesBy_49 ?_
    refine r_icmp_ge dX12_goesBy_50 (fun h => eT h ?_) (fun h => eF h ?_)
    · exact vSub (l' := [.ref (ga g 198), .int y1, .null]) ⟨Or.inr rfl, ⟨Or.inr rfl, ⟨Or.inl rfl, trivial⟩⟩⟩ (hK125 _ _)
    · refine r_aload_n dX12_goesBy_53 rfl rfl ?_
      refine r_getR (k' := 216) dX12_goesBy_54 fl_X12_65 kdc_198 rfl ?_
      refine r_iload_n dX12_goesBy_57 rfl rfl ?_
      refine r_iald dX12_goesBy_58 kdc_216 (fun v8 => ?_)
      refine r_aload_n dX12_goesBy_59 rfl rfl ?_
      refine r_getR (k' := 199) dX12_goesBy_60 fl_X12_7 kdc_198 rfl ?_
      refine r_iconst ic_0 dX12_goesBy_63 ?_
      refine r_iald dX12_goesBy_64 kdc_199 (fun v9 => ?_)
      refine eJ (fun (J10 : (Int32) → (Mem) → Option (Int32 × Mem)) => ∀ (a11 : Int32) (M12 : Mem), V g uX12_goesBy 7 rvW rmW 118 [.ref (ga g 198), .int a11, .int y2] [] M12 (J10 a11 M12)) (fun a11 M12 => ?_) (fun J10 hJ10 => ?_)
      · refine r_iload_n dX12_goesBy_118 rfl rfl ?_
        refine r_iconst ic_3 dX12_goesBy_119 ?_
        refine r_iadd dX12_goesBy_120 ?_
        refine r_bndi (fun x13 => ?_)
        refine r_istore_n (l' := [.ref (ga g 198), .int a11, .int x13]) dX12_goesBy_121 rfl (Nat.le_of_ble_eq_true rfl) rfl rfl ?_
        refine r_goto dX12_goesBy_122 ?_
        exact ih _ _ _
      · refine r_icmp_ne dX12_goesBy_65 (fun h => eF h ?_) (fun h => eT h ?_)
        · exact hJ10 _ _
        · refine r_aload_n dX12_goesBy_68 rfl rfl ?_
          refine r_aload_n dX12_goesBy_69 rfl rfl ?_
          refine r_getR (k' := 216) dX12_goesBy_70 fl_X12_65 kdc_198 rfl ?_
          refine r_iload_n dX12_goesBy_73 rfl rfl ?_
          refine r_iconst ic_1 dX12_goesBy_74 ?_
          refine r_iadd dX12_goesBy_75 ?_
          refine r_iald dX12_goesBy_76 kdc_216 (fun v14 => ?_)
          refine r_aload_n dX12_goesBy_77 rfl rfl ?_
          refine r_getR (k' := 216) dX12_goesBy_78 fl_X12_65 kdc_198 rfl ?_
          refine r_iload_n dX12_goesBy_81 rfl rfl ?_
          refine r_iconst ic_2 dX12_goesBy_82 ?_
          refine r_iadd dX12_goesBy_83 ?_
          refine r_iald dX12_goesBy_84 kdc_216 (fun v15 => ?_)
          refine r_calli (cl_V [.int v14, .int v15] bX12_canHop (by decide) dX12_goesBy_85 ml_X12_349 kdc_198 rfl (Nat.le_of_ble_eq_true rfl) rfl) (kX12_canHop _ _ _) (fun v16 _ => ?_)
          refine r_if_eq dX12_goesBy_88 (fun h => eT h ?_) (fun h => eF h ?_)
          · exact hJ10 _ _
          · refine r_aload_n dX12_goesBy_91 rfl rfl ?_
            refine r_aload_n dX12_goesBy_92 rfl rfl ?_
            refine r_getR (k' := 216) dX12_goesBy_93 fl_X12_65 kdc_198 rfl ?_
            refine r_iload_n dX12_goesBy_96 rfl rfl ?_
            refine r_iconst ic_1 dX12_goesBy_97 ?_
            refine r_iadd dX12_goesBy_98 ?_
            refine r_iald dX12_goesBy_99 kdc_216 (fun v17 => ?_)
            refine r_aload_n dX12_goesBy_100 rfl rfl ?_
            refine r_getR (k' := 216) dX12_goesBy_101 fl_X12_65 kdc_198 rfl ?_
            refine r_iload_n dX12_goesBy_104 rfl rfl ?_
            refine r_iconst ic_2 dX12_goesBy_105 ?_
            refine r_iadd dX12_goesBy_106 ?_
            refine r_iald dX12_goesBy_107 kdc_216 (fun v18 => ?_)
            refine r_calli (cl_V [.int v17, .int v18] bX12_hopsOver (by decide) dX12_goesBy_108 ml_X12_358 kdc_198 rfl (Nat.le_of_ble_eq_true rfl) rfl) (kX12_hopsOver _ _ _) (fun r19 _ => ?_)
            refine r_if_eq dX12_goesBy_111 (fun h => eT h ?_) (fun h => eF h ?_)
            · exact hJ10 _ _
            · refine r_iload_n dX12_goesBy_114 rfl rfl ?_
              refine r_iconst ic_1 dX12_goesBy_115 ?_
              refine r_iadd dX12_goesBy_116 ?_
              refine r_bndi (fun x20 => ?_)
              refine r_istore_n (l' := [.ref (ga g 198), .int x20, .int y2]) dX12_goesBy_117 rfl (Nat.le_of_ble_eq_true rfl) rfl rfl ?_
              exact hJ10 _ _
set_option maxHeartbeats 4000000 in
set_option maxRecDepth 100000 in
theorem vX12_goesBy_L127 {g : G}  (K202 : Mem → Option (Int32 × Mem))  (c1 : Int32)  (hK202 : ∀ (M : Mem), V g uX12_goesBy 7 rvW rmW 202 [.ref (ga g 198), .int c1, .null] [] M (K202 M)) : ∀ (n : Nat) (y2 : Int32) (M : Mem), V g uX12_goesBy 7 rvW rmW 127 [.ref (ga g 198), .int c1, .int y2] [] M (fX12_goesBy_L127 K202 n y2 M) := by
  intro n
  induction n with
  | zero => intro y2 M; exact vNone
  | succ n ih =>
    intro y2 M
    rw [fX12_goesBy_L127]
    refine r_iload_n dX12_goesBy_127 rfl rfl ?_
    refine r_aload_n dX12_goesBy_128 rfl rfl ?_
    refine r_getI dX12_goesBy_129 fl_X12_137 kdc_198 ?_
    refine r_icmp_ge dX12_goesBy_132 (fun h => eT h ?_) (fun h => eF h ?_)
    · exact vSub (l' := [.ref (ga g 198), .int c1, .null]) ⟨Or.inr rfl, ⟨Or.inr rfl, ⟨Or.inl rfl, trivial⟩⟩⟩ (hK202 _)
    · refine r_aload_n dX12_goesBy_135 rfl rfl ?_
      refine r_getR (k' := 199) dX12_goesBy_136 fl_X12_7 kdc_198 rfl ?_
      refine r_bipush bp_69 dX12_goesBy_139 ?_
      refine r_iload_n dX12_goesBy_141 rfl rfl ?_
      refine r_iadd dX12_goesBy_142 ?_
      refine r_iald dX12_goesBy_143 kdc_199 (fun v23 => ?_)
      refine eJ (fun (J24 : (Mem) → Option (Int32 × Mem)) => ∀ (M25 : Mem), V g uX12_goesBy 7 rvW rmW 196 [.ref (ga g 198), .int c1, .int y2] [] M25 (J24 M25)) (fun M25 => ?_) (fun J24 hJ24 => ?_)
      · refine r_iinc (l' := [.ref (ga g 198), .int c1, .int (y2 + 1)]) dX12_goesBy_196 rfl (inc_1 _) (Nat.le_of_ble_eq_true rfl) rfl rfl ?_
        refine r_goto dX12_goesBy_199 ?_
        exact ih _ _
      · refine r_if_eq dX12_goesBy_144 (fun h => eT h ?_) (fun h => eF h ?_)
        · refine r_aload_n dX12_goesBy_150 rfl rfl ?_
          refine r_getR (k' := 199) dX12_goesBy_151 fl_X12_7 kdc_198 rfl ?_
          refine r_bipush bp_41 dX12_goesBy_154 ?_
          refine r_iload_n dX12_goesBy_156 rfl rfl ?_
          refine r_iadd dX12_goesBy_157 ?_
          refine r_aload_n dX12_goesBy_158 rfl rfl ?_
          refine r_iconst ic_0 dX12_goesBy_159 ?_
          refine r_aload_n dX12_goesBy_160 rfl rfl ?_
          refine r_getR (k' := 199) dX12_goesBy_161 fl_X12_7 kdc_198 rfl ?_
          refine r_bipush bp_41 dX12_goesBy_164 ?_
          refine r_iload_n dX12_goesBy_166 rfl rfl ?_
          refine r_iadd dX12_goesBy_167 ?_
          refine r_iald dX12_goesBy_168 kdc_199 (fun v26 => ?_)
          refine r_aload_n dX12_goesBy_169 rfl rfl ?_
          refine r_iload_n dX12_goesBy_170 rfl rfl ?_
          refine r_calli (cl_V [.int y2] bX12_wipesOf (by decide) dX12_goesBy_171 ml_X12_370 kdc_198 rfl (Nat.le_of_ble_eq_true rfl) rfl) (kX12_wipesOf _ _) (fun r27 _ => ?_)
          refine r_isub dX12_goesBy_174 ?_
          refine r_calliT (cl_V [.int 0, .int (v26 - r27.1)] bX12_greater (by decide) dX12_goesBy_175 ml_X12_373 kdc_198 rfl (Nat.le_of_ble_eq_true rfl) rfl) (kX12_greater _ _ _) ?_
          refine r_iast dX12_goesBy_178 kdc_199 (fun M28 => ?_)
          refine r_aload_n dX12_goesBy_179 rfl rfl ?_
          refine r_getR (k' := 199) dX12_goesBy_180 fl_X12_7 kdc_198 rfl ?_
          refine r_bipush bp_41 dX12_goesBy_183 ?_
          refine r_iload_n dX12_goesBy_185 rfl rfl ?_
          refine r_iadd dX12_goesBy_186 ?_
          refine r_iald dX12_goesBy_187 kdc_199 (fun v29 => ?_)
          refine r_if_ne dX12_goesBy_188 (fun h => eF h ?_) (fun h => eT h ?_)
          · exact hJ24 _
          · refine r_aload_n dX12_goesBy_191 rfl rfl ?_
            refine r_iload_n dX12_goesBy_192 rfl rfl ?_
            refine r_callv (cl_V [.int y2] bX12_isBlurred (by decide) dX12_goesBy_193 ml_X12_364 kdc_198 rfl (Nat.le_of_ble_eq_true rfl) rfl) (kX12_isBlurred _ _) (fun M30 _ => ?_)
            exact hJ24 _
        · refine r_goto dX12_goesBy_147 ?_
          exact hJ24 _
set_option maxHeartbeats 4000000 in
set_option maxRecDepth 100000 in
theorem vX12_goesBy {g : G}    (M : Mem) : V g uX12_goesBy 7 rvW rmW 0 [.ref (ga g 198), .null, .null] [] M (fX12_goesBy M) := by
  unfold fX12_goesBy
  refine r_iconst ic_0 dX12_goesBy_0 ?_
  refine r_istore_n (l' := [.ref (ga g 198), .int 0, .null]) dX12_goesBy_1 rfl (Nat.le_of_ble_eq_true rfl) rfl rfl ?_
  refine vX12_goesBy_L2 _ (fun M7 => ?_) FU _ _
  · refine r_iconst ic_0 dX12_goesBy_39 ?_
    refine r_istore_n (l' := [.ref (ga g 198), .int 0, .null]) dX12_goesBy_40 rfl (Nat.le_of_ble_eq_true rfl) rfl rfl ?_
    refine r_iconst ic_0 dX12_goesBy_41 ?_
    refine r_istore_n (l' := [.ref (ga g 198), .int 0, .int 0]) dX12_goesBy_42 rfl (Nat.le_of_ble_eq_true rfl) rfl rfl ?_
    refine vX12_goesBy_L43 _ (fun e21 M22 => ?_) FU _ _ _
    · refine r_iconst ic_0 dX12_goesBy_125 ?_
      refine r_istore_n (l' := [.ref (ga g 198), .int e21, .int 0]) dX12_goesBy_126 rfl (Nat.le_of_ble_eq_true rfl) rfl rfl ?_
      refine vX12_goesBy_L127 _ _ (fun M31 => ?_) FU _ _
      · refine r_aload_n dX12_goesBy_202 rfl rfl ?_
        refine r_getR (k' := 199) dX12_goesBy_203 fl_X12_7 kdc_198 rfl ?_
        refine r_iconst ic_0 dX12_goesBy_206 ?_
        refine r_aload_n dX12_goesBy_207 rfl rfl ?_
        refine r_getR (k' := 199) dX12_goesBy_208 fl_X12_7 kdc_198 rfl ?_
        refine r_iconst ic_0 dX12_goesBy_211 ?_
        refine r_iald dX12_goesBy_212 kdc_199 (fun v32 => ?_)
        refine r_iconst ic_1 dX12_goesBy_213 ?_
        refine r_iadd dX12_goesBy_214 ?_
        refine r_iast dX12_goesBy_215 kdc_199 (fun M33 => ?_)
        refine r_iload_n dX12_goesBy_216 rfl rfl ?_
        exact vRet rfl rfl rfl dX12_goesBy_217
theorem kX12_goesBy {g : G}    (M : Mem) : CtrI g uX12_goesBy 7 (fun r => r.1) rmW [.ref (ga g 198)] M (fX12_goesBy M) := CtrI.of mX12_goesBy rfl (Nat.le_of_ble_eq_true rfl) rfl (vX12_goesBy M)
set_option maxHeartbeats 4000000 in
set_option maxRecDepth 100000 in
theorem vX12_days_L36 {g : G}   (z1 : Int32)    : ∀ (n : Nat) (y2 : Int32) (y3 : Int32) (M : Mem), V g uX12_days 8 rvW rmW 36 [.ref (ga g 198), .int z1, .int y2, .int y3] [] M (fX12_days_L36 z1 n y2 y3 M) := by
  intro n
  induction n with
  | zero => intro y2 y3 M; exact vNone
  | succ n ih =>
    intro y2 y3 M
    rw [fX12_days_L36]
    refine r_iload_n dX12_days_36 rfl rfl ?_
    refine r_iload_n dX12_days_37 rfl rfl ?_
    refine r_icmp_ge dX12_days_38 (fun h => eT h ?_) (fun h => eF h ?_)
    · refine r_iload_n dX12_days_58 rfl rfl ?_
      exact vRet rfl rfl rfl dX12_days_59
    · refine r_aload_n dX12_days_41 rfl rfl ?_
      refine r_callv (cl_V [] bX12_keepsAhead (by decide) dX12_days_42 ml_X12_355 kdc_198 rfl (Nat.le_of_ble_eq_true rfl) rfl) (kX12_keepsAhead _) (fun M3 _ => ?_)
      refine r_iload_n dX12_days_45 rfl rfl ?_
      refine r_aload_n dX12_days_46 rfl rfl ?_
      refine r_calli (cl_V [] bX12_goesBy (by decide) dX12_days_47 ml_X12_376 kdc_198 rfl (Nat.le_of_ble_eq_true rfl) rfl) (kX12_goesBy _) (fun r4 _ => ?_)
      refine r_iadd dX12_days_50 ?_
      refine r_bndi (fun x5 => ?_)
      refine r_istore_n (l' := [.ref (ga g 198), .int z1, .int x5, .int y3]) dX12_days_51 rfl (Nat.le_of_ble_eq_true rfl) rfl rfl ?_
      refine r_iinc (l' := [.ref (ga g 198), .int z1, .int x5, .int (y3 + 1)]) dX12_days_52 rfl (inc_1 _) (Nat.le_of_ble_eq_true rfl) rfl rfl ?_
      refine r_goto dX12_days_55 ?_
      exact ih _ _ _
set_option maxHeartbeats 4000000 in
set_option maxRecDepth 100000 in
theorem vX12_days {g : G}   (p1 : Int32) (M : Mem) : V g uX12_days 8 rvW rmW 0 [.ref (ga g 198), .int p1, .null, .null] [] M (fX12_days p1 M) := by
  unfold fX12_days
  refine r_aload_n dX12_days_0 rfl rfl ?_
  refine r_iconst ic_0 dX12_days_1 ?_
  refine r_put dX12_days_2 fw_X12_122 kdc_198 (fun M1 => ?_)
  refine r_aload_n dX12_days_5 rfl rfl ?_
  refine r_iload_n dX12_days_6 rfl rfl ?_
  refine r_iconst ic_1 dX12_days_7 ?_
  refine r_bipush bp_60 dX12_days_8 ?_
  refine r_calliT (cl_V [.int p1, .int 1, .int 60] bX12_isIn (by decide) dX12_days_10 ml_X12_140 kdc_198 rfl (Nat.le_of_ble_eq_true rfl) rfl) (kX12_isIn _ _ _ _) ?_
  refine r_if_eq dX12_days_13 (fun h => eT h ?_) (fun h => eF h ?_)
  · refine r_iconst ic_m1 dX12_days_30 ?_
    exact vRet rfl rfl rfl dX12_days_31
  · refine r_aload_n dX12_days_16 rfl rfl ?_
    refine r_getR (k' := 199) dX12_days_17 fl_X12_7 kdc_198 rfl ?_
    refine r_iconst ic_0 dX12_days_20 ?_
    refine r_iald dX12_days_21 kdc_199 (fun v2 => ?_)
    refine r_iload_n dX12_days_22 rfl rfl ?_
    refine r_iadd dX12_days_23 ?_
    refine r_sipush sp_9999 dX12_days_24 ?_
    refine r_icmp_le dX12_days_27 (fun h => eT h ?_) (fun h => eF h ?_)
    · refine r_iconst ic_0 dX12_days_32 ?_
      refine r_istore_n (l' := [.ref (ga g 198), .int p1, .int 0, .null]) dX12_days_33 rfl (Nat.le_of_ble_eq_true rfl) rfl rfl ?_
      refine r_iconst ic_0 dX12_days_34 ?_
      refine r_istore_n (l' := [.ref (ga g 198), .int p1, .int 0, .int 0]) dX12_days_35 rfl (Nat.le_of_ble_eq_true rfl) rfl rfl ?_
      refine vX12_days_L36 _ FU _ _ _
    · refine r_iconst ic_m1 dX12_days_30 ?_
      exact vRet rfl rfl rfl dX12_days_31
theorem kX12_days {g : G}   (p1 : Int32) (M : Mem) : CtrI g uX12_days 8 (fun r => r.1) rmW [.ref (ga g 198), .int p1] M (fX12_days p1 M) := CtrI.of mX12_days rfl (Nat.le_of_ble_eq_true rfl) rfl (vX12_days p1 M)
set_option maxHeartbeats 4000000 in
set_option maxRecDepth 100000 in
theorem vX8_append_L3 {g : G}   (z1 : Int32)    : ∀ (n : Nat) (y2 : Int32) (M : Mem), V g uX8_append 1 rvU rmU 3 [.ref (ga g 178), .int z1, .int y2] [] M (fX8_append_L3 z1 n y2 M) := by
  intro n
  induction n with
  | zero => intro y2 M; exact vNone
  | succ n ih =>
    intro y2 M
    rw [fX8_append_L3]
    refine r_iload_n dX8_append_3 rfl rfl ?_
    refine r_if_lt dX8_append_4 (fun h => eT h ?_) (fun h => eF h ?_)
    · exact vRet rfl rfl trivial dX8_append_46
    · refine r_aload_n dX8_append_7 rfl rfl ?_
      refine r_getI dX8_append_8 fl_X8_19 kdc_178 ?_
      refine r_sipush sp_400 dX8_append_11 ?_
      refine eJ (fun (J1 : (Mem) → Option (Mem)) => ∀ (M2 : Mem), V g uX8_append 1 rvU rmU 40 [.ref (ga g 178), .int z1, .int y2] [] M2 (J1 M2)) (fun M2 => ?_) (fun J1 hJ1 => ?_)
      · refine r_iinc (l' := [.ref (ga g 178), .int z1, .int (y2 + (-8))]) dX8_append_40 rfl (inc_m8 _) (Nat.le_of_ble_eq_true rfl) rfl rfl ?_
        refine r_goto dX8_append_43 ?_
        exact ih _ _
      · refine r_icmp_ge dX8_append_14 (fun h => eT h ?_) (fun h => eF h ?_)
        · exact hJ1 _
        · refine r_aload_n dX8_append_17 rfl rfl ?_
          refine r_getR (k' := 179) dX8_append_18 fl_X8_9 kdc_178 rfl ?_
          refine r_aload_n dX8_append_21 rfl rfl ?_
          refine r_getI dX8_append_22 fl_X8_19 kdc_178 ?_
          refine r_iload_n dX8_append_25 rfl rfl ?_
          refine r_iload_n dX8_append_26 rfl rfl ?_
          refine r_ishr dX8_append_27 ?_
          refine r_i2b dX8_append_28 ?_
          refine r_bast dX8_append_29 kdc_179 (fun M3 => ?_)
          refine r_aload_n dX8_append_30 rfl rfl ?_
          refine r_dup dX8_append_31 rfl ?_
          refine r_getI dX8_append_32 fl_X8_19 kdc_178 ?_
          refine r_iconst ic_1 dX8_append_35 ?_
          refine r_iadd dX8_append_36 ?_
          refine r_put dX8_append_37 fw_X8_19 kdc_178 (fun M4 => ?_)
          exact hJ1 _
set_option maxHeartbeats 4000000 in
set_option maxRecDepth 100000 in
theorem vX8_append {g : G}   (p1 : Int32) (M : Mem) : V g uX8_append 1 rvU rmU 0 [.ref (ga g 178), .int p1, .null] [] M (fX8_append p1 M) := by
  unfold fX8_append
  refine r_bipush bp_24 dX8_append_0 ?_
  refine r_istore_n (l' := [.ref (ga g 178), .int p1, .int 24]) dX8_append_2 rfl (Nat.le_of_ble_eq_true rfl) rfl rfl ?_
  refine vX8_append_L3 _ FU _ _
theorem kX8_append {g : G}   (p1 : Int32) (M : Mem) : CtrV g uX8_append 1 rmU [.ref (ga g 178), .int p1] M (fX8_append p1 M) := CtrV.of mX8_append rfl (Nat.le_of_ble_eq_true rfl) rfl (vX8_append p1 M)
set_option maxHeartbeats 4000000 in
set_option maxRecDepth 100000 in
theorem vX11_feed {g : G}   (p1 : Int32) (p2 : Int32) (p3 : Int32) (p4 : Int32) (p5 : Int32) (M : Mem) : V g uX11_feed 2 rvW rmW 0 [.ref (ga g 0), .int p1, .int p2, .int p3, .int p4, .int p5] [] M (fX11_feed p1 p2 p3 p4 p5 M) := by
  unfold fX11_feed
  refine r_aload_n dX11_feed_0 rfl rfl ?_
  refine r_getR (k' := 178) dX11_feed_1 fl_X11_36 kdc_0 rfl ?_
  refine r_getI dX11_feed_4 fl_X11_150 kdc_178 ?_
  refine r_bipush bp_20 dX11_feed_7 ?_
  refine r_iadd dX11_feed_9 ?_
  refine r_sipush sp_400 dX11_feed_10 ?_
  refine r_icmp_le dX11_feed_13 (fun h => eT h ?_) (fun h => eF h ?_)
  · refine r_aload_n dX11_feed_18 rfl rfl ?_
    refine r_getR (k' := 178) dX11_feed_19 fl_X11_36 kdc_0 rfl ?_
    refine r_iload_n dX11_feed_22 rfl rfl ?_
    refine r_callv (cl_V [.int p1] bX8_append (by decide) dX11_feed_23 ml_X11_153 kdc_178 rfl (Nat.le_of_ble_eq_true rfl) rfl) (kX8_append _ _) (fun M1 _ => ?_)
    refine r_aload_n dX11_feed_26 rfl rfl ?_
    refine r_getR (k' := 178) dX11_feed_27 fl_X11_36 kdc_0 rfl ?_
    refine r_iload_n dX11_feed_30 rfl rfl ?_
    refine r_callv (cl_V [.int p2] bX8_append (by decide) dX11_feed_31 ml_X11_153 kdc_178 rfl (Nat.le_of_ble_eq_true rfl) rfl) (kX8_append _ _) (fun M2 _ => ?_)
    refine r_aload_n dX11_feed_34 rfl rfl ?_
    refine r_getR (k' := 178) dX11_feed_35 fl_X11_36 kdc_0 rfl ?_
    refine r_iload_n dX11_feed_38 rfl rfl ?_
    refine r_callv (cl_V [.int p3] bX8_append (by decide) dX11_feed_39 ml_X11_153 kdc_178 rfl (Nat.le_of_ble_eq_true rfl) rfl) (kX8_append _ _) (fun M3 _ => ?_)
    refine r_aload_n dX11_feed_42 rfl rfl ?_
    refine r_getR (k' := 178) dX11_feed_43 fl_X11_36 kdc_0 rfl ?_
    refine r_iload dX11_feed_46 rfl ?_
    refine r_callv (cl_V [.int p4] bX8_append (by decide) dX11_feed_48 ml_X11_153 kdc_178 rfl (Nat.le_of_ble_eq_true rfl) rfl) (kX8_append _ _) (fun M4 _ => ?_)
    refine r_aload_n dX11_feed_51 rfl rfl ?_
    refine r_getR (k' := 178) dX11_feed_52 fl_X11_36 kdc_0 rfl ?_
    refine r_iload dX11_feed_55 rfl ?_
    refine r_callv (cl_V [.int p5] bX8_append (by decide) dX11_feed_57 ml_X11_153 kdc_178 rfl (Nat.le_of_ble_eq_true rfl) rfl) (kX8_append _ _) (fun M5 _ => ?_)
    refine r_aload_n dX11_feed_60 rfl rfl ?_
    refine r_getR (k' := 178) dX11_feed_61 fl_X11_36 kdc_0 rfl ?_
    refine r_getI dX11_feed_64 fl_X11_150 kdc_178 ?_
    exact vRet rfl rfl rfl dX11_feed_67
  · refine r_iconst ic_m1 dX11_feed_16 ?_
    exact vRet rfl rfl rfl dX11_feed_17
theorem kX11_feed {g : G}   (p1 : Int32) (p2 : Int32) (p3 : Int32) (p4 : Int32) (p5 : Int32) (M : Mem) : CtrI g uX11_feed 2 (fun r => r.1) rmW [.ref (ga g 0), .int p1, .int p2, .int p3, .int p4, .int p5] M (fX11_feed p1 p2 p3 p4 p5 M) := CtrI.of mX11_feed rfl (Nat.le_of_ble_eq_true rfl) rfl (vX11_feed p1 p2 p3 p4 p5 M)
set_option maxHeartbeats 4000000 in
set_option maxRecDepth 100000 in
theorem vX12_types_L3 {g : G}   (z1 : Int32)    : ∀ (n : Nat) (y2 : Int32) (M : Mem), V g uX12_types 1 rvU rmU 3 [.ref (ga g 198), .int z1, .int y2] [] M (fX12_types_L3 z1 n y2 M) := by
  intro n
  induction n with
  | zero => intro y2 M; exact vNone
  | succ n ih =>
    intro y2 M
    rw [fX12_types_L3]
    refine r_iload_n dX12_types_3 rfl rfl ?_
    refine r_if_lt dX12_types_4 (fun h => eT h ?_) (fun h => eF h ?_)
    · exact vRet rfl rfl trivial dX12_types_39
    · refine r_aload_n dX12_types_7 rfl rfl ?_
      refine r_getR (k' := 206) dX12_types_8 fl_X12_31 kdc_198 rfl ?_
      refine r_aload_n dX12_types_11 rfl rfl ?_
      refine r_getI dX12_types_12 fl_X12_151 kdc_198 ?_
      refine r_iload_n dX12_types_15 rfl rfl ?_
      refine r_iload_n dX12_types_16 rfl rfl ?_
      refine r_ishr dX12_types_17 ?_
      refine r_sipush sp_255 dX12_types_18 ?_
      refine r_iand dX12_types_21 ?_
      refine r_iast dX12_types_22 kdc_206 (fun M1 => ?_)
      refine r_aload_n dX12_types_23 rfl rfl ?_
      refine r_aload_n dX12_types_24 rfl rfl ?_
      refine r_getI dX12_types_25 fl_X12_151 kdc_198 ?_
      refine r_iconst ic_1 dX12_types_28 ?_
      refine r_iadd dX12_types_29 ?_
      refine r_put dX12_types_30 fw_X12_151 kdc_198 (fun M2 => ?_)
      refine r_iinc (l' := [.ref (ga g 198), .int z1, .int (y2 + (-8))]) dX12_types_33 rfl (inc_m8 _) (Nat.le_of_ble_eq_true rfl) rfl rfl ?_
      refine r_goto dX12_types_36 ?_
      exact ih _ _
set_option maxHeartbeats 4000000 in
set_option maxRecDepth 100000 in
theorem vX12_types {g : G}   (p1 : Int32) (M : Mem) : V g uX12_types 1 rvU rmU 0 [.ref (ga g 198), .int p1, .null] [] M (fX12_types p1 M) := by
  unfold fX12_types
  refine r_bipush bp_24 dX12_types_0 ?_
  refine r_istore_n (l' := [.ref (ga g 198), .int p1, .int 24]) dX12_types_2 rfl (Nat.le_of_ble_eq_true rfl) rfl rfl ?_
  refine vX12_types_L3 _ FU _ _
theorem kX12_types {g : G}   (p1 : Int32) (M : Mem) : CtrV g uX12_types 1 rmU [.ref (ga g 198), .int p1] M (fX12_types p1 M) := CtrV.of mX12_types rfl (Nat.le_of_ble_eq_true rfl) rfl (vX12_types p1 M)
set_option maxHeartbeats 4000000 in
set_option maxRecDepth 100000 in
theorem vX12_feed {g : G}   (p1 : Int32) (p2 : Int32) (p3 : Int32) (p4 : Int32) (p5 : Int32) (M : Mem) : V g uX12_feed 2 rvW rmW 0 [.ref (ga g 198), .int p1, .int p2, .int p3, .int p4, .int p5] [] M (fX12_feed p1 p2 p3 p4 p5 M) := by
  unfold fX12_feed
  refine r_aload_n dX12_feed_0 rfl rfl ?_
  refine r_iconst ic_0 dX12_feed_1 ?_
  refine r_put dX12_feed_2 fw_X12_122 kdc_198 (fun M1 => ?_)
  refine r_aload_n dX12_feed_5 rfl rfl ?_
  refine r_getI dX12_feed_6 fl_X12_151 kdc_198 ?_
  refine r_sipush sp_380 dX12_feed_9 ?_
  refine r_icmp_le dX12_feed_12 (fun h => eT h ?_) (fun h => eF h ?_)
  · refine r_aload_n dX12_feed_17 rfl rfl ?_
    refine r_iload_n dX12_feed_18 rfl rfl ?_
    refine r_callv (cl_V [.int p1] bX12_types (by decide) dX12_feed_19 ml_X12_154 kdc_198 rfl (Nat.le_of_ble_eq_true rfl) rfl) (kX12_types _ _) (fun M2 _ => ?_)
    refine r_aload_n dX12_feed_22 rfl rfl ?_
    refine r_iload_n dX12_feed_23 rfl rfl ?_
    refine r_callv (cl_V [.int p2] bX12_types (by decide) dX12_feed_24 ml_X12_154 kdc_198 rfl (Nat.le_of_ble_eq_true rfl) rfl) (kX12_types _ _) (fun M3 _ => ?_)
    refine r_aload_n dX12_feed_27 rfl rfl ?_
    refine r_iload_n dX12_feed_28 rfl rfl ?_
    refine r_callv (cl_V [.int p3] bX12_types (by decide) dX12_feed_29 ml_X12_154 kdc_198 rfl (Nat.le_of_ble_eq_true rfl) rfl) (kX12_types _ _) (fun M4 _ => ?_)
    refine r_aload_n dX12_feed_32 rfl rfl ?_
    refine r_iload dX12_feed_33 rfl ?_
    refine r_callv (cl_V [.int p4] bX12_types (by decide) dX12_feed_35 ml_X12_154 kdc_198 rfl (Nat.le_of_ble_eq_true rfl) rfl) (kX12_types _ _) (fun M5 _ => ?_)
    refine r_aload_n dX12_feed_38 rfl rfl ?_
    refine r_iload dX12_feed_39 rfl ?_
    refine r_callv (cl_V [.int p5] bX12_types (by decide) dX12_feed_41 ml_X12_154 kdc_198 rfl (Nat.le_of_ble_eq_true rfl) rfl) (kX12_types _ _) (fun M6 _ => ?_)
    refine r_aload_n dX12_feed_44 rfl rfl ?_
    refine r_getI dX12_feed_45 fl_X12_151 kdc_198 ?_
    exact vRet rfl rfl rfl dX12_feed_48
  · refine r_iconst ic_m1 dX12_feed_15 ?_
    exact vRet rfl rfl rfl dX12_feed_16
theorem kX12_feed {g : G}   (p1 : Int32) (p2 : Int32) (p3 : Int32) (p4 : Int32) (p5 : Int32) (M : Mem) : CtrI g uX12_feed 2 (fun r => r.1) rmW [.ref (ga g 198), .int p1, .int p2, .int p3, .int p4, .int p5] M (fX12_feed p1 p2 p3 p4 p5 M) := CtrI.of mX12_feed rfl (Nat.le_of_ble_eq_true rfl) rfl (vX12_feed p1 p2 p3 p4 p5 M)
set_option maxHeartbeats 4000000 in
set_option maxRecDepth 100000 in
theorem vX11_end {g : G}   (p1 : Int32) (M : Mem) : V g uX11_end 2 rvW rmW 0 [.ref (ga g 0), .int p1] [] M (fX11_end p1 M) := by
  unfold fX11_end
  refine r_iload_n dX11_end_0 rfl rfl ?_
  refine r_iconst ic_0 dX11_end_1 ?_
  refine r_aload_n dX11_end_2 rfl rfl ?_
  refine r_getR (k' := 178) dX11_end_3 fl_X11_36 kdc_0 rfl ?_
  refine r_getI dX11_end_6 fl_X11_150 kdc_178 ?_
  refine r_calliT (cl_S [.int p1, .int 0, .int (M 178 1)] bX11_isWithin (by decide) dX11_end_9 ml_X11_71 rfl (Nat.le_of_ble_eq_true rfl) rfl) (kX11_isWithin _ _ _ _) ?_
  refine r_if_ne dX11_end_12 (fun h => eF h ?_) (fun h => eT h ?_)
  · refine r_aload_n dX11_end_17 rfl rfl ?_
    refine r_getR (k' := 178) dX11_end_18 fl_X11_36 kdc_0 rfl ?_
    refine r_iload_n dX11_end_21 rfl rfl ?_
    refine r_put dX11_end_22 fw_X11_150 kdc_178 (fun M1 => ?_)
    refine r_iconst ic_1 dX11_end_25 ?_
    exact vRet rfl rfl rfl dX11_end_26
  · refine r_iconst ic_0 dX11_end_15 ?_
    exact vRet rfl rfl rfl dX11_end_16
theorem kX11_end {g : G}   (p1 : Int32) (M : Mem) : CtrI g uX11_end 2 (fun r => r.1) rmW [.ref (ga g 0), .int p1] M (fX11_end p1 M) := CtrI.of mX11_end rfl (Nat.le_of_ble_eq_true rfl) rfl (vX11_end p1 M)
set_option maxHeartbeats 4000000 in
set_option maxRecDepth 100000 in
theorem vX12_end {g : G}   (p1 : Int32) (M : Mem) : V g uX12_end 2 rvW rmW 0 [.ref (ga g 198), .int p1] [] M (fX12_end p1 M) := by
  unfold fX12_end
  refine r_aload_n dX12_end_0 rfl rfl ?_
  refine r_iconst ic_0 dX12_end_1 ?_
  refine r_put dX12_end_2 fw_X12_122 kdc_198 (fun M1 => ?_)
  refine r_aload_n dX12_end_5 rfl rfl ?_
  refine r_iload_n dX12_end_6 rfl rfl ?_
  refine r_iconst ic_0 dX12_end_7 ?_
  refine r_aload_n dX12_end_8 rfl rfl ?_
  refine r_getI dX12_end_9 fl_X12_151 kdc_198 ?_
  refine r_calliT (cl_V [.int p1, .int 0, .int (M1 198 13)] bX12_isIn (by decide) dX12_end_12 ml_X12_140 kdc_198 rfl (Nat.le_of_ble_eq_true rfl) rfl) (kX12_isIn _ _ _ _) ?_
  refine r_if_ne dX12_end_15 (fun h => eF h ?_) (fun h => eT h ?_)
  · refine r_aload_n dX12_end_20 rfl rfl ?_
    refine r_iload_n dX12_end_21 rfl rfl ?_
    refine r_put dX12_end_22 fw_X12_151 kdc_198 (fun M2 => ?_)
    refine r_iconst ic_1 dX12_end_25 ?_
    exact vRet rfl rfl rfl dX12_end_26
  · refine r_iconst ic_0 dX12_end_18 ?_
    exact vRet rfl rfl rfl dX12_end_19
theorem kX12_end {g : G}   (p1 : Int32) (M : Mem) : CtrI g uX12_end 2 (fun r => r.1) rmW [.ref (ga g 198), .int p1] M (fX12_end p1 M) := CtrI.of mX12_end rfl (Nat.le_of_ble_eq_true rfl) rfl (vX12_end p1 M)
set_option maxHeartbeats 4000000 in
set_option maxRecDepth 100000 in
theorem vX8_kindAt {g : G}   (p1 : Int32) (M : Mem) : V g uX8_kindAt 1 rvI (rmP M) 0 [.ref (ga g 178), .int p1, .null] [] M (fX8_kindAt p1 M) := by
  unfold fX8_kindAt
  refine r_iload_n dX8_kindAt_0 rfl rfl ?_
  refine r_if_lt dX8_kindAt_1 (fun h => eT h ?_) (fun h => eF h ?_)
  · refine r_iconst ic_0 dX8_kindAt_19 ?_
    exact vRet rfl rfl rfl dX8_kindAt_20
  · refine r_iload_n dX8_kindAt_4 rfl rfl ?_
    refine r_aload_n dX8_kindAt_5 rfl rfl ?_
    refine r_getI dX8_kindAt_6 fl_X8_19 kdc_178 ?_
    refine r_icmp_ge dX8_kindAt_9 (fun h => eT h ?_) (fun h => eF h ?_)
    · refine r_iconst ic_0 dX8_kindAt_19 ?_
      exact vRet rfl rfl rfl dX8_kindAt_20
    · refine r_iload_n dX8_kindAt_12 rfl rfl ?_
      refine r_sipush sp_400 dX8_kindAt_13 ?_
      refine r_icmp_lt dX8_kindAt_16 (fun h => eT h ?_) (fun h => eF h ?_)
      · refine r_aload_n dX8_kindAt_21 rfl rfl ?_
        refine r_getR (k' := 179) dX8_kindAt_22 fl_X8_9 kdc_178 rfl ?_
        refine r_iload_n dX8_kindAt_25 rfl rfl ?_
        refine r_bald dX8_kindAt_26 kdc_179 (fun v1 => ?_)
        refine r_istore_n (l' := [.ref (ga g 178), .int p1, .int v1]) dX8_kindAt_27 rfl (Nat.le_of_ble_eq_true rfl) rfl rfl ?_
        refine r_iload_n dX8_kindAt_28 rfl rfl ?_
        refine r_bipush bp_97 dX8_kindAt_29 ?_
        refine eJ (fun (J2 : Option (Int32)) => V g uX8_kindAt 1 rvI (rmP M) 40 [.null, .null, .int v1] [] M (J2)) ( ?_) (fun J2 hJ2 => ?_)
        · refine r_iload_n dX8_kindAt_40 rfl rfl ?_
          refine r_bipush bp_65 dX8_kindAt_41 ?_
          refine eJ (fun (J3 : Option (Int32)) => V g uX8_kindAt 1 rvI (rmP M) 54 [.null, .null, .int v1] [] M (J3)) ( ?_) (fun J3 hJ3 => ?_)
          · refine r_iload_n dX8_kindAt_54 rfl rfl ?_
            refine r_bipush bp_48 dX8_kindAt_55 ?_
            refine eJ (fun (J4 : Option (Int32)) => V g uX8_kindAt 1 rvI (rmP M) 68 [.null, .null, .int v1] [] M (J4)) ( ?_) (fun J4 hJ4 => ?_)
            · refine r_iload_n dX8_kindAt_68 rfl rfl ?_
              refine r_bipush bp_32 dX8_kindAt_69 ?_
              refine r_icmp_eq dX8_kindAt_71 (fun h => eT h ?_) (fun h => eF h ?_)
              · refine r_iconst ic_4 dX8_kindAt_80 ?_
                refine r_goto dX8_kindAt_81 ?_
                exact vRet rfl rfl rfl dX8_kindAt_85
              · refine r_iload_n dX8_kindAt_74 rfl rfl ?_
                refine r_bipush bp_10 dX8_kindAt_75 ?_
                refine r_icmp_ne dX8_kindAt_77 (fun h => eF h ?_) (fun h => eT h ?_)
                · refine r_iconst ic_3 dX8_kindAt_84 ?_
                  exact vRet rfl rfl rfl dX8_kindAt_85
                · refine r_iconst ic_4 dX8_kindAt_80 ?_
                  refine r_goto dX8_kindAt_81 ?_
                  exact vRet rfl rfl rfl dX8_kindAt_85
            · refine r_icmp_lt dX8_kindAt_57 (fun h => eT h ?_) (fun h => eF h ?_)
              · exact hJ4
              · refine r_iload_n dX8_kindAt_60 rfl rfl ?_
                refine r_bipush bp_57 dX8_kindAt_61 ?_
                refine r_icmp_gt dX8_kindAt_63 (fun h => eT h ?_) (fun h => eF h ?_)
                · exact hJ4
                · refine r_iconst ic_2 dX8_kindAt_66 ?_
                  exact vRet rfl rfl rfl dX8_kindAt_67
          · refine r_icmp_lt dX8_kindAt_43 (fun h => eT h ?_) (fun h => eF h ?_)
            · exact hJ3
            · refine r_iload_n dX8_kindAt_46 rfl rfl ?_
              refine r_bipush bp_90 dX8_kindAt_47 ?_
              refine r_icmp_gt dX8_kindAt_49 (fun h => eT h ?_) (fun h => eF h ?_)
              · exact hJ3
              · refine r_iconst ic_1 dX8_kindAt_52 ?_
                exact vRet rfl rfl rfl dX8_kindAt_53
        · refine r_icmp_lt dX8_kindAt_31 (fun h => eT h ?_) (fun h => eF h ?_)
          · exact vSub (l' := [.null, .null, .int v1]) ⟨Or.inl rfl, ⟨Or.inl rfl, ⟨Or.inr rfl, trivial⟩⟩⟩ (hJ2 )
          · refine r_iload_n dX8_kindAt_34 rfl rfl ?_
            refine r_bipush bp_122 dX8_kindAt_35 ?_
            refine r_icmp_le dX8_kindAt_37 (fun h => eT h ?_) (fun h => eF h ?_)
            · refine r_iconst ic_1 dX8_kindAt_52 ?_
              exact vRet rfl rfl rfl dX8_kindAt_53
            · exact vSub (l' := [.null, .null, .int v1]) ⟨Or.inl rfl, ⟨Or.inl rfl, ⟨Or.inr rfl, trivial⟩⟩⟩ (hJ2 )
      · refine r_iconst ic_0 dX8_kindAt_19 ?_
        exact vRet rfl rfl rfl dX8_kindAt_20
theorem kX8_kindAt {g : G}   (p1 : Int32) (M : Mem) : CtrI g uX8_kindAt 1 (fun r => r) (rmP M) [.ref (ga g 178), .int p1] M (fX8_kindAt p1 M) := CtrI.of mX8_kindAt rfl (Nat.le_of_ble_eq_true rfl) rfl (vX8_kindAt p1 M)
set_option maxHeartbeats 4000000 in
set_option maxRecDepth 100000 in
theorem vX8_advance_L0 {g : G}  (K36 : Mem → Option (Mem))    (hK36 : ∀ (M : Mem), V g uX8_advance 2 rvU rmU 36 [.ref (ga g 178)] [] M (K36 M)) : ∀ (n : Nat) (M : Mem), V g uX8_advance 2 rvU rmU 0 [.ref (ga g 178)] [] M (fX8_advance_L0 K36 n M) := by
  intro n
  induction n with
  | zero => intro M; exact vNone
  | succ n ih =>
    intro M
    rw [fX8_advance_L0]
    refine r_aload_n dX8_advance_0 rfl rfl ?_
    refine r_getI dX8_advance_1 fl_X8_25 kdc_178 ?_
    refine r_aload_n dX8_advance_4 rfl rfl ?_
    refine r_getI dX8_advance_5 fl_X8_19 kdc_178 ?_
    refine r_icmp_ge dX8_advance_8 (fun h => eT h ?_) (fun h => eF h ?_)
    · exact hK36 _
    · refine r_aload_n dX8_advance_11 rfl rfl ?_
      refine r_aload_n dX8_advance_12 rfl rfl ?_
      refine r_getI dX8_advance_13 fl_X8_25 kdc_178 ?_
      refine r_calli (cl_V [.int (M 178 6)] bX8_kindAt (by decide) dX8_advance_16 ml_X8_34 kdc_178 rfl (Nat.le_of_ble_eq_true rfl) rfl) (kX8_kindAt _ _) (fun v1 _ => ?_)
      refine r_iconst ic_4 dX8_advance_19 ?_
      refine r_icmp_ne dX8_advance_20 (fun h => eF h ?_) (fun h => eT h ?_)
      · exact hK36 _
      · refine r_aload_n dX8_advance_23 rfl rfl ?_
        refine r_dup dX8_advance_24 rfl ?_
        refine r_getI dX8_advance_25 fl_X8_25 kdc_178 ?_
        refine r_iconst ic_1 dX8_advance_28 ?_
        refine r_iadd dX8_advance_29 ?_
        refine r_put dX8_advance_30 fw_X8_25 kdc_178 (fun M2 => ?_)
        refine r_goto dX8_advance_33 ?_
        exact ih _
set_option maxHeartbeats 4000000 in
set_option maxRecDepth 100000 in
theorem vX8_advance_L110 {g : G}  (K181 : Mem → Option (Mem))    (hK181 : ∀ (M : Mem), V g uX8_advance 2 rvU rmU 181 [.ref (ga g 178)] [] M (K181 M)) : ∀ (n : Nat) (M : Mem), V g uX8_advance 2 rvU rmU 110 [.ref (ga g 178)] [] M (fX8_advance_L110 K181 n M) := by
  intro n
  induction n with
  | zero => intro M; exact vNone
  | succ n ih =>
    intro M
    rw [fX8_advance_L110]
    refine r_aload_n dX8_advance_110 rfl rfl ?_
    refine r_getI dX8_advance_111 fl_X8_38 kdc_178 ?_
    refine r_iconst ic_3 dX8_advance_114 ?_
    refine r_icmp_eq dX8_advance_115 (fun h => eT h ?_) (fun h => eF h ?_)
    · exact hK181 _
    · refine r_aload_n dX8_advance_118 rfl rfl ?_
      refine r_getI dX8_advance_119 fl_X8_25 kdc_178 ?_
      refine r_aload_n dX8_advance_122 rfl rfl ?_
      refine r_getI dX8_advance_123 fl_X8_19 kdc_178 ?_
      refine r_icmp_ge dX8_advance_126 (fun h => eT h ?_) (fun h => eF h ?_)
      · exact hK181 _
      · refine r_aload_n dX8_advance_129 rfl rfl ?_
        refine r_aload_n dX8_advance_130 rfl rfl ?_
        refine r_getI dX8_advance_131 fl_X8_25 kdc_178 ?_
        refine r_calli (cl_V [.int (M 178 6)] bX8_kindAt (by decide) dX8_advance_134 ml_X8_34 kdc_178 rfl (Nat.le_of_ble_eq_true rfl) rfl) (kX8_kindAt _ _) (fun v11 _ => ?_)
        refine r_aload_n dX8_advance_137 rfl rfl ?_
        refine r_getI dX8_advance_138 fl_X8_38 kdc_178 ?_
        refine r_icmp_ne dX8_advance_141 (fun h => eF h ?_) (fun h => eT h ?_)
        · exact hK181 _
        · refine r_aload_n dX8_advance_144 rfl rfl ?_
          refine r_aload_n dX8_advance_145 rfl rfl ?_
          refine r_getI dX8_advance_146 fl_X8_41 kdc_178 ?_
          refine r_bipush bp_10 dX8_advance_149 ?_
          refine r_imul dX8_advance_151 ?_
          refine r_aload_n dX8_advance_152 rfl rfl ?_
          refine r_getR (k' := 179) dX8_advance_153 fl_X8_9 kdc_178 rfl ?_
          refine r_aload_n dX8_advance_156 rfl rfl ?_
          refine r_getI dX8_advance_157 fl_X8_25 kdc_178 ?_
          refine r_bald dX8_advance_160 kdc_179 (fun v12 => ?_)
          refine r_iadd dX8_advance_161 ?_
          refine r_bipush bp_48 dX8_advance_162 ?_
          refine r_isub dX8_advance_164 ?_
          refine r_put dX8_advance_165 fw_X8_41 kdc_178 (fun M13 => ?_)
          refine r_aload_n dX8_advance_168 rfl rfl ?_
          refine r_dup dX8_advance_169 rfl ?_
          refine r_getI dX8_advance_170 fl_X8_25 kdc_178 ?_
          refine r_iconst ic_1 dX8_advance_173 ?_
          refine r_iadd dX8_advance_174 ?_
          refine r_put dX8_advance_175 fw_X8_25 kdc_178 (fun M14 => ?_)
          refine r_goto dX8_advance_178 ?_
          exact ih _
set_option maxHeartbeats 4000000 in
set_option maxRecDepth 100000 in
theorem vX8_advance {g : G}    (M : Mem) : V g uX8_advance 2 rvU rmU 0 [.ref (ga g 178)] [] M (fX8_advance M) := by
  unfold fX8_advance
  refine vX8_advance_L0 _ (fun M3 => ?_) FU _
  · refine r_aload_n dX8_advance_36 rfl rfl ?_
    refine r_aload_n dX8_advance_37 rfl rfl ?_
    refine r_getI dX8_advance_38 fl_X8_25 kdc_178 ?_
    refine r_put dX8_advance_41 fw_X8_31 kdc_178 (fun M4 => ?_)
    refine r_aload_n dX8_advance_44 rfl rfl ?_
    refine r_aload_n dX8_advance_45 rfl rfl ?_
    refine r_aload_n dX8_advance_46 rfl rfl ?_
    refine r_getI dX8_advance_47 fl_X8_25 kdc_178 ?_
    refine r_calli (cl_V [.int (M4 178 6)] bX8_kindAt (by decide) dX8_advance_50 ml_X8_34 kdc_178 rfl (Nat.le_of_ble_eq_true rfl) rfl) (kX8_kindAt _ _) (fun v5 _ => ?_)
    refine r_put dX8_advance_53 fw_X8_38 kdc_178 (fun M6 => ?_)
    refine r_aload_n dX8_advance_56 rfl rfl ?_
    refine r_getI dX8_advance_57 fl_X8_38 kdc_178 ?_
    refine r_if_ne dX8_advance_60 (fun h => eF h ?_) (fun h => eT h ?_)
    · refine r_aload_n dX8_advance_64 rfl rfl ?_
      refine r_aload_n dX8_advance_65 rfl rfl ?_
      refine r_getI dX8_advance_66 fl_X8_38 kdc_178 ?_
      refine r_iconst ic_2 dX8_advance_69 ?_
      refine eJ (fun (J7 : (Int32) → Option (Mem)) => ∀ (t8 : Int32), V g uX8_advance 2 rvU rmU 97 [.ref (ga g 178)] [.int t8, .ref (ga g 178)] M6 (J7 t8)) (fun t8 => ?_) (fun J7 hJ7 => ?_)
      · refine r_put dX8_advance_97 fw_X8_41 kdc_178 (fun M9 => ?_)
        refine r_aload_n dX8_advance_100 rfl rfl ?_
        refine r_dup dX8_advance_101 rfl ?_
        refine r_getI dX8_advance_102 fl_X8_25 kdc_178 ?_
        refine r_iconst ic_1 dX8_advance_105 ?_
        refine r_iadd dX8_advance_106 ?_
        refine r_put dX8_advance_107 fw_X8_25 kdc_178 (fun M10 => ?_)
        refine vX8_advance_L110 _ (fun M15 => ?_) FU _
        · refine r_aload_n dX8_advance_181 rfl rfl ?_
          refine r_getI dX8_advance_182 fl_X8_38 kdc_178 ?_
          refine r_iconst ic_2 dX8_advance_185 ?_
          refine r_icmp_ne dX8_advance_186 (fun h => eF h ?_) (fun h => eT h ?_)
          · exact vRet rfl rfl trivial dX8_advance_207
          · refine r_aload_n dX8_advance_189 rfl rfl ?_
            refine r_getI dX8_advance_190 fl_X8_25 kdc_178 ?_
            refine r_aload_n dX8_advance_193 rfl rfl ?_
            refine r_getI dX8_advance_194 fl_X8_31 kdc_178 ?_
            refine r_isub dX8_advance_197 ?_
            refine r_iconst ic_4 dX8_advance_198 ?_
            refine r_icmp_le dX8_advance_199 (fun h => eT h ?_) (fun h => eF h ?_)
            · exact vRet rfl rfl trivial dX8_advance_207
            · refine r_aload_n dX8_advance_202 rfl rfl ?_
              refine r_iconst ic_5 dX8_advance_203 ?_
              refine r_put dX8_advance_204 fw_X8_38 kdc_178 (fun M16 => ?_)
              exact vRet rfl rfl trivial dX8_advance_207
      · refine r_icmp_ne dX8_advance_70 (fun h => eF h ?_) (fun h => eT h ?_)
        · refine r_aload_n dX8_advance_88 rfl rfl ?_
          refine r_getR (k' := 179) dX8_advance_89 fl_X8_9 kdc_178 rfl ?_
          refine r_aload_n dX8_advance_92 rfl rfl ?_
          refine r_getI dX8_advance_93 fl_X8_25 kdc_178 ?_
          refine r_bald dX8_advance_96 kdc_179 (fun v17 => ?_)
          exact hJ7 _
        · refine r_aload_n dX8_advance_73 rfl rfl ?_
          refine r_getR (k' := 179) dX8_advance_74 fl_X8_9 kdc_178 rfl ?_
          refine r_aload_n dX8_advance_77 rfl rfl ?_
          refine r_getI dX8_advance_78 fl_X8_25 kdc_178 ?_
          refine r_bald dX8_advance_81 kdc_179 (fun v18 => ?_)
          refine r_bipush bp_48 dX8_advance_82 ?_
          refine r_isub dX8_advance_84 ?_
          refine r_goto dX8_advance_85 ?_
          exact hJ7 _
    · exact vRet rfl rfl trivial dX8_advance_63
theorem kX8_advance {g : G}    (M : Mem) : CtrV g uX8_advance 2 rmU [.ref (ga g 178)] M (fX8_advance M) := CtrV.of mX8_advance rfl (Nat.le_of_ble_eq_true rfl) rfl (vX8_advance M)
set_option maxHeartbeats 4000000 in
set_option maxRecDepth 100000 in
theorem vX8_begin {g : G}    (M : Mem) : V g uX8_begin 3 rvU rmU 0 [.ref (ga g 178)] [] M (fX8_begin M) := by
  unfold fX8_begin
  refine r_aload_n dX8_begin_0 rfl rfl ?_
  refine r_iconst ic_0 dX8_begin_1 ?_
  refine r_put dX8_begin_2 fw_X8_22 kdc_178 (fun M1 => ?_)
  refine r_aload_n dX8_begin_5 rfl rfl ?_
  refine r_iconst ic_m1 dX8_begin_6 ?_
  refine r_put dX8_begin_7 fw_X8_15 kdc_178 (fun M2 => ?_)
  refine r_aload_n dX8_begin_10 rfl rfl ?_
  refine r_iconst ic_0 dX8_begin_11 ?_
  refine r_put dX8_begin_12 fw_X8_25 kdc_178 (fun M3 => ?_)
  refine r_aload_n dX8_begin_15 rfl rfl ?_
  refine r_callv (cl_V [] bX8_advance (by decide) dX8_begin_16 ml_X8_28 kdc_178 rfl (Nat.le_of_ble_eq_true rfl) rfl) (kX8_advance _) (fun M4 _ => ?_)
  exact vRet rfl rfl trivial dX8_begin_19
theorem kX8_begin {g : G}    (M : Mem) : CtrV g uX8_begin 3 rmU [.ref (ga g 178)] M (fX8_begin M) := CtrV.of mX8_begin rfl (Nat.le_of_ble_eq_true rfl) rfl (vX8_begin M)
set_option maxHeartbeats 4000000 in
set_option maxRecDepth 100000 in
theorem vX1_clear {g : G}    (M : Mem) : V g uX1_clear 1 rvU rmU 0 [.ref (ga g 181)] [] M (fX1_clear M) := by
  unfold fX1_clear
  refine r_aload_n dX1_clear_0 rfl rfl ?_
  refine r_iconst ic_0 dX1_clear_1 ?_
  refine r_put dX1_clear_2 fw_X1_33 kdc_181 (fun M1 => ?_)
  refine r_aload_n dX1_clear_5 rfl rfl ?_
  refine r_iconst ic_0 dX1_clear_6 ?_
  refine r_put dX1_clear_7 fw_X1_37 kdc_181 (fun M2 => ?_)
  exact vRet rfl rfl trivial dX1_clear_10
theorem kX1_clear {g : G}    (M : Mem) : CtrV g uX1_clear 1 rmU [.ref (ga g 181)] M (fX1_clear M) := CtrV.of mX1_clear rfl (Nat.le_of_ble_eq_true rfl) rfl (vX1_clear M)
set_option maxHeartbeats 4000000 in
set_option maxRecDepth 100000 in
theorem vX8_isWord_L28 {g : G} {w1 : Nat} (K75 : Option (Int32))   (M : Mem) (hw1 : w1 < strN) (hK75 : V g uX8_isWord 6 rvI (rmP M) 75 [.null, .null, .null] [] M (K75)) : ∀ (n : Nat) (y2 : Int32), V g uX8_isWord 6 rvI (rmP M) 28 [.ref (ga g 178), .ref (gs g w1), .int y2] [] M (fX8_isWord_L28 K75 w1 M n y2) := by
  intro n
  induction n with
  | zero => intro y2; exact vNone
  | succ n ih =>
    intro y2
    rw [fX8_isWord_L28]
    refine r_iload_n dX8_isWord_28 rfl rfl ?_
    refine r_aload_n dX8_isWord_29 rfl rfl ?_
    refine r_calliT (call_VS hw1 (by decide) mJ0_length_8abf5 dX8_isWord_30 ml_X8_44 inJ0_length_8abf5 slJ0_length_8abf5 parJ0_length_8abf5 rfl (Nat.le_of_ble_eq_true rfl) rfl) (kJ0_length_8abf5 hw1 _) ?_
    refine r_icmp_ge dX8_isWord_33 (fun h => eT h ?_) (fun h => eF h ?_)
    · exact vSub (l' := [.null, .null, .null]) ⟨Or.inl rfl, ⟨Or.inl rfl, ⟨Or.inl rfl, trivial⟩⟩⟩ (hK75 )
    · refine r_aload_n dX8_isWord_36 rfl rfl ?_
      refine r_getI dX8_isWord_37 fl_X8_31 kdc_178 ?_
      refine r_iload_n dX8_isWord_40 rfl rfl ?_
      refine r_iadd dX8_isWord_41 ?_
      refine r_sipush sp_400 dX8_isWord_42 ?_
      refine r_icmp_ge dX8_isWord_45 (fun h => eT h ?_) (fun h => eF h ?_)
      · exact vSub (l' := [.null, .null, .null]) ⟨Or.inl rfl, ⟨Or.inl rfl, ⟨Or.inl rfl, trivial⟩⟩⟩ (hK75 )
      · refine r_aload_n dX8_isWord_48 rfl rfl ?_
        refine r_getR (k' := 179) dX8_isWord_49 fl_X8_9 kdc_178 rfl ?_
        refine r_aload_n dX8_isWord_52 rfl rfl ?_
        refine r_getI dX8_isWord_53 fl_X8_31 kdc_178 ?_
        refine r_iload_n dX8_isWord_56 rfl rfl ?_
        refine r_iadd dX8_isWord_57 ?_
        refine r_bald dX8_isWord_58 kdc_179 (fun v1 => ?_)
        refine r_aload_n dX8_isWord_59 rfl rfl ?_
        refine r_iload_n dX8_isWord_60 rfl rfl ?_
        refine r_calli (call_VS (As := [.int y2]) hw1 (by decide) mJ0_charAt_5068e dX8_isWord_61 ml_X8_49 inJ0_charAt_5068e slJ0_charAt_5068e parJ0_charAt_5068e rfl (Nat.le_of_ble_eq_true rfl) rfl) (kJ0_charAt_5068e hw1 _ _) (fun v2 _ => ?_)
        refine r_icmp_eq dX8_isWord_64 (fun h => eT h ?_) (fun h => eF h ?_)
        · refine r_iinc (l' := [.ref (ga g 178), .ref (gs g w1), .int (y2 + 1)]) dX8_isWord_69 rfl (inc_1 _) (Nat.le_of_ble_eq_true rfl) rfl rfl ?_
          refine r_goto dX8_isWord_72 ?_
          exact ih _
        · refine r_iconst ic_0 dX8_isWord_67 ?_
          exact vRet rfl rfl rfl dX8_isWord_68
set_option maxHeartbeats 4000000 in
set_option maxRecDepth 100000 in
theorem vX8_isWord {g : G} {w1 : Nat} (hw1 : w1 < strN)  (M : Mem) : V g uX8_isWord 6 rvI (rmP M) 0 [.ref (ga g 178), .ref (gs g w1), .null] [] M (fX8_isWord w1 M) := by
  unfold fX8_isWord
  refine r_aload_n dX8_isWord_0 rfl rfl ?_
  refine r_getI dX8_isWord_1 fl_X8_38 kdc_178 ?_
  refine r_iconst ic_1 dX8_isWord_4 ?_
  refine r_icmp_ne dX8_isWord_5 (fun h => eF h ?_) (fun h => eT h ?_)
  · refine r_iconst ic_0 dX8_isWord_24 ?_
    exact vRet rfl rfl rfl dX8_isWord_25
  · refine r_aload_n dX8_isWord_8 rfl rfl ?_
    refine r_getI dX8_isWord_9 fl_X8_25 kdc_178 ?_
    refine r_aload_n dX8_isWord_12 rfl rfl ?_
    refine r_getI dX8_isWord_13 fl_X8_31 kdc_178 ?_
    refine r_isub dX8_isWord_16 ?_
    refine r_aload_n dX8_isWord_17 rfl rfl ?_
    refine r_calliT (call_VS hw1 (by decide) mJ0_length_8abf5 dX8_isWord_18 ml_X8_44 inJ0_length_8abf5 slJ0_length_8abf5 parJ0_length_8abf5 rfl (Nat.le_of_ble_eq_true rfl) rfl) (kJ0_length_8abf5 hw1 _) ?_
    refine r_icmp_eq dX8_isWord_21 (fun h => eT h ?_) (fun h => eF h ?_)
    · refine r_iconst ic_0 dX8_isWord_26 ?_
      refine r_istore_n (l' := [.ref (ga g 178), .ref (gs g w1), .int 0]) dX8_isWord_27 rfl (Nat.le_of_ble_eq_true rfl) rfl rfl ?_
      refine vX8_isWord_L28 _ _ hw1 (?_) FU _
      · refine r_iconst ic_1 dX8_isWord_75 ?_
        exact vRet rfl rfl rfl dX8_isWord_76
    · refine r_iconst ic_0 dX8_isWord_24 ?_
      exact vRet rfl rfl rfl dX8_isWord_25
theorem kX8_isWord {g : G} {w1 : Nat} (hw1 : w1 < strN)  (M : Mem) : CtrI g uX8_isWord 6 (fun r => r) (rmP M) [.ref (ga g 178), .ref (gs g w1)] M (fX8_isWord w1 M) := CtrI.of mX8_isWord rfl (Nat.le_of_ble_eq_true rfl) rfl (vX8_isWord hw1 M)
set_option maxHeartbeats 4000000 in
set_option maxRecDepth 100000 in
theorem vX2_wordAtHand {g : G}    (M : Mem) : V g uX2_wordAtHand 7 rvI (rmP M) 0 [.ref (ga g 178)] [] M (fX2_wordAtHand M) := by
  unfold fX2_wordAtHand
  refine r_aload_n dX2_wordAtHand_0 rfl rfl ?_
  refine r_ldcS (i := 0) (List.mem_of_getElem? (i := 0) rfl) dX2_wordAtHand_1 ?_
  refine r_calli (cl_V [.ref (gs g 0)] bX8_isWord (by decide) dX2_wordAtHand_3 ml_X2_65 kdc_178 rfl (Nat.le_of_ble_eq_true rfl) rfl) (kX8_isWord (by decide) _) (fun v1 _ => ?_)
  refine r_if_eq dX2_wordAtHand_6 (fun h => eT h ?_) (fun h => eF h ?_)
  · refine r_aload_n dX2_wordAtHand_11 rfl rfl ?_
    refine r_ldcS (i := 1) (List.mem_of_getElem? (i := 1) rfl) dX2_wordAtHand_12 ?_
    refine r_calli (cl_V [.ref (gs g 1)] bX8_isWord (by decide) dX2_wordAtHand_14 ml_X2_65 kdc_178 rfl (Nat.le_of_ble_eq_true rfl) rfl) (kX8_isWord (by decide) _) (fun v2 _ => ?_)
    refine r_if_eq dX2_wordAtHand_17 (fun h => eT h ?_) (fun h => eF h ?_)
    · refine r_aload_n dX2_wordAtHand_22 rfl rfl ?_
      refine r_ldcS (i := 2) (List.mem_of_getElem? (i := 2) rfl) dX2_wordAtHand_23 ?_
      refine r_calli (cl_V [.ref (gs g 2)] bX8_isWord (by decide) dX2_wordAtHand_25 ml_X2_65 kdc_178 rfl (Nat.le_of_ble_eq_true rfl) rfl) (kX8_isWord (by decide) _) (fun v3 _ => ?_)
      refine r_if_eq dX2_wordAtHand_28 (fun h => eT h ?_) (fun h => eF h ?_)
      · refine r_iconst ic_m1 dX2_wordAtHand_35 ?_
        exact vRet rfl rfl rfl dX2_wordAtHand_36
      · refine r_iconst ic_2 dX2_wordAtHand_31 ?_
        refine r_goto dX2_wordAtHand_32 ?_
        exact vRet rfl rfl rfl dX2_wordAtHand_36
    · refine r_iconst ic_1 dX2_wordAtHand_20 ?_
      exact vRet rfl rfl rfl dX2_wordAtHand_21
  · refine r_iconst ic_0 dX2_wordAtHand_9 ?_
    exact vRet rfl rfl rfl dX2_wordAtHand_10
theorem kX2_wordAtHand {g : G}    (M : Mem) : CtrI g uX2_wordAtHand 7 (fun r => r) (rmP M) [.ref (ga g 178)] M (fX2_wordAtHand M) := CtrI.of mX2_wordAtHand rfl (Nat.le_of_ble_eq_true rfl) rfl (vX2_wordAtHand M)
set_option maxHeartbeats 4000000 in
set_option maxRecDepth 100000 in
theorem vX8_refuse {g : G}   (p1 : Int32) (M : Mem) : V g uX8_refuse 1 rvW rmW 0 [.ref (ga g 178), .int p1] [] M (fX8_refuse p1 M) := by
  unfold fX8_refuse
  refine r_aload_n dX8_refuse_0 rfl rfl ?_
  refine r_iload_n dX8_refuse_1 rfl rfl ?_
  refine r_put dX8_refuse_2 fw_X8_22 kdc_178 (fun M1 => ?_)
  refine r_aload_n dX8_refuse_5 rfl rfl ?_
  refine r_aload_n dX8_refuse_6 rfl rfl ?_
  refine r_getI dX8_refuse_7 fl_X8_31 kdc_178 ?_
  refine r_put dX8_refuse_10 fw_X8_15 kdc_178 (fun M2 => ?_)
  refine r_iconst ic_0 dX8_refuse_13 ?_
  exact vRet rfl rfl rfl dX8_refuse_14
theorem kX8_refuse {g : G}   (p1 : Int32) (M : Mem) : CtrI g uX8_refuse 1 (fun r => r.1) rmW [.ref (ga g 178), .int p1] M (fX8_refuse p1 M) := CtrI.of mX8_refuse rfl (Nat.le_of_ble_eq_true rfl) rfl (vX8_refuse p1 M)
set_option maxHeartbeats 4000000 in
set_option maxRecDepth 100000 in
theorem vX1_put {g : G}   (p1 : Int32) (M : Mem) : V g uX1_put 1 rvU rmU 0 [.ref (ga g 181), .int p1] [] M (fX1_put p1 M) := by
  unfold fX1_put
  refine r_aload_n dX1_put_0 rfl rfl ?_
  refine r_getI dX1_put_1 fl_X1_37 kdc_181 ?_
  refine r_sipush sp_400 dX1_put_4 ?_
  refine r_icmp_ge dX1_put_7 (fun h => eT h ?_) (fun h => eF h ?_)
  · exact vRet rfl rfl trivial dX1_put_30
  · refine r_aload_n dX1_put_10 rfl rfl ?_
    refine r_getR (k' := 186) dX1_put_11 fl_X1_24 kdc_181 rfl ?_
    refine r_aload_n dX1_put_14 rfl rfl ?_
    refine r_getI dX1_put_15 fl_X1_37 kdc_181 ?_
    refine r_iload_n dX1_put_18 rfl rfl ?_
    refine r_iast dX1_put_19 kdc_186 (fun M1 => ?_)
    refine r_aload_n dX1_put_20 rfl rfl ?_
    refine r_dup dX1_put_21 rfl ?_
    refine r_getI dX1_put_22 fl_X1_37 kdc_181 ?_
    refine r_iconst ic_1 dX1_put_25 ?_
    refine r_iadd dX1_put_26 ?_
    refine r_put dX1_put_27 fw_X1_37 kdc_181 (fun M2 => ?_)
    exact vRet rfl rfl trivial dX1_put_30
theorem kX1_put {g : G}   (p1 : Int32) (M : Mem) : CtrV g uX1_put 1 rmU [.ref (ga g 181), .int p1] M (fX1_put p1 M) := CtrV.of mX1_put rfl (Nat.le_of_ble_eq_true rfl) rfl (vX1_put p1 M)
set_option maxHeartbeats 4000000 in
set_option maxRecDepth 100000 in
theorem vX2_nameAtHand {g : G}    (M : Mem) : V g uX2_nameAtHand 7 rvI (rmP M) 0 [.ref (ga g 178)] [] M (fX2_nameAtHand M) := by
  unfold fX2_nameAtHand
  refine r_aload_n dX2_nameAtHand_0 rfl rfl ?_
  refine r_ldcS (i := 3) (List.mem_of_getElem? (i := 3) rfl) dX2_nameAtHand_1 ?_
  refine r_calli (cl_V [.ref (gs g 3)] bX8_isWord (by decide) dX2_nameAtHand_3 ml_X2_65 kdc_178 rfl (Nat.le_of_ble_eq_true rfl) rfl) (kX8_isWord (by decide) _) (fun v1 _ => ?_)
  refine r_if_eq dX2_nameAtHand_6 (fun h => eT h ?_) (fun h => eF h ?_)
  · refine r_aload_n dX2_nameAtHand_11 rfl rfl ?_
    refine r_ldcS (i := 4) (List.mem_of_getElem? (i := 4) rfl) dX2_nameAtHand_12 ?_
    refine r_calli (cl_V [.ref (gs g 4)] bX8_isWord (by decide) dX2_nameAtHand_14 ml_X2_65 kdc_178 rfl (Nat.le_of_ble_eq_true rfl) rfl) (kX8_isWord (by decide) _) (fun v2 _ => ?_)
    refine r_if_eq dX2_nameAtHand_17 (fun h => eT h ?_) (fun h => eF h ?_)
    · refine r_aload_n dX2_nameAtHand_22 rfl rfl ?_
      refine r_ldcS (i := 5) (List.mem_of_getElem? (i := 5) rfl) dX2_nameAtHand_23 ?_
      refine r_calli (cl_V [.ref (gs g 5)] bX8_isWord (by decide) dX2_nameAtHand_25 ml_X2_65 kdc_178 rfl (Nat.le_of_ble_eq_true rfl) rfl) (kX8_isWord (by decide) _) (fun v3 _ => ?_)
      refine r_if_eq dX2_nameAtHand_28 (fun h => eT h ?_) (fun h => eF h ?_)
      · refine r_aload_n dX2_nameAtHand_33 rfl rfl ?_
        refine r_ldcS (i := 6) (List.mem_of_getElem? (i := 6) rfl) dX2_nameAtHand_34 ?_
        refine r_calli (cl_V [.ref (gs g 6)] bX8_isWord (by decide) dX2_nameAtHand_36 ml_X2_65 kdc_178 rfl (Nat.le_of_ble_eq_true rfl) rfl) (kX8_isWord (by decide) _) (fun v4 _ => ?_)
        refine r_if_eq dX2_nameAtHand_39 (fun h => eT h ?_) (fun h => eF h ?_)
        · refine r_aload_n dX2_nameAtHand_44 rfl rfl ?_
          refine r_ldcS (i := 7) (List.mem_of_getElem? (i := 7) rfl) dX2_nameAtHand_45 ?_
          refine r_calli (cl_V [.ref (gs g 7)] bX8_isWord (by decide) dX2_nameAtHand_47 ml_X2_65 kdc_178 rfl (Nat.le_of_ble_eq_true rfl) rfl) (kX8_isWord (by decide) _) (fun v5 _ => ?_)
          refine r_if_eq dX2_nameAtHand_50 (fun h => eT h ?_) (fun h => eF h ?_)
          · refine r_aload_n dX2_nameAtHand_55 rfl rfl ?_
            refine r_ldcS (i := 8) (List.mem_of_getElem? (i := 8) rfl) dX2_nameAtHand_56 ?_
            refine r_calli (cl_V [.ref (gs g 8)] bX8_isWord (by decide) dX2_nameAtHand_58 ml_X2_65 kdc_178 rfl (Nat.le_of_ble_eq_true rfl) rfl) (kX8_isWord (by decide) _) (fun v6 _ => ?_)
            refine r_if_eq dX2_nameAtHand_61 (fun h => eT h ?_) (fun h => eF h ?_)
            · refine r_aload_n dX2_nameAtHand_66 rfl rfl ?_
              refine r_ldcS (i := 9) (List.mem_of_getElem? (i := 9) rfl) dX2_nameAtHand_67 ?_
              refine r_calli (cl_V [.ref (gs g 9)] bX8_isWord (by decide) dX2_nameAtHand_69 ml_X2_65 kdc_178 rfl (Nat.le_of_ble_eq_true rfl) rfl) (kX8_isWord (by decide) _) (fun v7 _ => ?_)
              refine r_if_eq dX2_nameAtHand_72 (fun h => eT h ?_) (fun h => eF h ?_)
              · refine r_aload_n dX2_nameAtHand_78 rfl rfl ?_
                refine r_ldcS (i := 10) (List.mem_of_getElem? (i := 10) rfl) dX2_nameAtHand_79 ?_
                refine r_calli (cl_V [.ref (gs g 10)] bX8_isWord (by decide) dX2_nameAtHand_81 ml_X2_65 kdc_178 rfl (Nat.le_of_ble_eq_true rfl) rfl) (kX8_isWord (by decide) _) (fun v8 _ => ?_)
                refine r_if_eq dX2_nameAtHand_84 (fun h => eT h ?_) (fun h => eF h ?_)
                · refine r_aload_n dX2_nameAtHand_90 rfl rfl ?_
                  refine r_ldcS (i := 11) (List.mem_of_getElem? (i := 11) rfl) dX2_nameAtHand_91 ?_
                  refine r_calli (cl_V [.ref (gs g 11)] bX8_isWord (by decide) dX2_nameAtHand_93 ml_X2_65 kdc_178 rfl (Nat.le_of_ble_eq_true rfl) rfl) (kX8_isWord (by decide) _) (fun v9 _ => ?_)
                  refine r_if_eq dX2_nameAtHand_96 (fun h => eT h ?_) (fun h => eF h ?_)
                  · refine r_aload_n dX2_nameAtHand_102 rfl rfl ?_
                    refine r_ldcS (i := 12) (List.mem_of_getElem? (i := 12) rfl) dX2_nameAtHand_103 ?_
                    refine r_calli (cl_V [.ref (gs g 12)] bX8_isWord (by decide) dX2_nameAtHand_105 ml_X2_65 kdc_178 rfl (Nat.le_of_ble_eq_true rfl) rfl) (kX8_isWord (by decide) _) (fun v10 _ => ?_)
                    refine r_if_eq dX2_nameAtHand_108 (fun h => eT h ?_) (fun h => eF h ?_)
                    · refine r_iconst ic_m1 dX2_nameAtHand_116 ?_
                      exact vRet rfl rfl rfl dX2_nameAtHand_117
                    · refine r_bipush bp_9 dX2_nameAtHand_111 ?_
                      refine r_goto dX2_nameAtHand_113 ?_
                      exact vRet rfl rfl rfl dX2_nameAtHand_117
                  · refine r_bipush bp_8 dX2_nameAtHand_99 ?_
                    exact vRet rfl rfl rfl dX2_nameAtHand_101
                · refine r_bipush bp_7 dX2_nameAtHand_87 ?_
                  exact vRet rfl rfl rfl dX2_nameAtHand_89
              · refine r_bipush bp_6 dX2_nameAtHand_75 ?_
                exact vRet rfl rfl rfl dX2_nameAtHand_77
            · refine r_iconst ic_5 dX2_nameAtHand_64 ?_
              exact vRet rfl rfl rfl dX2_nameAtHand_65
          · refine r_iconst ic_4 dX2_nameAtHand_53 ?_
            exact vRet rfl rfl rfl dX2_nameAtHand_54
        · refine r_iconst ic_3 dX2_nameAtHand_42 ?_
          exact vRet rfl rfl rfl dX2_nameAtHand_43
      · refine r_iconst ic_2 dX2_nameAtHand_31 ?_
        exact vRet rfl rfl rfl dX2_nameAtHand_32
    · refine r_iconst ic_1 dX2_nameAtHand_20 ?_
      exact vRet rfl rfl rfl dX2_nameAtHand_21
  · refine r_iconst ic_0 dX2_nameAtHand_9 ?_
    exact vRet rfl rfl rfl dX2_nameAtHand_10
theorem kX2_nameAtHand {g : G}    (M : Mem) : CtrI g uX2_nameAtHand 7 (fun r => r) (rmP M) [.ref (ga g 178)] M (fX2_nameAtHand M) := CtrI.of mX2_nameAtHand rfl (Nat.le_of_ble_eq_true rfl) rfl (vX2_nameAtHand M)
set_option maxHeartbeats 4000000 in
set_option maxRecDepth 100000 in
theorem vX2_readUnit {g : G}   (p2 : Int32) (M : Mem) : V g uX2_readUnit 8 rvW rmW 0 [.ref (ga g 180), .ref (ga g 178), .int p2, .null] [] M (fX2_readUnit p2 M) := by
  unfold fX2_readUnit
  refine r_aload_n dX2_readUnit_0 rfl rfl ?_
  refine r_getI dX2_readUnit_1 fl_X2_21 kdc_178 ?_
  refine r_iconst ic_2 dX2_readUnit_4 ?_
  refine r_icmp_ne dX2_readUnit_5 (fun h => eF h ?_) (fun h => eT h ?_)
  · refine r_iload_n dX2_readUnit_42 rfl rfl ?_
    refine eJ (fun (J1 : (Int32) → Option (Int32 × Mem)) => ∀ (t2 : Int32), V g uX2_readUnit 8 rvW rmW 54 [.ref (ga g 180), .ref (ga g 178), .null, .null] [.int t2] M (J1 t2)) (fun t2 => ?_) (fun J1 hJ1 => ?_)
    · refine r_istore_n (l' := [.ref (ga g 180), .ref (ga g 178), .null, .int t2]) dX2_readUnit_54 rfl (Nat.le_of_ble_eq_true rfl) rfl rfl ?_
      refine r_iload_n dX2_readUnit_55 rfl rfl ?_
      refine r_iconst ic_m1 dX2_readUnit_56 ?_
      refine r_icmp_ne dX2_readUnit_57 (fun h => eF h ?_) (fun h => eT h ?_)
      · refine r_aload_n dX2_readUnit_66 rfl rfl ?_
        refine r_getR (k' := 181) dX2_readUnit_67 fl_X2_12 kdc_180 rfl ?_
        refine r_sipush sp_10000 dX2_readUnit_70 ?_
        refine r_iload_n dX2_readUnit_73 rfl rfl ?_
        refine r_iadd dX2_readUnit_74 ?_
        refine r_callv (cl_V [.int (10000 + t2)] bX1_put (by decide) dX2_readUnit_75 ml_X2_94 kdc_181 rfl (Nat.le_of_ble_eq_true rfl) rfl) (kX1_put _ _) (fun M3 _ => ?_)
        refine r_aload_n dX2_readUnit_78 rfl rfl ?_
        refine r_callv (cl_V [] bX8_advance (by decide) dX2_readUnit_79 ml_X2_35 kdc_178 rfl (Nat.le_of_ble_eq_true rfl) rfl) (kX8_advance _) (fun M4 _ => ?_)
        refine r_iconst ic_1 dX2_readUnit_82 ?_
        exact vRet rfl rfl rfl dX2_readUnit_83
      · refine r_aload_n dX2_readUnit_60 rfl rfl ?_
        refine r_iconst ic_1 dX2_readUnit_61 ?_
        refine r_calli (cl_V [.int 1] bX8_refuse (by decide) dX2_readUnit_62 ml_X2_31 kdc_178 rfl (Nat.le_of_ble_eq_true rfl) rfl) (kX8_refuse _ _) (fun r5 _ => ?_)
        exact vRetZ rfl rfl rfl dX2_readUnit_65
    · refine r_if_eq dX2_readUnit_43 (fun h => eT h ?_) (fun h => eF h ?_)
      · refine r_aload_n dX2_readUnit_50 rfl rfl ?_
        refine r_calli (cl_S [.ref (ga g 178)] bX2_nameAtHand (by decide) dX2_readUnit_51 ml_X2_118 rfl (Nat.le_of_ble_eq_true rfl) rfl) (kX2_nameAtHand _) (fun v6 _ => ?_)
        exact vSub (l' := [.ref (ga g 180), .ref (ga g 178), .null, .null]) ⟨Or.inr rfl, ⟨Or.inr rfl, ⟨Or.inl rfl, ⟨Or.inl rfl, trivial⟩⟩⟩⟩ (hJ1 _)
      · refine r_iconst ic_m1 dX2_readUnit_46 ?_
        refine r_goto dX2_readUnit_47 ?_
        exact vSub (l' := [.ref (ga g 180), .ref (ga g 178), .null, .null]) ⟨Or.inr rfl, ⟨Or.inr rfl, ⟨Or.inl rfl, ⟨Or.inl rfl, trivial⟩⟩⟩⟩ (hJ1 _)
  · refine r_iload_n dX2_readUnit_8 rfl rfl ?_
    refine eJ (fun (J7 : Option (Int32 × Mem)) => V g uX2_readUnit 8 rvW rmW 25 [.ref (ga g 180), .ref (ga g 178), .null, .null] [] M (J7)) ( ?_) (fun J7 hJ7 => ?_)
    · refine r_aload_n dX2_readUnit_25 rfl rfl ?_
      refine r_getR (k' := 181) dX2_readUnit_26 fl_X2_12 kdc_180 rfl ?_
      refine r_aload_n dX2_readUnit_29 rfl rfl ?_
      refine r_getI dX2_readUnit_30 fl_X2_107 kdc_178 ?_
      refine r_callv (cl_V [.int (M 178 7)] bX1_put (by decide) dX2_readUnit_33 ml_X2_94 kdc_181 rfl (Nat.le_of_ble_eq_true rfl) rfl) (kX1_put _ _) (fun M8 _ => ?_)
      refine r_aload_n dX2_readUnit_36 rfl rfl ?_
      refine r_callv (cl_V [] bX8_advance (by decide) dX2_readUnit_37 ml_X2_35 kdc_178 rfl (Nat.le_of_ble_eq_true rfl) rfl) (kX8_advance _) (fun M9 _ => ?_)
      refine r_iconst ic_1 dX2_readUnit_40 ?_
      exact vRet rfl rfl rfl dX2_readUnit_41
    · refine r_if_eq dX2_readUnit_9 (fun h => eT h ?_) (fun h => eF h ?_)
      · exact vSub (l' := [.ref (ga g 180), .ref (ga g 178), .null, .null]) ⟨Or.inr rfl, ⟨Or.inr rfl, ⟨Or.inl rfl, ⟨Or.inl rfl, trivial⟩⟩⟩⟩ (hJ7 )
      · refine r_aload_n dX2_readUnit_12 rfl rfl ?_
        refine r_getI dX2_readUnit_13 fl_X2_107 kdc_178 ?_
        refine r_if_ne dX2_readUnit_16 (fun h => eF h ?_) (fun h => eT h ?_)
        · exact vSub (l' := [.ref (ga g 180), .ref (ga g 178), .null, .null]) ⟨Or.inr rfl, ⟨Or.inr rfl, ⟨Or.inl rfl, ⟨Or.inl rfl, trivial⟩⟩⟩⟩ (hJ7 )
        · refine r_aload_n dX2_readUnit_19 rfl rfl ?_
          refine r_iconst ic_2 dX2_readUnit_20 ?_
          refine r_calli (cl_V [.int 2] bX8_refuse (by decide) dX2_readUnit_21 ml_X2_31 kdc_178 rfl (Nat.le_of_ble_eq_true rfl) rfl) (kX8_refuse _ _) (fun r10 _ => ?_)
          exact vRetZ rfl rfl rfl dX2_readUnit_24
theorem kX2_readUnit {g : G}   (p2 : Int32) (M : Mem) : CtrI g uX2_readUnit 8 (fun r => r.1) rmW [.ref (ga g 180), .ref (ga g 178), .int p2] M (fX2_readUnit p2 M) := CtrI.of mX2_readUnit rfl (Nat.le_of_ble_eq_true rfl) rfl (vX2_readUnit p2 M)
set_option maxHeartbeats 4000000 in
set_option maxRecDepth 100000 in
theorem vX8_isSign {g : G}   (p1 : Int32) (M : Mem) : V g uX8_isSign 1 rvI (rmP M) 0 [.ref (ga g 178), .int p1] [] M (some (fX8_isSign p1 M)) := by
  unfold fX8_isSign
  refine r_aload_n dX8_isSign_0 rfl rfl ?_
  refine r_getI dX8_isSign_1 fl_X8_38 kdc_178 ?_
  refine r_iconst ic_3 dX8_isSign_4 ?_
  refine r_icmp_ne dX8_isSign_5 (fun h => eFT h ?_) (fun h => eTT h ?_)
  · refine r_iconst ic_0 dX8_isSign_20 ?_
    exact vRet rfl rfl rfl dX8_isSign_21
  · refine r_aload_n dX8_isSign_8 rfl rfl ?_
    refine r_getI dX8_isSign_9 fl_X8_41 kdc_178 ?_
    refine r_iload_n dX8_isSign_12 rfl rfl ?_
    refine r_icmp_ne dX8_isSign_13 (fun h => eFT h ?_) (fun h => eTT h ?_)
    · refine r_iconst ic_0 dX8_isSign_20 ?_
      exact vRet rfl rfl rfl dX8_isSign_21
    · refine r_iconst ic_1 dX8_isSign_16 ?_
      refine r_goto dX8_isSign_17 ?_
      exact vRet rfl rfl rfl dX8_isSign_21
theorem zX8_isSign (p1 : Int32) (M : Mem) : fX8_isSign p1 M = 0 ∨ fX8_isSign p1 M = 1 := by
  unfold fX8_isSign
  repeat' split
  all_goals first | exact Or.inl rfl | exact Or.inr rfl
theorem kX8_isSign {g : G}   (p1 : Int32) (M : Mem) : CtrI g uX8_isSign 1 (fun r => r) (rmP M) [.ref (ga g 178), .int p1] M (some (fX8_isSign p1 M)) := CtrI.of mX8_isSign rfl (Nat.le_of_ble_eq_true rfl) rfl (vX8_isSign p1 M)
set_option maxHeartbeats 4000000 in
set_option maxRecDepth 100000 in
theorem vX8_passSign {g : G}   (p1 : Int32) (p2 : Int32) (M : Mem) : V g uX8_passSign 3 rvW rmW 0 [.ref (ga g 178), .int p1, .int p2, .null] [] M (fX8_passSign p1 p2 M) := by
  unfold fX8_passSign
  refine r_aload_n dX8_passSign_0 rfl rfl ?_
  refine r_iload_n dX8_passSign_1 rfl rfl ?_
  refine r_calliT (cl_V [.int p1] bX8_isSign (by decide) dX8_passSign_2 ml_X8_57 kdc_178 rfl (Nat.le_of_ble_eq_true rfl) rfl) (kX8_isSign _ _) ?_
  refine eJ (fun (J1 : Option (Int32 × Mem)) => V g uX8_passSign 3 rvW rmW 18 [.ref (ga g 178), .null, .null, .null] [] M (J1)) ( ?_) (fun J1 hJ1 => ?_)
  · refine r_aload_n dX8_passSign_18 rfl rfl ?_
    refine r_getI dX8_passSign_19 fl_X8_41 kdc_178 ?_
    refine r_bndi (fun x2 => ?_)
    refine r_istore_n (l' := [.ref (ga g 178), .null, .null, .int x2]) dX8_passSign_22 rfl (Nat.le_of_ble_eq_true rfl) rfl rfl ?_
    refine r_aload_n dX8_passSign_23 rfl rfl ?_
    refine r_callv (cl_V [] bX8_advance (by decide) dX8_passSign_24 ml_X8_28 kdc_178 rfl (Nat.le_of_ble_eq_true rfl) rfl) (kX8_advance _) (fun M3 _ => ?_)
    refine r_iload_n dX8_passSign_27 rfl rfl ?_
    exact vRet rfl rfl rfl dX8_passSign_28
  · refine r_if_ne dX8_passSign_5 (fun h => eF h ?_) (fun h => eT h ?_)
    · exact vSub (l' := [.ref (ga g 178), .null, .null, .null]) ⟨Or.inr rfl, ⟨Or.inl rfl, ⟨Or.inl rfl, ⟨Or.inl rfl, trivial⟩⟩⟩⟩ (hJ1 )
    · refine r_aload_n dX8_passSign_8 rfl rfl ?_
      refine r_iload_n dX8_passSign_9 rfl rfl ?_
      refine r_calliT (cl_V [.int p2] bX8_isSign (by decide) dX8_passSign_10 ml_X8_57 kdc_178 rfl (Nat.le_of_ble_eq_true rfl) rfl) (kX8_isSign _ _) ?_
      refine r_if_ne dX8_passSign_13 (fun h => eF h ?_) (fun h => eT h ?_)
      · exact vSub (l' := [.ref (ga g 178), .null, .null, .null]) ⟨Or.inr rfl, ⟨Or.inl rfl, ⟨Or.inl rfl, ⟨Or.inl rfl, trivial⟩⟩⟩⟩ (hJ1 )
      · refine r_iconst ic_0 dX8_passSign_16 ?_
        exact vRet rfl rfl rfl dX8_passSign_17
theorem kX8_passSign {g : G}   (p1 : Int32) (p2 : Int32) (M : Mem) : CtrI g uX8_passSign 3 (fun r => r.1) rmW [.ref (ga g 178), .int p1, .int p2] M (fX8_passSign p1 p2 M) := CtrI.of mX8_passSign rfl (Nat.le_of_ble_eq_true rfl) rfl (vX8_passSign p1 p2 M)
set_option maxHeartbeats 4000000 in
set_option maxRecDepth 100000 in
theorem vX2_readSum_L7 {g : G}       : ∀ (n : Nat) (y2 : Int32) (y3 : Int32) (y4 : Int32) (M : Mem), V g uX2_readSum 9 rvW rmW 7 [.ref (ga g 180), .ref (ga g 178), .int y2, .int y3, .int y4] [] M (fX2_readSum_L7 n y2 y3 y4 M) := by
  intro n
  induction n with
  | zero => intro y2 y3 y4 M; exact vNone
  | succ n ih =>
    intro y2 y3 y4 M
    rw [fX2_readSum_L7]
    refine r_iload dX2_readSum_7 rfl ?_
    refine r_sipush sp_400 dX2_readSum_9 ?_
    refine r_icmp_ge dX2_readSum_12 (fun h => eT h ?_) (fun h => eF h ?_)
    · refine r_iconst ic_0 dX2_readSum_105 ?_
      exact vRet rfl rfl rfl dX2_readSum_106
    · refine r_aload_n dX2_readSum_15 rfl rfl ?_
      refine r_aload_n dX2_readSum_16 rfl rfl ?_
      refine r_iload_n dX2_readSum_17 rfl rfl ?_
      refine r_bipush bp_47 dX2_readSum_18 ?_
      refine eJ (fun (J1 : (Int32) → Option (Int32 × Mem)) => ∀ (t2 : Int32), V g uX2_readSum 9 rvW rmW 28 [.ref (ga g 180), .ref (ga g 178), .int y2, .int y3, .int y4] [.int t2, .ref (ga g 178), .ref (ga g 180)] M (J1 t2)) (fun t2 => ?_) (fun J1 hJ1 => ?_)
      · refine r_calli (cl_V [.ref (ga g 178), .int t2] bX2_readUnit (by decide) dX2_readSum_28 ml_X2_110 kdc_180 rfl (Nat.le_of_ble_eq_true rfl) rfl) (kX2_readUnit _ _) (fun r3 _ => ?_)
        refine r_if_ne dX2_readSum_31 (fun h => eF h ?_) (fun h => eT h ?_)
        · refine r_iload_n dX2_readSum_36 rfl rfl ?_
          refine eJ (fun (J4 : (Mem) → Option (Int32 × Mem)) => ∀ (M5 : Mem), V g uX2_readSum 9 rvW rmW 52 [.ref (ga g 180), .ref (ga g 178), .null, .int y3, .int y4] [] M5 (J4 M5)) (fun M5 => ?_) (fun J4 hJ4 => ?_)
          · refine r_aload_n dX2_readSum_52 rfl rfl ?_
            refine r_bipush bp_42 dX2_readSum_53 ?_
            refine r_bipush bp_47 dX2_readSum_55 ?_
            refine r_calli (cl_V [.int 42, .int 47] bX8_passSign (by decide) dX2_readSum_57 ml_X2_114 kdc_178 rfl (Nat.le_of_ble_eq_true rfl) rfl) (kX8_passSign _ _ _) (fun r6 _ => ?_)
            refine r_istore_n (l' := [.ref (ga g 180), .ref (ga g 178), .int r6.1, .int y3, .int y4]) dX2_readSum_60 rfl (Nat.le_of_ble_eq_true rfl) rfl rfl ?_
            refine r_iload_n dX2_readSum_61 rfl rfl ?_
            refine eJ (fun (J7 : (Int32) → (Mem) → Option (Int32 × Mem)) => ∀ (a8 : Int32) (M9 : Mem), V g uX2_readSum 9 rvW rmW 99 [.ref (ga g 180), .ref (ga g 178), .int r6.1, .int a8, .int y4] [] M9 (J7 a8 M9)) (fun a8 M9 => ?_) (fun J7 hJ7 => ?_)
            · refine r_iinc (l' := [.ref (ga g 180), .ref (ga g 178), .int r6.1, .int a8, .int (y4 + 1)]) dX2_readSum_99 rfl (inc_1 _) (Nat.le_of_ble_eq_true rfl) rfl rfl ?_
              refine r_goto dX2_readSum_102 ?_
              exact ih _ _ _ _
            · refine r_if_eq dX2_readSum_62 (fun h => eT h ?_) (fun h => eF h ?_)
              · refine r_iload_n dX2_readSum_68 rfl rfl ?_
                refine eJ (fun (J10 : (Mem) → Option (Int32 × Mem)) => ∀ (M11 : Mem), V g uX2_readSum 9 rvW rmW 84 [.ref (ga g 180), .ref (ga g 178), .int r6.1, .null, .int y4] [] M11 (J10 M11)) (fun M11 => ?_) (fun J10 hJ10 => ?_)
                · refine r_aload_n dX2_readSum_84 rfl rfl ?_
                  refine r_bipush bp_43 dX2_readSum_85 ?_
                  refine r_bipush bp_45 dX2_readSum_87 ?_
                  refine r_calli (cl_V [.int 43, .int 45] bX8_passSign (by decide) dX2_readSum_89 ml_X2_114 kdc_178 rfl (Nat.le_of_ble_eq_true rfl) rfl) (kX8_passSign _ _ _) (fun r12 _ => ?_)
                  refine r_istore_n (l' := [.ref (ga g 180), .ref (ga g 178), .int r6.1, .int r12.1, .int y4]) dX2_readSum_92 rfl (Nat.le_of_ble_eq_true rfl) rfl rfl ?_
                  refine r_iload_n dX2_readSum_93 rfl rfl ?_
                  refine r_if_ne dX2_readSum_94 (fun h => eF h ?_) (fun h => eT h ?_)
                  · exact hJ7 _ _
                  · refine r_iconst ic_1 dX2_readSum_97 ?_
                    exact vRet rfl rfl rfl dX2_readSum_98
                · refine r_if_eq dX2_readSum_69 (fun h => eT h ?_) (fun h => eF h ?_)
                  · exact vSub (l' := [.ref (ga g 180), .ref (ga g 178), .int r6.1, .null, .int y4]) ⟨Or.inr rfl, ⟨Or.inr rfl, ⟨Or.inr rfl, ⟨Or.inl rfl, ⟨Or.inr rfl, trivial⟩⟩⟩⟩⟩ (hJ10 _)
                  · refine r_aload_n dX2_readSum_72 rfl rfl ?_
                    refine r_getR (k' := 181) dX2_readSum_73 fl_X2_12 kdc_180 rfl ?_
                    refine r_sipush sp_20000 dX2_readSum_76 ?_
                    refine r_iload_n dX2_readSum_79 rfl rfl ?_
                    refine r_iadd dX2_readSum_80 ?_
                    refine r_callv (cl_V [.int (20000 + y3)] bX1_put (by decide) dX2_readSum_81 ml_X2_94 kdc_181 rfl (Nat.le_of_ble_eq_true rfl) rfl) (kX1_put _ _) (fun M13 _ => ?_)
                    exact vSub (l' := [.ref (ga g 180), .ref (ga g 178), .int r6.1, .null, .int y4]) ⟨Or.inr rfl, ⟨Or.inr rfl, ⟨Or.inr rfl, ⟨Or.inl rfl, ⟨Or.inr rfl, trivial⟩⟩⟩⟩⟩ (hJ10 _)
              · refine r_goto dX2_readSum_65 ?_
                exact hJ7 _ _
          · refine r_if_eq dX2_readSum_37 (fun h => eT h ?_) (fun h => eF h ?_)
            · exact vSub (l' := [.ref (ga g 180), .ref (ga g 178), .null, .int y3, .int y4]) ⟨Or.inr rfl, ⟨Or.inr rfl, ⟨Or.inl rfl, ⟨Or.inr rfl, ⟨Or.inr rfl, trivial⟩⟩⟩⟩⟩ (hJ4 _)
            · refine r_aload_n dX2_readSum_40 rfl rfl ?_
              refine r_getR (k' := 181) dX2_readSum_41 fl_X2_12 kdc_180 rfl ?_
              refine r_sipush sp_20000 dX2_readSum_44 ?_
              refine r_iload_n dX2_readSum_47 rfl rfl ?_
              refine r_iadd dX2_readSum_48 ?_
              refine r_callv (cl_V [.int (20000 + y2)] bX1_put (by decide) dX2_readSum_49 ml_X2_94 kdc_181 rfl (Nat.le_of_ble_eq_true rfl) rfl) (kX1_put _ _) (fun M14 _ => ?_)
              exact vSub (l' := [.ref (ga g 180), .ref (ga g 178), .null, .int y3, .int y4]) ⟨Or.inr rfl, ⟨Or.inr rfl, ⟨Or.inl rfl, ⟨Or.inr rfl, ⟨Or.inr rfl, trivial⟩⟩⟩⟩⟩ (hJ4 _)
        · refine r_iconst ic_0 dX2_readSum_34 ?_
          exact vRet rfl rfl rfl dX2_readSum_35
      · refine r_icmp_ne dX2_readSum_20 (fun h => eF h ?_) (fun h => eT h ?_)
        · refine r_iconst ic_0 dX2_readSum_27 ?_
          exact hJ1 _
        · refine r_iconst ic_1 dX2_readSum_23 ?_
          refine r_goto dX2_readSum_24 ?_
          exact hJ1 _
set_option maxHeartbeats 4000000 in
set_option maxRecDepth 100000 in
theorem vX2_readSum {g : G}    (M : Mem) : V g uX2_readSum 9 rvW rmW 0 [.ref (ga g 180), .ref (ga g 178), .null, .null, .null] [] M (fX2_readSum M) := by
  unfold fX2_readSum
  refine r_iconst ic_0 dX2_readSum_0 ?_
  refine r_istore_n (l' := [.ref (ga g 180), .ref (ga g 178), .int 0, .null, .null]) dX2_readSum_1 rfl (Nat.le_of_ble_eq_true rfl) rfl rfl ?_
  refine r_iconst ic_0 dX2_readSum_2 ?_
  refine r_istore_n (l' := [.ref (ga g 180), .ref (ga g 178), .int 0, .int 0, .null]) dX2_readSum_3 rfl (Nat.le_of_ble_eq_true rfl) rfl rfl ?_
  refine r_iconst ic_0 dX2_readSum_4 ?_
  refine r_istore (l' := [.ref (ga g 180), .ref (ga g 178), .int 0, .int 0, .int 0]) dX2_readSum_5 (Nat.le_of_ble_eq_true rfl) rfl rfl ?_
  refine vX2_readSum_L7  FU _ _ _ _
theorem kX2_readSum {g : G}    (M : Mem) : CtrI g uX2_readSum 9 (fun r => r.1) rmW [.ref (ga g 180), .ref (ga g 178)] M (fX2_readSum M) := CtrI.of mX2_readSum rfl (Nat.le_of_ble_eq_true rfl) rfl (vX2_readSum M)
set_option maxHeartbeats 4000000 in
set_option maxRecDepth 100000 in
theorem vX8_passWord {g : G} {w1 : Nat} (hw1 : w1 < strN)  (M : Mem) : V g uX8_passWord 7 rvW rmW 0 [.ref (ga g 178), .ref (gs g w1), .null] [] M (fX8_passWord w1 M) := by
  unfold fX8_passWord
  refine r_aload_n dX8_passWord_0 rfl rfl ?_
  refine r_aload_n dX8_passWord_1 rfl rfl ?_
  refine r_calli (cl_V [.ref (gs g w1)] bX8_isWord (by decide) dX8_passWord_2 ml_X8_53 kdc_178 rfl (Nat.le_of_ble_eq_true rfl) rfl) (kX8_isWord hw1 _) (fun v1 _ => ?_)
  refine r_istore_n (l' := [.ref (ga g 178), .ref (gs g w1), .int v1]) dX8_passWord_5 rfl (Nat.le_of_ble_eq_true rfl) rfl rfl ?_
  refine r_iload_n dX8_passWord_6 rfl rfl ?_
  refine r_if_eq dX8_passWord_7 (fun h => eT h ?_) (fun h => eF h ?_)
  · refine r_iload_n dX8_passWord_14 rfl rfl ?_
    exact vRetZ rfl rfl rfl dX8_passWord_15
  · refine r_aload_n dX8_passWord_10 rfl rfl ?_
    refine r_callv (cl_V [] bX8_advance (by decide) dX8_passWord_11 ml_X8_28 kdc_178 rfl (Nat.le_of_ble_eq_true rfl) rfl) (kX8_advance _) (fun M2 _ => ?_)
    refine r_iload_n dX8_passWord_14 rfl rfl ?_
    exact vRetZ rfl rfl rfl dX8_passWord_15
theorem kX8_passWord {g : G} {w1 : Nat} (hw1 : w1 < strN)  (M : Mem) : CtrI g uX8_passWord 7 (fun r => r.1) rmW [.ref (ga g 178), .ref (gs g w1)] M (fX8_passWord w1 M) := CtrI.of mX8_passWord rfl (Nat.le_of_ble_eq_true rfl) rfl (vX8_passWord hw1 M)
set_option maxHeartbeats 4000000 in
set_option maxRecDepth 100000 in
theorem vX8_takeSign {g : G}   (p1 : Int32) (M : Mem) : V g uX8_takeSign 3 rvW rmW 0 [.ref (ga g 178), .int p1] [] M (fX8_takeSign p1 M) := by
  unfold fX8_takeSign
  refine r_aload_n dX8_takeSign_0 rfl rfl ?_
  refine r_iload_n dX8_takeSign_1 rfl rfl ?_
  refine r_calliT (cl_V [.int p1] bX8_isSign (by decide) dX8_takeSign_2 ml_X8_57 kdc_178 rfl (Nat.le_of_ble_eq_true rfl) rfl) (kX8_isSign _ _) ?_
  refine r_if_ne dX8_takeSign_5 (fun h => eF h ?_) (fun h => eT h ?_)
  · refine r_aload_n dX8_takeSign_14 rfl rfl ?_
    refine r_callv (cl_V [] bX8_advance (by decide) dX8_takeSign_15 ml_X8_28 kdc_178 rfl (Nat.le_of_ble_eq_true rfl) rfl) (kX8_advance _) (fun M1 _ => ?_)
    refine r_iconst ic_1 dX8_takeSign_18 ?_
    exact vRet rfl rfl rfl dX8_takeSign_19
  · refine r_aload_n dX8_takeSign_8 rfl rfl ?_
    refine r_iconst ic_1 dX8_takeSign_9 ?_
    refine r_calli (cl_V [.int 1] bX8_refuse (by decide) dX8_takeSign_10 ml_X8_61 kdc_178 rfl (Nat.le_of_ble_eq_true rfl) rfl) (kX8_refuse _ _) (fun r2 _ => ?_)
    exact vRetZ rfl rfl rfl dX8_takeSign_13
theorem kX8_takeSign {g : G}   (p1 : Int32) (M : Mem) : CtrI g uX8_takeSign 3 (fun r => r.1) rmW [.ref (ga g 178), .int p1] M (fX8_takeSign p1 M) := CtrI.of mX8_takeSign rfl (Nat.le_of_ble_eq_true rfl) rfl (vX8_takeSign p1 M)
set_option maxHeartbeats 4000000 in
set_option maxRecDepth 100000 in
theorem vX2_readTest {g : G} (nn : Nat) {rX2_readEither : Int32 → Mem → Option (Int32 × Mem)} (hrX2_readEither : ∀ (p2 : Int32) (M : Mem), CtrI g uX2_readEither (nn + 10) (fun r => r.1) rmW [.ref (ga g 180), .ref (ga g 178), .int p2] M (rX2_readEither p2 M)) {rX2_readTest : Int32 → Mem → Option (Int32 × Mem)} (hrX2_readTest : ∀ (p2 : Int32) (M : Mem), CtrI g uX2_readTest (nn + 10) (fun r => r.1) rmW [.ref (ga g 180), .ref (ga g 178), .int p2] M (rX2_readTest p2 M))   (p2 : Int32) (M : Mem) : V g uX2_readTest (nn + 11) rvW rmW 0 [.ref (ga g 180), .ref (ga g 178), .int p2, .null, .null] [] M (hX2_readTest rX2_readEither rX2_readTest p2 M) := by
  unfold hX2_readTest
  refine r_aload_n dX2_readTest_0 rfl rfl ?_
  refine r_ldcS (i := 14) (List.mem_of_getElem? (i := 14) rfl) dX2_readTest_1 ?_
  refine r_calli (cl_V [.ref (gs g 14)] bX8_isWord (by omega) dX2_readTest_3 ml_X2_65 kdc_178 rfl (Nat.le_of_ble_eq_true rfl) rfl) (kX8_isWord (by decide) _) (fun v1 _ => ?_)
  refine r_istore_n (l' := [.ref (ga g 180), .ref (ga g 178), .int p2, .int v1, .null]) dX2_readTest_6 rfl (Nat.le_of_ble_eq_true rfl) rfl rfl ?_
  refine r_iload_n dX2_readTest_7 rfl rfl ?_
  refine eJ (fun (J2 : Option (Int32 × Mem)) => V g uX2_readTest (nn + 11) rvW rmW 20 [.ref (ga g 180), .ref (ga g 178), .int p2, .int v1, .null] [] M (J2)) ( ?_) (fun J2 hJ2 => ?_)
  · refine r_iload_n dX2_readTest_20 rfl rfl ?_
    refine r_bipush bp_8 dX2_readTest_21 ?_
    refine r_icmp_lt dX2_readTest_23 (fun h => eT h ?_) (fun h => eF h ?_)
    · refine r_aload_n dX2_readTest_32 rfl rfl ?_
      refine r_callv (cl_V [] bX8_advance (by omega) dX2_readTest_33 ml_X2_35 kdc_178 rfl (Nat.le_of_ble_eq_true rfl) rfl) (kX8_advance _) (fun M3 _ => ?_)
      refine r_iload_n dX2_readTest_36 rfl rfl ?_
      refine r_if_ne dX2_readTest_37 (fun h => eF h ?_) (fun h => eT h ?_)
      · refine r_aload_n dX2_readTest_66 rfl rfl ?_
        refine r_aload_n dX2_readTest_67 rfl rfl ?_
        refine r_iload_n dX2_readTest_68 rfl rfl ?_
        refine r_iconst ic_1 dX2_readTest_69 ?_
        refine r_iadd dX2_readTest_70 ?_
        refine r_calli (cl_V [.ref (ga g 178), .int (p2 + 1)] bX2_readTest (by omega) dX2_readTest_71 ml_X2_91 kdc_180 rfl (Nat.le_of_ble_eq_true rfl) rfl) (hrX2_readTest _ _) (fun r4 _ => ?_)
        refine r_if_ne dX2_readTest_74 (fun h => eF h ?_) (fun h => eT h ?_)
        · refine r_aload_n dX2_readTest_79 rfl rfl ?_
          refine r_getR (k' := 181) dX2_readTest_80 fl_X2_12 kdc_180 rfl ?_
          refine r_sipush sp_20110 dX2_readTest_83 ?_
          refine r_callv (cl_V [.int 20110] bX1_put (by omega) dX2_readTest_86 ml_X2_94 kdc_181 rfl (Nat.le_of_ble_eq_true rfl) rfl) (kX1_put _ _) (fun M5 _ => ?_)
          refine r_iconst ic_1 dX2_readTest_89 ?_
          exact vRet rfl rfl rfl dX2_readTest_90
        · refine r_iconst ic_0 dX2_readTest_77 ?_
          exact vRet rfl rfl rfl dX2_readTest_78
      · refine r_aload_n dX2_readTest_40 rfl rfl ?_
        refine r_aload_n dX2_readTest_41 rfl rfl ?_
        refine r_iload_n dX2_readTest_42 rfl rfl ?_
        refine r_iconst ic_1 dX2_readTest_43 ?_
        refine r_iadd dX2_readTest_44 ?_
        refine r_calli (cl_V [.ref (ga g 178), .int (p2 + 1)] bX2_readEither (by omega) dX2_readTest_45 ml_X2_51 kdc_180 rfl (Nat.le_of_ble_eq_true rfl) rfl) (hrX2_readEither _ _) (fun r6 _ => ?_)
        refine r_if_eq dX2_readTest_48 (fun h => eT h ?_) (fun h => eF h ?_)
        · refine r_iconst ic_0 dX2_readTest_64 ?_
          exact vRet rfl rfl rfl dX2_readTest_65
        · refine r_aload_n dX2_readTest_51 rfl rfl ?_
          refine r_bipush bp_41 dX2_readTest_52 ?_
          refine r_calli (cl_V [.int 41] bX8_takeSign (by omega) dX2_readTest_54 ml_X2_55 kdc_178 rfl (Nat.le_of_ble_eq_true rfl) rfl) (kX8_takeSign _ _) (fun r7 _ => ?_)
          refine r_if_eq dX2_readTest_57 (fun h => eT h ?_) (fun h => eF h ?_)
          · refine r_iconst ic_0 dX2_readTest_64 ?_
            exact vRet rfl rfl rfl dX2_readTest_65
          · refine r_iconst ic_1 dX2_readTest_60 ?_
            refine r_goto dX2_readTest_61 ?_
            exact vRet rfl rfl rfl dX2_readTest_65
    · refine r_aload_n dX2_readTest_26 rfl rfl ?_
      refine r_iconst ic_3 dX2_readTest_27 ?_
      refine r_calli (cl_V [.int 3] bX8_refuse (by omega) dX2_readTest_28 ml_X2_31 kdc_178 rfl (Nat.le_of_ble_eq_true rfl) rfl) (kX8_refuse _ _) (fun r8 _ => ?_)
      exact vRetZ rfl rfl rfl dX2_readTest_31
  · refine r_if_ne dX2_readTest_8 (fun h => eF h ?_) (fun h => eT h ?_)
    · exact hJ2
    · refine r_aload_n dX2_readTest_11 rfl rfl ?_
      refine r_bipush bp_40 dX2_readTest_12 ?_
      refine r_calliT (cl_V [.int 40] bX8_isSign (by omega) dX2_readTest_14 ml_X2_104 kdc_178 rfl (Nat.le_of_ble_eq_true rfl) rfl) (kX8_isSign _ _) ?_
      refine r_if_eq dX2_readTest_17 (fun h => eT h ?_) (fun h => eF h ?_)
      · refine r_aload_n dX2_readTest_91 rfl rfl ?_
        refine r_aload_n dX2_readTest_92 rfl rfl ?_
        refine r_calli (cl_V [.ref (ga g 178)] bX2_readSum (by omega) dX2_readTest_93 ml_X2_41 kdc_180 rfl (Nat.le_of_ble_eq_true rfl) rfl) (kX2_readSum _) (fun r9 _ => ?_)
        refine r_if_ne dX2_readTest_96 (fun h => eF h ?_) (fun h => eT h ?_)
        · refine r_aload_n dX2_readTest_101 rfl rfl ?_
          refine r_bipush bp_60 dX2_readTest_102 ?_
          refine r_calliT (cl_V [.int 60] bX8_isSign (by omega) dX2_readTest_104 ml_X2_104 kdc_178 rfl (Nat.le_of_ble_eq_true rfl) rfl) (kX8_isSign _ _) ?_
          refine eJ (fun (J10 : Option (Int32 × Mem)) => V g uX2_readTest (nn + 11) rvW rmW 134 [.ref (ga g 180), .ref (ga g 178), .null, .null, .null] [] r9.2 (J10)) ( ?_) (fun J10 hJ10 => ?_)
          · refine r_aload_n dX2_readTest_134 rfl rfl ?_
            refine r_getI dX2_readTest_135 fl_X2_107 kdc_178 ?_
            refine r_bndi (fun x11 => ?_)
            refine r_istore (l' := [.ref (ga g 180), .ref (ga g 178), .null, .null, .int x11]) dX2_readTest_138 (Nat.le_of_ble_eq_true rfl) rfl rfl ?_
            refine r_aload_n dX2_readTest_140 rfl rfl ?_
            refine r_callv (cl_V [] bX8_advance (by omega) dX2_readTest_141 ml_X2_35 kdc_178 rfl (Nat.le_of_ble_eq_true rfl) rfl) (kX8_advance _) (fun M12 _ => ?_)
            refine r_aload_n dX2_readTest_144 rfl rfl ?_
            refine r_aload_n dX2_readTest_145 rfl rfl ?_
            refine r_calli (cl_V [.ref (ga g 178)] bX2_readSum (by omega) dX2_readTest_146 ml_X2_41 kdc_180 rfl (Nat.le_of_ble_eq_true rfl) rfl) (kX2_readSum _) (fun r13 _ => ?_)
            refine r_if_ne dX2_readTest_149 (fun h => eF h ?_) (fun h => eT h ?_)
            · refine r_aload_n dX2_readTest_154 rfl rfl ?_
              refine r_getR (k' := 181) dX2_readTest_155 fl_X2_12 kdc_180 rfl ?_
              refine r_sipush sp_20000 dX2_readTest_158 ?_
              refine r_iload dX2_readTest_161 rfl ?_
              refine r_iadd dX2_readTest_163 ?_
              refine r_callv (cl_V [.int (20000 + x11)] bX1_put (by omega) dX2_readTest_164 ml_X2_94 kdc_181 rfl (Nat.le_of_ble_eq_true rfl) rfl) (kX1_put _ _) (fun M14 _ => ?_)
              refine r_iconst ic_1 dX2_readTest_167 ?_
              exact vRet rfl rfl rfl dX2_readTest_168
            · refine r_iconst ic_0 dX2_readTest_152 ?_
              exact vRet rfl rfl rfl dX2_readTest_153
          · refine r_if_ne dX2_readTest_107 (fun h => eF h ?_) (fun h => eT h ?_)
            · exact vSub (l' := [.ref (ga g 180), .ref (ga g 178), .null, .null, .null]) ⟨Or.inr rfl, ⟨Or.inr rfl, ⟨Or.inl rfl, ⟨Or.inl rfl, ⟨Or.inl rfl, trivial⟩⟩⟩⟩⟩ (hJ10 )
            · refine r_aload_n dX2_readTest_110 rfl rfl ?_
              refine r_bipush bp_61 dX2_readTest_111 ?_
              refine r_calliT (cl_V [.int 61] bX8_isSign (by omega) dX2_readTest_113 ml_X2_104 kdc_178 rfl (Nat.le_of_ble_eq_true rfl) rfl) (kX8_isSign _ _) ?_
              refine r_if_ne dX2_readTest_116 (fun h => eF h ?_) (fun h => eT h ?_)
              · exact vSub (l' := [.ref (ga g 180), .ref (ga g 178), .null, .null, .null]) ⟨Or.inr rfl, ⟨Or.inr rfl, ⟨Or.inl rfl, ⟨Or.inl rfl, ⟨Or.inl rfl, trivial⟩⟩⟩⟩⟩ (hJ10 )
              · refine r_aload_n dX2_readTest_119 rfl rfl ?_
                refine r_bipush bp_62 dX2_readTest_120 ?_
                refine r_calliT (cl_V [.int 62] bX8_isSign (by omega) dX2_readTest_122 ml_X2_104 kdc_178 rfl (Nat.le_of_ble_eq_true rfl) rfl) (kX8_isSign _ _) ?_
                refine r_if_ne dX2_readTest_125 (fun h => eF h ?_) (fun h => eT h ?_)
                · exact vSub (l' := [.ref (ga g 180), .ref (ga g 178), .null, .null, .null]) ⟨Or.inr rfl, ⟨Or.inr rfl, ⟨Or.inl rfl, ⟨Or.inl rfl, ⟨Or.inl rfl, trivial⟩⟩⟩⟩⟩ (hJ10 )
                · refine r_aload_n dX2_readTest_128 rfl rfl ?_
                  refine r_iconst ic_1 dX2_readTest_129 ?_
                  refine r_calli (cl_V [.int 1] bX8_refuse (by omega) dX2_readTest_130 ml_X2_31 kdc_178 rfl (Nat.le_of_ble_eq_true rfl) rfl) (kX8_refuse _ _) (fun r15 _ => ?_)
                  exact vRetZ rfl rfl rfl dX2_readTest_133
        · refine r_iconst ic_0 dX2_readTest_99 ?_
          exact vRet rfl rfl rfl dX2_readTest_100
      · exact hJ2
set_option maxHeartbeats 4000000 in
set_option maxRecDepth 100000 in
theorem vX2_readEither_L8 {g : G} (nn : Nat) {rX2_readEither : Int32 → Mem → Option (Int32 × Mem)} (hrX2_readEither : ∀ (p2 : Int32) (M : Mem), CtrI g uX2_readEither (nn + 10) (fun r => r.1) rmW [.ref (ga g 180), .ref (ga g 178), .int p2] M (rX2_readEither p2 M)) {rX2_readTest : Int32 → Mem → Option (Int32 × Mem)} (hrX2_readTest : ∀ (p2 : Int32) (M : Mem), CtrI g uX2_readTest (nn + 10) (fun r => r.1) rmW [.ref (ga g 180), .ref (ga g 178), .int p2] M (rX2_readTest p2 M))   (z2 : Int32)    : ∀ (n : Nat) (y3 : Int32) (y4 : Int32) (y5 : Int32) (M : Mem), V g uX2_readEither (nn + 11) rvW rmW 8 [.ref (ga g 180), .ref (ga g 178), .int z2, .int y3, .int y4, .int y5] [] M (fX2_readEither_L8 rX2_readEither rX2_readTest z2 n y3 y4 y5 M) := by
  intro n
  induction n with
  | zero => intro y3 y4 y5 M; exact vNone
  | succ n ih =>
    intro y3 y4 y5 M
    rw [fX2_readEither_L8]
    refine r_iload dX2_readEither_8 rfl ?_
    refine r_sipush sp_400 dX2_readEither_10 ?_
    refine r_icmp_ge dX2_readEither_13 (fun h => eT h ?_) (fun h => eF h ?_)
    · refine r_iconst ic_0 dX2_readEither_91 ?_
      exact vRet rfl rfl rfl dX2_readEither_92
    · refine r_aload_n dX2_readEither_16 rfl rfl ?_
      refine r_aload_n dX2_readEither_17 rfl rfl ?_
      refine r_iload_n dX2_readEither_18 rfl rfl ?_
      refine r_calli (cl_V [.ref (ga g 178), .int z2] bX2_readTest (by omega) dX2_readEither_19 ml_X2_91 kdc_180 rfl (Nat.le_of_ble_eq_true rfl) rfl) (hrX2_readTest _ _) (fun r1 _ => ?_)
      refine r_if_ne dX2_readEither_22 (fun h => eF h ?_) (fun h => eT h ?_)
      · refine r_iload_n dX2_readEither_27 rfl rfl ?_
        refine eJ (fun (J2 : (Mem) → Option (Int32 × Mem)) => ∀ (M3 : Mem), V g uX2_readEither (nn + 11) rvW rmW 41 [.ref (ga g 180), .ref (ga g 178), .int z2, .null, .int y4, .int y5] [] M3 (J2 M3)) (fun M3 => ?_) (fun J2 hJ2 => ?_)
        · refine r_aload_n dX2_readEither_41 rfl rfl ?_
          refine r_ldcS (i := 15) (List.mem_of_getElem? (i := 15) rfl) dX2_readEither_42 ?_
          refine r_calli (cl_V [.ref (gs g 15)] bX8_passWord (by omega) dX2_readEither_44 ml_X2_47 kdc_178 rfl (Nat.le_of_ble_eq_true rfl) rfl) (kX8_passWord (by decide) _) (fun r4 _ => ?_)
          refine r_istore_n (l' := [.ref (ga g 180), .ref (ga g 178), .int z2, .int r4.1, .int y4, .int y5]) dX2_readEither_47 rfl (Nat.le_of_ble_eq_true rfl) rfl rfl ?_
          refine r_iload_n dX2_readEither_48 rfl rfl ?_
          refine eJ (fun (J5 : (Int32) → (Mem) → Option (Int32 × Mem)) => ∀ (a6 : Int32) (M7 : Mem), V g uX2_readEither (nn + 11) rvW rmW 85 [.ref (ga g 180), .ref (ga g 178), .int z2, .int r4.1, .int a6, .int y5] [] M7 (J5 a6 M7)) (fun a6 M7 => ?_) (fun J5 hJ5 => ?_)
          · refine r_iinc (l' := [.ref (ga g 180), .ref (ga g 178), .int z2, .int r4.1, .int a6, .int (y5 + 1)]) dX2_readEither_85 rfl (inc_1 _) (Nat.le_of_ble_eq_true rfl) rfl rfl ?_
            refine r_goto dX2_readEither_88 ?_
            exact ih _ _ _ _
          · refine r_if_eq dX2_readEither_49 (fun h => eT h ?_) (fun h => eF h ?_)
            · refine r_iload dX2_readEither_55 rfl ?_
              refine eJ (fun (J8 : (Mem) → Option (Int32 × Mem)) => ∀ (M9 : Mem), V g uX2_readEither (nn + 11) rvW rmW 70 [.ref (ga g 180), .ref (ga g 178), .int z2, .int r4.1, .null, .int y5] [] M9 (J8 M9)) (fun M9 => ?_) (fun J8 hJ8 => ?_)
              · refine r_aload_n dX2_readEither_70 rfl rfl ?_
                refine r_ldcS (i := 16) (List.mem_of_getElem? (i := 16) rfl) dX2_readEither_71 ?_
                refine r_calli (cl_V [.ref (gs g 16)] bX8_passWord (by omega) dX2_readEither_73 ml_X2_47 kdc_178 rfl (Nat.le_of_ble_eq_true rfl) rfl) (kX8_passWord (by decide) _) (fun r10 _ => ?_)
                refine r_istore (l' := [.ref (ga g 180), .ref (ga g 178), .int z2, .int r4.1, .int r10.1, .int y5]) dX2_readEither_76 (Nat.le_of_ble_eq_true rfl) rfl rfl ?_
                refine r_iload dX2_readEither_78 rfl ?_
                refine r_if_ne dX2_readEither_80 (fun h => eF h ?_) (fun h => eT h ?_)
                · exact hJ5 _ _
                · refine r_iconst ic_1 dX2_readEither_83 ?_
                  exact vRet rfl rfl rfl dX2_readEither_84
              · refine r_if_eq dX2_readEither_57 (fun h => eT h ?_) (fun h => eF h ?_)
                · exact vSub (l' := [.ref (ga g 180), .ref (ga g 178), .int z2, .int r4.1, .null, .int y5]) ⟨Or.inr rfl, ⟨Or.inr rfl, ⟨Or.inr rfl, ⟨Or.inr rfl, ⟨Or.inl rfl, ⟨Or.inr rfl, trivial⟩⟩⟩⟩⟩⟩ (hJ8 _)
                · refine r_aload_n dX2_readEither_60 rfl rfl ?_
                  refine r_getR (k' := 181) dX2_readEither_61 fl_X2_12 kdc_180 rfl ?_
                  refine r_sipush sp_20111 dX2_readEither_64 ?_
                  refine r_callv (cl_V [.int 20111] bX1_put (by omega) dX2_readEither_67 ml_X2_94 kdc_181 rfl (Nat.le_of_ble_eq_true rfl) rfl) (kX1_put _ _) (fun M11 _ => ?_)
                  exact vSub (l' := [.ref (ga g 180), .ref (ga g 178), .int z2, .int r4.1, .null, .int y5]) ⟨Or.inr rfl, ⟨Or.inr rfl, ⟨Or.inr rfl, ⟨Or.inr rfl, ⟨Or.inl rfl, ⟨Or.inr rfl, trivial⟩⟩⟩⟩⟩⟩ (hJ8 _)
            · refine r_goto dX2_readEither_52 ?_
              exact hJ5 _ _
        · refine r_if_eq dX2_readEither_28 (fun h => eT h ?_) (fun h => eF h ?_)
          · exact vSub (l' := [.ref (ga g 180), .ref (ga g 178), .int z2, .null, .int y4, .int y5]) ⟨Or.inr rfl, ⟨Or.inr rfl, ⟨Or.inr rfl, ⟨Or.inl rfl, ⟨Or.inr rfl, ⟨Or.inr rfl, trivial⟩⟩⟩⟩⟩⟩ (hJ2 _)
          · refine r_aload_n dX2_readEither_31 rfl rfl ?_
            refine r_getR (k' := 181) dX2_readEither_32 fl_X2_12 kdc_180 rfl ?_
            refine r_sipush sp_20097 dX2_readEither_35 ?_
            refine r_callv (cl_V [.int 20097] bX1_put (by omega) dX2_readEither_38 ml_X2_94 kdc_181 rfl (Nat.le_of_ble_eq_true rfl) rfl) (kX1_put _ _) (fun M12 _ => ?_)
            exact vSub (l' := [.ref (ga g 180), .ref (ga g 178), .int z2, .null, .int y4, .int y5]) ⟨Or.inr rfl, ⟨Or.inr rfl, ⟨Or.inr rfl, ⟨Or.inl rfl, ⟨Or.inr rfl, ⟨Or.inr rfl, trivial⟩⟩⟩⟩⟩⟩ (hJ2 _)
      · refine r_iconst ic_0 dX2_readEither_25 ?_
        exact vRet rfl rfl rfl dX2_readEither_26
set_option maxHeartbeats 4000000 in
set_option maxRecDepth 100000 in
theorem vX2_readEither {g : G} (nn : Nat) {rX2_readEither : Int32 → Mem → Option (Int32 × Mem)} (hrX2_readEither : ∀ (p2 : Int32) (M : Mem), CtrI g uX2_readEither (nn + 10) (fun r => r.1) rmW [.ref (ga g 180), .ref (ga g 178), .int p2] M (rX2_readEither p2 M)) {rX2_readTest : Int32 → Mem → Option (Int32 × Mem)} (hrX2_readTest : ∀ (p2 : Int32) (M : Mem), CtrI g uX2_readTest (nn + 10) (fun r => r.1) rmW [.ref (ga g 180), .ref (ga g 178), .int p2] M (rX2_readTest p2 M))   (p2 : Int32) (M : Mem) : V g uX2_readEither (nn + 11) rvW rmW 0 [.ref (ga g 180), .ref (ga g 178), .int p2, .null, .null, .null] [] M (hX2_readEither rX2_readEither rX2_readTest p2 M) := by
  unfold hX2_readEither
  refine r_iconst ic_0 dX2_readEither_0 ?_
  refine r_istore_n (l' := [.ref (ga g 180), .ref (ga g 178), .int p2, .int 0, .null, .null]) dX2_readEither_1 rfl (Nat.le_of_ble_eq_true rfl) rfl rfl ?_
  refine r_iconst ic_0 dX2_readEither_2 ?_
  refine r_istore (l' := [.ref (ga g 180), .ref (ga g 178), .int p2, .int 0, .int 0, .null]) dX2_readEither_3 (Nat.le_of_ble_eq_true rfl) rfl rfl ?_
  refine r_iconst ic_0 dX2_readEither_5 ?_
  refine r_istore (l' := [.ref (ga g 180), .ref (ga g 178), .int p2, .int 0, .int 0, .int 0]) dX2_readEither_6 (Nat.le_of_ble_eq_true rfl) rfl rfl ?_
  refine vX2_readEither_L8 nn hrX2_readEither hrX2_readTest _ FU _ _ _ _
set_option maxHeartbeats 4000000 in
set_option maxRecDepth 100000 in
theorem kX2_grp {g : G} : ∀ n : Nat, (∀ (p2 : Int32) (M : Mem), CtrI g uX2_readEither (n + 10) (fun r => r.1) rmW [.ref (ga g 180), .ref (ga g 178), .int p2] M (fX2_readEither n p2 M)) ∧ (∀ (p2 : Int32) (M : Mem), CtrI g uX2_readTest (n + 10) (fun r => r.1) rmW [.ref (ga g 180), .ref (ga g 178), .int p2] M (fX2_readTest n p2 M))
  | 0 => ⟨fun _ _ => fun _ h => (by cases h), fun _ _ => fun _ h => (by cases h)⟩
  | n + 1 => ⟨fun p2 M => CtrI.of mX2_readEither rfl (Nat.le_of_ble_eq_true rfl) rfl (vX2_readEither n (kX2_grp n).1 (kX2_grp n).2 p2 M), fun p2 M => CtrI.of mX2_readTest rfl (Nat.le_of_ble_eq_true rfl) rfl (vX2_readTest n (kX2_grp n).1 (kX2_grp n).2 p2 M)⟩
theorem kX2_readEither {g : G} (n : Nat) (p2 : Int32) (M : Mem) : CtrI g uX2_readEither (n + 10) (fun r => r.1) rmW [.ref (ga g 180), .ref (ga g 178), .int p2] M (fX2_readEither n p2 M) := (kX2_grp n).1 p2 M
theorem kX2_readTest {g : G} (n : Nat) (p2 : Int32) (M : Mem) : CtrI g uX2_readTest (n + 10) (fun r => r.1) rmW [.ref (ga g 180), .ref (ga g 178), .int p2] M (fX2_readTest n p2 M) := (kX2_grp n).2 p2 M
