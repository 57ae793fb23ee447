set_option maxHeartbeats 4000000 in
set_option maxRecDepth 100000 in
theorem vX12_readsText {g : G}   (p1 : Int32) (M : Mem) : V g uX12_readsText 10 rvW rmW 0 [.ref (ga g 198), .int p1] [] M (fX12_readsText p1 M) := by
  unfold fX12_readsText
  refine r_aload_n dX12_readsText_0 rfl rfl ?_
  refine r_iconst ic_0 dX12_readsText_1 ?_
  refine r_put dX12_readsText_2 fw_X12_247 kdc_198 (fun M1 => ?_)
  refine r_aload_n dX12_readsText_5 rfl rfl ?_
  refine r_callv (cl_V [] bX12_reads (by decide) dX12_readsText_6 ml_X12_206 kdc_198 rfl (Nat.le_of_ble_eq_true rfl) rfl) (kX12_reads _) (fun M2 _ => ?_)
  refine r_iload_n dX12_readsText_9 rfl rfl ?_
  refine r_iconst ic_1 dX12_readsText_10 ?_
  refine r_icmp_ne dX12_readsText_11 (fun h => eF h ?_) (fun h => eT h ?_)
  · refine r_iload_n dX12_readsText_19 rfl rfl ?_
    refine r_iconst ic_2 dX12_readsText_20 ?_
    refine r_icmp_ne dX12_readsText_21 (fun h => eF h ?_) (fun h => eT h ?_)
    · refine r_iload_n dX12_readsText_29 rfl rfl ?_
      refine r_iconst ic_3 dX12_readsText_30 ?_
      refine r_icmp_ne dX12_readsText_31 (fun h => eF h ?_) (fun h => eT h ?_)
      · refine r_aload_n dX12_readsText_41 rfl rfl ?_
        refine r_calli (cl_V [] bX12_readLaw (by decide) dX12_readsText_42 ml_X12_281 kdc_198 rfl (Nat.le_of_ble_eq_true rfl) rfl) (kX12_readLaw _) (fun r3 _ => ?_)
        exact vRet rfl rfl rfl dX12_readsText_45
      · refine r_aload_n dX12_readsText_34 rfl rfl ?_
        refine r_calli (cl_V [] bX12_readLeans (by decide) dX12_readsText_35 ml_X12_278 kdc_198 rfl (Nat.le_of_ble_eq_true rfl) rfl) (kX12_readLeans _) (fun r4 _ => ?_)
        refine r_goto dX12_readsText_38 ?_
        exact vRet rfl rfl rfl dX12_readsText_45
    · refine r_aload_n dX12_readsText_24 rfl rfl ?_
      refine r_calli (cl_V [] bX12_readStreet (by decide) dX12_readsText_25 ml_X12_275 kdc_198 rfl (Nat.le_of_ble_eq_true rfl) rfl) (kX12_readStreet _) (fun r5 _ => ?_)
      exact vRet rfl rfl rfl dX12_readsText_28
  · refine r_aload_n dX12_readsText_14 rfl rfl ?_
    refine r_calli (cl_V [] bX12_readHops (by decide) dX12_readsText_15 ml_X12_272 kdc_198 rfl (Nat.le_of_ble_eq_true rfl) rfl) (kX12_readHops _) (fun r6 _ => ?_)
    exact vRet rfl rfl rfl dX12_readsText_18
theorem kX12_readsText {g : G}   (p1 : Int32) (M : Mem) : CtrI g uX12_readsText 10 (fun r => r.1) rmW [.ref (ga g 198), .int p1] M (fX12_readsText p1 M) := CtrI.of mX12_readsText rfl (Nat.le_of_ble_eq_true rfl) rfl (vX12_readsText p1 M)
set_option maxHeartbeats 4000000 in
set_option maxRecDepth 100000 in
theorem vX12_takesLaw_L2 {g : G}  (K105 : Mem → Option (Mem)) (z1 : Int32)   (hK105 : ∀ (M : Mem), V g uX12_takesLaw 1 rvU rmU 105 [.ref (ga g 198), .int z1, .null] [] M (K105 M)) : ∀ (n : Nat) (y2 : Int32) (M : Mem), V g uX12_takesLaw 1 rvU rmU 2 [.ref (ga g 198), .int z1, .int y2] [] M (fX12_takesLaw_L2 K105 z1 n y2 M) := by
  intro n
  induction n with
  | zero => intro y2 M; exact vNone
  | succ n ih =>
    intro y2 M
    rw [fX12_takesLaw_L2]
    refine r_iload_n dX12_takesLaw_2 rfl rfl ?_
    refine r_iload_n dX12_takesLaw_3 rfl rfl ?_
    refine r_icmp_ge dX12_takesLaw_4 (fun h => eT h ?_) (fun h => eF h ?_)
    · exact vSub (l' := [.ref (ga g 198), .int z1, .null]) ⟨Or.inr rfl, ⟨Or.inr rfl, ⟨Or.inl rfl, trivial⟩⟩⟩ (hK105 _)
    · refine r_aload_n dX12_takesLaw_7 rfl rfl ?_
      refine r_getR (k' := 209) dX12_takesLaw_8 fl_X12_40 kdc_198 rfl ?_
      refine r_bipush bp_16 dX12_takesLaw_11 ?_
      refine r_aload_n dX12_takesLaw_13 rfl rfl ?_
      refine r_getI dX12_takesLaw_14 fl_X12_247 kdc_198 ?_
      refine r_imul dX12_takesLaw_17 ?_
      refine r_iload_n dX12_takesLaw_18 rfl rfl ?_
      refine r_iadd dX12_takesLaw_19 ?_
      refine r_aload_n dX12_takesLaw_20 rfl rfl ?_
      refine r_getR (k' := 209) dX12_takesLaw_21 fl_X12_40 kdc_198 rfl ?_
      refine r_bipush bp_32 dX12_takesLaw_24 ?_
      refine r_iload_n dX12_takesLaw_26 rfl rfl ?_
      refine r_iadd dX12_takesLaw_27 ?_
      refine r_iald dX12_takesLaw_28 kdc_209 (fun v1 => ?_)
      refine r_iast dX12_takesLaw_29 kdc_209 (fun M2 => ?_)
      refine r_aload_n dX12_takesLaw_30 rfl rfl ?_
      refine r_getR (k' := 210) dX12_takesLaw_31 fl_X12_43 kdc_198 rfl ?_
      refine r_bipush bp_16 dX12_takesLaw_34 ?_
      refine r_aload_n dX12_takesLaw_36 rfl rfl ?_
      refine r_getI dX12_takesLaw_37 fl_X12_247 kdc_198 ?_
      refine r_imul dX12_takesLaw_40 ?_
      refine r_iload_n dX12_takesLaw_41 rfl rfl ?_
      refine r_iadd dX12_takesLaw_42 ?_
      refine r_aload_n dX12_takesLaw_43 rfl rfl ?_
      refine r_getR (k' := 210) dX12_takesLaw_44 fl_X12_43 kdc_198 rfl ?_
      refine r_bipush bp_32 dX12_takesLaw_47 ?_
      refine r_iload_n dX12_takesLaw_49 rfl rfl ?_
      refine r_iadd dX12_takesLaw_50 ?_
      refine r_iald dX12_takesLaw_51 kdc_210 (fun v3 => ?_)
      refine r_iast dX12_takesLaw_52 kdc_210 (fun M4 => ?_)
      refine r_aload_n dX12_takesLaw_53 rfl rfl ?_
      refine r_getR (k' := 211) dX12_takesLaw_54 fl_X12_46 kdc_198 rfl ?_
      refine r_bipush bp_16 dX12_takesLaw_57 ?_
      refine r_aload_n dX12_takesLaw_59 rfl rfl ?_
      refine r_getI dX12_takesLaw_60 fl_X12_247 kdc_198 ?_
      refine r_imul dX12_takesLaw_63 ?_
      refine r_iload_n dX12_takesLaw_64 rfl rfl ?_
      refine r_iadd dX12_takesLaw_65 ?_
      refine r_aload_n dX12_takesLaw_66 rfl rfl ?_
      refine r_getR (k' := 211) dX12_takesLaw_67 fl_X12_46 kdc_198 rfl ?_
      refine r_bipush bp_32 dX12_takesLaw_70 ?_
      refine r_iload_n dX12_takesLaw_72 rfl rfl ?_
      refine r_iadd dX12_takesLaw_73 ?_
      refine r_iald dX12_takesLaw_74 kdc_211 (fun v5 => ?_)
      refine r_iast dX12_takesLaw_75 kdc_211 (fun M6 => ?_)
      refine r_aload_n dX12_takesLaw_76 rfl rfl ?_
      refine r_getR (k' := 212) dX12_takesLaw_77 fl_X12_49 kdc_198 rfl ?_
      refine r_bipush bp_16 dX12_takesLaw_80 ?_
      refine r_aload_n dX12_takesLaw_82 rfl rfl ?_
      refine r_getI dX12_takesLaw_83 fl_X12_247 kdc_198 ?_
      refine r_imul dX12_takesLaw_86 ?_
      refine r_iload_n dX12_takesLaw_87 rfl rfl ?_
      refine r_iadd dX12_takesLaw_88 ?_
      refine r_aload_n dX12_takesLaw_89 rfl rfl ?_
      refine r_getR (k' := 212) dX12_takesLaw_90 fl_X12_49 kdc_198 rfl ?_
      refine r_bipush bp_32 dX12_takesLaw_93 ?_
      refine r_iload_n dX12_takesLaw_95 rfl rfl ?_
      refine r_iadd dX12_takesLaw_96 ?_
      refine r_iald dX12_takesLaw_97 kdc_212 (fun v7 => ?_)
      refine r_iast dX12_takesLaw_98 kdc_212 (fun M8 => ?_)
      refine r_iinc (l' := [.ref (ga g 198), .int z1, .int (y2 + 1)]) dX12_takesLaw_99 rfl (inc_1 _) (Nat.le_of_ble_eq_true rfl) rfl rfl ?_
      refine r_goto dX12_takesLaw_102 ?_
      exact ih _ _
set_option maxHeartbeats 4000000 in
set_option maxRecDepth 100000 in
theorem vX12_takesLaw_L107 {g : G}  (K171 : Mem → Option (Mem))  (c1 : Int32)  (hK171 : ∀ (M : Mem), V g uX12_takesLaw 1 rvU rmU 171 [.ref (ga g 198), .int c1, .null] [] M (K171 M)) : ∀ (n : Nat) (y2 : Int32) (M : Mem), V g uX12_takesLaw 1 rvU rmU 107 [.ref (ga g 198), .int c1, .int y2] [] M (fX12_takesLaw_L107 K171 n y2 M) := by
  intro n
  induction n with
  | zero => intro y2 M; exact vNone
  | succ n ih =>
    intro y2 M
    rw [fX12_takesLaw_L107]
    refine r_iload_n dX12_takesLaw_107 rfl rfl ?_
    refine r_aload_n dX12_takesLaw_108 rfl rfl ?_
    refine r_getI dX12_takesLaw_109 fl_X12_193 kdc_198 ?_
    refine r_icmp_ge dX12_takesLaw_112 (fun h => eT h ?_) (fun h => eF h ?_)
    · exact vSub (l' := [.ref (ga g 198), .int c1, .null]) ⟨Or.inr rfl, ⟨Or.inr rfl, ⟨Or.inl rfl, trivial⟩⟩⟩ (hK171 _)
    · refine r_aload_n dX12_takesLaw_115 rfl rfl ?_
      refine r_getR (k' := 213) dX12_takesLaw_116 fl_X12_52 kdc_198 rfl ?_
      refine r_sipush sp_400 dX12_takesLaw_119 ?_
      refine r_aload_n dX12_takesLaw_122 rfl rfl ?_
      refine r_getI dX12_takesLaw_123 fl_X12_247 kdc_198 ?_
      refine r_imul dX12_takesLaw_126 ?_
      refine r_iload_n dX12_takesLaw_127 rfl rfl ?_
      refine r_iadd dX12_takesLaw_128 ?_
      refine r_aload_n dX12_takesLaw_129 rfl rfl ?_
      refine r_getR (k' := 213) dX12_takesLaw_130 fl_X12_52 kdc_198 rfl ?_
      refine r_sipush sp_800 dX12_takesLaw_133 ?_
      refine r_iload_n dX12_takesLaw_136 rfl rfl ?_
      refine r_iadd dX12_takesLaw_137 ?_
      refine r_iald dX12_takesLaw_138 kdc_213 (fun v10 => ?_)
      refine r_iast dX12_takesLaw_139 kdc_213 (fun M11 => ?_)
      refine r_aload_n dX12_takesLaw_140 rfl rfl ?_
      refine r_getR (k' := 214) dX12_takesLaw_141 fl_X12_55 kdc_198 rfl ?_
      refine r_sipush sp_400 dX12_takesLaw_144 ?_
      refine r_aload_n dX12_takesLaw_147 rfl rfl ?_
      refine r_getI dX12_takesLaw_148 fl_X12_247 kdc_198 ?_
      refine r_imul dX12_takesLaw_151 ?_
      refine r_iload_n dX12_takesLaw_152 rfl rfl ?_
      refine r_iadd dX12_takesLaw_153 ?_
      refine r_aload_n dX12_takesLaw_154 rfl rfl ?_
      refine r_getR (k' := 214) dX12_takesLaw_155 fl_X12_55 kdc_198 rfl ?_
      refine r_sipush sp_800 dX12_takesLaw_158 ?_
      refine r_iload_n dX12_takesLaw_161 rfl rfl ?_
      refine r_iadd dX12_takesLaw_162 ?_
      refine r_iald dX12_takesLaw_163 kdc_214 (fun v12 => ?_)
      refine r_iast dX12_takesLaw_164 kdc_214 (fun M13 => ?_)
      refine r_iinc (l' := [.ref (ga g 198), .int c1, .int (y2 + 1)]) dX12_takesLaw_165 rfl (inc_1 _) (Nat.le_of_ble_eq_true rfl) rfl rfl ?_
      refine r_goto dX12_takesLaw_168 ?_
      exact ih _ _
set_option maxHeartbeats 4000000 in
set_option maxRecDepth 100000 in
theorem vX12_takesLaw {g : G}   (p1 : Int32) (M : Mem) : V g uX12_takesLaw 1 rvU rmU 0 [.ref (ga g 198), .int p1, .null] [] M (fX12_takesLaw p1 M) := by
  unfold fX12_takesLaw
  refine r_iconst ic_0 dX12_takesLaw_0 ?_
  refine r_istore_n (l' := [.ref (ga g 198), .int p1, .int 0]) dX12_takesLaw_1 rfl (Nat.le_of_ble_eq_true rfl) rfl rfl ?_
  refine vX12_takesLaw_L2 _ _ (fun M9 => ?_) FU _ _
  · refine r_iconst ic_0 dX12_takesLaw_105 ?_
    refine r_istore_n (l' := [.ref (ga g 198), .int p1, .int 0]) dX12_takesLaw_106 rfl (Nat.le_of_ble_eq_true rfl) rfl rfl ?_
    refine vX12_takesLaw_L107 _ _ (fun M14 => ?_) FU _ _
    · refine r_aload_n dX12_takesLaw_171 rfl rfl ?_
      refine r_getR (k' := 208) dX12_takesLaw_172 fl_X12_37 kdc_198 rfl ?_
      refine r_aload_n dX12_takesLaw_175 rfl rfl ?_
      refine r_getI dX12_takesLaw_176 fl_X12_247 kdc_198 ?_
      refine r_iload_n dX12_takesLaw_179 rfl rfl ?_
      refine r_iast dX12_takesLaw_180 kdc_208 (fun M15 => ?_)
      exact vRet rfl rfl trivial dX12_takesLaw_181
theorem kX12_takesLaw {g : G}   (p1 : Int32) (M : Mem) : CtrV g uX12_takesLaw 1 rmU [.ref (ga g 198), .int p1] M (fX12_takesLaw p1 M) := CtrV.of mX12_takesLaw rfl (Nat.le_of_ble_eq_true rfl) rfl (vX12_takesLaw p1 M)
set_option maxHeartbeats 4000000 in
set_option maxRecDepth 100000 in
theorem vX12_takesOther_L42 {g : G}  (K75 : Mem → Option (Mem)) (z1 : Int32) (z2 : Int32)   (hK75 : ∀ (M : Mem), V g uX12_takesOther 1 rvU rmU 75 [.ref (ga g 198), .int z1, .int z2, .null] [] M (K75 M)) : ∀ (n : Nat) (y3 : Int32) (M : Mem), V g uX12_takesOther 1 rvU rmU 42 [.ref (ga g 198), .int z1, .int z2, .int y3] [] M (fX12_takesOther_L42 K75 z1 z2 n y3 M) := by
  intro n
  induction n with
  | zero => intro y3 M; exact vNone
  | succ n ih =>
    intro y3 M
    rw [fX12_takesOther_L42]
    refine r_iload_n dX12_takesOther_42 rfl rfl ?_
    refine r_iconst ic_3 dX12_takesOther_43 ?_
    refine r_iload_n dX12_takesOther_44 rfl rfl ?_
    refine r_imul dX12_takesOther_45 ?_
    refine r_icmp_ge dX12_takesOther_46 (fun h => eT h ?_) (fun h => eF h ?_)
    · exact vSub (l' := [.ref (ga g 198), .int z1, .int z2, .null]) ⟨Or.inr rfl, ⟨Or.inr rfl, ⟨Or.inr rfl, ⟨Or.inl rfl, trivial⟩⟩⟩⟩ (hK75 _)
    · refine r_iload_n dX12_takesOther_49 rfl rfl ?_
      refine r_iconst ic_1 dX12_takesOther_50 ?_
      refine r_icmp_ne dX12_takesOther_51 (fun h => eF h ?_) (fun h => eT h ?_)
      · exact vSub (l' := [.ref (ga g 198), .int z1, .int z2, .null]) ⟨Or.inr rfl, ⟨Or.inr rfl, ⟨Or.inr rfl, ⟨Or.inl rfl, trivial⟩⟩⟩⟩ (hK75 _)
      · refine r_aload_n dX12_takesOther_54 rfl rfl ?_
        refine r_getR (k' := 216) dX12_takesOther_55 fl_X12_65 kdc_198 rfl ?_
        refine r_iload_n dX12_takesOther_58 rfl rfl ?_
        refine r_aload_n dX12_takesOther_59 rfl rfl ?_
        refine r_getR (k' := 216) dX12_takesOther_60 fl_X12_65 kdc_198 rfl ?_
        refine r_bipush bp_48 dX12_takesOther_63 ?_
        refine r_iload_n dX12_takesOther_65 rfl rfl ?_
        refine r_iadd dX12_takesOther_66 ?_
        refine r_iald dX12_takesOther_67 kdc_216 (fun v1 => ?_)
        refine r_iast dX12_takesOther_68 kdc_216 (fun M2 => ?_)
        refine r_iinc (l' := [.ref (ga g 198), .int z1, .int z2, .int (y3 + 1)]) dX12_takesOther_69 rfl (inc_1 _) (Nat.le_of_ble_eq_true rfl) rfl rfl ?_
        refine r_goto dX12_takesOther_72 ?_
        exact ih _ _
set_option maxHeartbeats 4000000 in
set_option maxRecDepth 100000 in
theorem vX12_takesOther_L77 {g : G}  (K110 : Mem → Option (Mem)) (z1 : Int32) (z2 : Int32)   (hK110 : ∀ (M : Mem), V g uX12_takesOther 1 rvU rmU 110 [.ref (ga g 198), .int z1, .int z2, .null] [] M (K110 M)) : ∀ (n : Nat) (y3 : Int32) (M : Mem), V g uX12_takesOther 1 rvU rmU 77 [.ref (ga g 198), .int z1, .int z2, .int y3] [] M (fX12_takesOther_L77 K110 z1 z2 n y3 M) := by
  intro n
  induction n with
  | zero => intro y3 M; exact vNone
  | succ n ih =>
    intro y3 M
    rw [fX12_takesOther_L77]
    refine r_iload_n dX12_takesOther_77 rfl rfl ?_
    refine r_iconst ic_4 dX12_takesOther_78 ?_
    refine r_iload_n dX12_takesOther_79 rfl rfl ?_
    refine r_imul dX12_takesOther_80 ?_
    refine r_icmp_ge dX12_takesOther_81 (fun h => eT h ?_) (fun h => eF h ?_)
    · exact vSub (l' := [.ref (ga g 198), .int z1, .int z2, .null]) ⟨Or.inr rfl, ⟨Or.inr rfl, ⟨Or.inr rfl, ⟨Or.inl rfl, trivial⟩⟩⟩⟩ (hK110 _)
    · refine r_iload_n dX12_takesOther_84 rfl rfl ?_
      refine r_iconst ic_2 dX12_takesOther_85 ?_
      refine r_icmp_ne dX12_takesOther_86 (fun h => eF h ?_) (fun h => eT h ?_)
      · exact vSub (l' := [.ref (ga g 198), .int z1, .int z2, .null]) ⟨Or.inr rfl, ⟨Or.inr rfl, ⟨Or.inr rfl, ⟨Or.inl rfl, trivial⟩⟩⟩⟩ (hK110 _)
      · refine r_aload_n dX12_takesOther_89 rfl rfl ?_
        refine r_getR (k' := 217) dX12_takesOther_90 fl_X12_68 kdc_198 rfl ?_
        refine r_iload_n dX12_takesOther_93 rfl rfl ?_
        refine r_aload_n dX12_takesOther_94 rfl rfl ?_
        refine r_getR (k' := 217) dX12_takesOther_95 fl_X12_68 kdc_198 rfl ?_
        refine r_bipush bp_64 dX12_takesOther_98 ?_
        refine r_iload_n dX12_takesOther_100 rfl rfl ?_
        refine r_iadd dX12_takesOther_101 ?_
        refine r_iald dX12_takesOther_102 kdc_217 (fun v4 => ?_)
        refine r_iast dX12_takesOther_103 kdc_217 (fun M5 => ?_)
        refine r_iinc (l' := [.ref (ga g 198), .int z1, .int z2, .int (y3 + 1)]) dX12_takesOther_104 rfl (inc_1 _) (Nat.le_of_ble_eq_true rfl) rfl rfl ?_
        refine r_goto dX12_takesOther_107 ?_
        exact ih _ _
set_option maxHeartbeats 4000000 in
set_option maxRecDepth 100000 in
theorem vX12_takesOther_L7 {g : G}   (z2 : Int32)    : ∀ (n : Nat) (y3 : Int32) (M : Mem), V g uX12_takesOther 1 rvU rmU 7 [.ref (ga g 198), .null, .int z2, .int y3] [] M (fX12_takesOther_L7 z2 n y3 M) := by
  intro n
  induction n with
  | zero => intro y3 M; exact vNone
  | succ n ih =>
    intro y3 M
    rw [fX12_takesOther_L7]
    refine r_iload_n dX12_takesOther_7 rfl rfl ?_
    refine r_bipush bp_14 dX12_takesOther_8 ?_
    refine r_icmp_ge dX12_takesOther_10 (fun h => eT h ?_) (fun h => eF h ?_)
    · refine r_aload_n dX12_takesOther_34 rfl rfl ?_
      refine r_iload_n dX12_takesOther_35 rfl rfl ?_
      refine r_put dX12_takesOther_36 fw_X12_284 kdc_198 (fun M13 => ?_)
      exact vRet rfl rfl trivial dX12_takesOther_39
    · refine r_aload_n dX12_takesOther_13 rfl rfl ?_
      refine r_getR (k' := 218) dX12_takesOther_14 fl_X12_71 kdc_198 rfl ?_
      refine r_iload_n dX12_takesOther_17 rfl rfl ?_
      refine r_aload_n dX12_takesOther_18 rfl rfl ?_
      refine r_getR (k' := 218) dX12_takesOther_19 fl_X12_71 kdc_198 rfl ?_
      refine r_bipush bp_14 dX12_takesOther_22 ?_
      refine r_iload_n dX12_takesOther_24 rfl rfl ?_
      refine r_iadd dX12_takesOther_25 ?_
      refine r_iald dX12_takesOther_26 kdc_218 (fun v14 => ?_)
      refine r_iast dX12_takesOther_27 kdc_218 (fun M15 => ?_)
      refine r_iinc (l' := [.ref (ga g 198), .null, .int z2, .int (y3 + 1)]) dX12_takesOther_28 rfl (inc_1 _) (Nat.le_of_ble_eq_true rfl) rfl rfl ?_
      refine r_goto dX12_takesOther_31 ?_
      exact ih _ _
set_option maxHeartbeats 4000000 in
set_option maxRecDepth 100000 in
theorem vX12_takesOther {g : G}   (p1 : Int32) (p2 : Int32) (M : Mem) : V g uX12_takesOther 1 rvU rmU 0 [.ref (ga g 198), .int p1, .int p2, .null] [] M (fX12_takesOther p1 p2 M) := by
  unfold fX12_takesOther
  refine r_iload_n dX12_takesOther_0 rfl rfl ?_
  refine r_iconst ic_3 dX12_takesOther_1 ?_
  refine r_icmp_ne dX12_takesOther_2 (fun h => eF h ?_) (fun h => eT h ?_)
  · refine r_iconst ic_0 dX12_takesOther_40 ?_
    refine r_istore_n (l' := [.ref (ga g 198), .int p1, .int p2, .int 0]) dX12_takesOther_41 rfl (Nat.le_of_ble_eq_true rfl) rfl rfl ?_
    refine vX12_takesOther_L42 _ _ _ (fun M3 => ?_) FU _ _
    · refine r_iconst ic_0 dX12_takesOther_75 ?_
      refine r_istore_n (l' := [.ref (ga g 198), .int p1, .int p2, .int 0]) dX12_takesOther_76 rfl (Nat.le_of_ble_eq_true rfl) rfl rfl ?_
      refine vX12_takesOther_L77 _ _ _ (fun M6 => ?_) FU _ _
      · refine r_iload_n dX12_takesOther_110 rfl rfl ?_
        refine r_iconst ic_1 dX12_takesOther_111 ?_
        refine eJ (fun (J7 : (Mem) → Option (Mem)) => ∀ (M8 : Mem), V g uX12_takesOther 1 rvU rmU 120 [.ref (ga g 198), .int p1, .int p2, .null] [] M8 (J7 M8)) (fun M8 => ?_) (fun J7 hJ7 => ?_)
        · refine r_iload_n dX12_takesOther_120 rfl rfl ?_
          refine r_iconst ic_2 dX12_takesOther_121 ?_
          refine r_icmp_ne dX12_takesOther_122 (fun h => eF h ?_) (fun h => eT h ?_)
          · refine r_aload_n dX12_takesOther_130 rfl rfl ?_
            refine r_iconst ic_0 dX12_takesOther_131 ?_
            refine r_put dX12_takesOther_132 fw_X12_125 kdc_198 (fun M9 => ?_)
            exact vRet rfl rfl trivial dX12_takesOther_135
          · refine r_aload_n dX12_takesOther_125 rfl rfl ?_
            refine r_iload_n dX12_takesOther_126 rfl rfl ?_
            refine r_put dX12_takesOther_127 fw_X12_290 kdc_198 (fun M10 => ?_)
            refine r_aload_n dX12_takesOther_130 rfl rfl ?_
            refine r_iconst ic_0 dX12_takesOther_131 ?_
            refine r_put dX12_takesOther_132 fw_X12_125 kdc_198 (fun M11 => ?_)
            exact vRet rfl rfl trivial dX12_takesOther_135
        · refine r_icmp_ne dX12_takesOther_112 (fun h => eF h ?_) (fun h => eT h ?_)
          · exact hJ7 _
          · refine r_aload_n dX12_takesOther_115 rfl rfl ?_
            refine r_iload_n dX12_takesOther_116 rfl rfl ?_
            refine r_put dX12_takesOther_117 fw_X12_287 kdc_198 (fun M12 => ?_)
            exact hJ7 _
  · refine r_iconst ic_0 dX12_takesOther_5 ?_
    refine r_istore_n (l' := [.ref (ga g 198), .int p1, .int p2, .int 0]) dX12_takesOther_6 rfl (Nat.le_of_ble_eq_true rfl) rfl rfl ?_
    refine vSub (l' := [.ref (ga g 198), .null, .int p2, .int 0]) ⟨Or.inr rfl, ⟨Or.inl rfl, ⟨Or.inr rfl, ⟨Or.inr rfl, trivial⟩⟩⟩⟩ ?_
    refine vX12_takesOther_L7 _ FU _ _
theorem kX12_takesOther {g : G}   (p1 : Int32) (p2 : Int32) (M : Mem) : CtrV g uX12_takesOther 1 rmU [.ref (ga g 198), .int p1, .int p2] M (fX12_takesOther p1 p2 M) := CtrV.of mX12_takesOther rfl (Nat.le_of_ble_eq_true rfl) rfl (vX12_takesOther p1 p2 M)
set_option maxHeartbeats 4000000 in
set_option maxRecDepth 100000 in
theorem vX12_text {g : G}   (p1 : Int32) (M : Mem) : V g uX12_text 11 rvW rmW 0 [.ref (ga g 198), .int p1, .null] [] M (fX12_text p1 M) := by
  unfold fX12_text
  refine r_aload_n dX12_text_0 rfl rfl ?_
  refine r_iconst ic_0 dX12_text_1 ?_
  refine r_put dX12_text_2 fw_X12_122 kdc_198 (fun M1 => ?_)
  refine r_aload_n dX12_text_5 rfl rfl ?_
  refine r_iconst ic_0 dX12_text_6 ?_
  refine r_put dX12_text_7 fw_X12_293 kdc_198 (fun M2 => ?_)
  refine r_aload_n dX12_text_10 rfl rfl ?_
  refine r_iconst ic_m1 dX12_text_11 ?_
  refine r_put dX12_text_12 fw_X12_61 kdc_198 (fun M3 => ?_)
  refine r_aload_n dX12_text_15 rfl rfl ?_
  refine r_iconst ic_0 dX12_text_16 ?_
  refine r_put dX12_text_17 fw_X12_158 kdc_198 (fun M4 => ?_)
  refine r_aload_n dX12_text_20 rfl rfl ?_
  refine r_iconst ic_0 dX12_text_21 ?_
  refine r_put dX12_text_22 fw_X12_193 kdc_198 (fun M5 => ?_)
  refine r_aload_n dX12_text_25 rfl rfl ?_
  refine r_iconst ic_0 dX12_text_26 ?_
  refine r_put dX12_text_27 fw_X12_225 kdc_198 (fun M6 => ?_)
  refine r_iconst ic_m1 dX12_text_30 ?_
  refine r_istore_n (l' := [.ref (ga g 198), .int p1, .int (-1)]) dX12_text_31 rfl (Nat.le_of_ble_eq_true rfl) rfl rfl ?_
  refine r_aload_n dX12_text_32 rfl rfl ?_
  refine r_iload_n dX12_text_33 rfl rfl ?_
  refine r_iconst ic_0 dX12_text_34 ?_
  refine r_iconst ic_3 dX12_text_35 ?_
  refine r_calliT (cl_V [.int p1, .int 0, .int 3] bX12_isIn (by decide) dX12_text_36 ml_X12_140 kdc_198 rfl (Nat.le_of_ble_eq_true rfl) rfl) (kX12_isIn _ _ _ _) ?_
  refine eJ (fun (J7 : (Int32) → (Mem) → Option (Int32 × Mem)) => ∀ (a8 : Int32) (M9 : Mem), V g uX12_text 11 rvW rmW 69 [.ref (ga g 198), .int p1, .int a8] [] M9 (J7 a8 M9)) (fun a8 M9 => ?_) (fun J7 hJ7 => ?_)
  · refine r_aload_n dX12_text_69 rfl rfl ?_
    refine r_iconst ic_0 dX12_text_70 ?_
    refine r_put dX12_text_71 fw_X12_151 kdc_198 (fun M10 => ?_)
    refine r_iload_n dX12_text_74 rfl rfl ?_
    refine r_iconst ic_m1 dX12_text_75 ?_
    refine r_icmp_ne dX12_text_76 (fun h => eF h ?_) (fun h => eT h ?_)
    · refine r_iload_n dX12_text_81 rfl rfl ?_
      refine r_if_ne dX12_text_82 (fun h => eF h ?_) (fun h => eT h ?_)
      · refine r_aload_n dX12_text_93 rfl rfl ?_
        refine r_iload_n dX12_text_94 rfl rfl ?_
        refine r_iload_n dX12_text_95 rfl rfl ?_
        refine r_callv (cl_V [.int p1, .int a8] bX12_takesOther (by decide) dX12_text_96 ml_X12_302 kdc_198 rfl (Nat.le_of_ble_eq_true rfl) rfl) (kX12_takesOther _ _ _) (fun M11 _ => ?_)
        refine r_iload_n dX12_text_99 rfl rfl ?_
        exact vRet rfl rfl rfl dX12_text_100
      · refine r_aload_n dX12_text_85 rfl rfl ?_
        refine r_iload_n dX12_text_86 rfl rfl ?_
        refine r_callv (cl_V [.int a8] bX12_takesLaw (by decide) dX12_text_87 ml_X12_299 kdc_198 rfl (Nat.le_of_ble_eq_true rfl) rfl) (kX12_takesLaw _ _) (fun M12 _ => ?_)
        refine r_goto dX12_text_90 ?_
        refine r_iload_n dX12_text_99 rfl rfl ?_
        exact vRet rfl rfl rfl dX12_text_100
    · refine r_iconst ic_m1 dX12_text_79 ?_
      exact vRet rfl rfl rfl dX12_text_80
  · refine r_if_eq dX12_text_39 (fun h => eT h ?_) (fun h => eF h ?_)
    · exact hJ7 _ _
    · refine r_aload_n dX12_text_42 rfl rfl ?_
      refine r_iload_n dX12_text_43 rfl rfl ?_
      refine r_calli (cl_V [.int p1] bX12_readsText (by decide) dX12_text_44 ml_X12_296 kdc_198 rfl (Nat.le_of_ble_eq_true rfl) rfl) (kX12_readsText _ _) (fun r13 _ => ?_)
      refine r_istore_n (l' := [.ref (ga g 198), .int p1, .int r13.1]) dX12_text_47 rfl (Nat.le_of_ble_eq_true rfl) rfl rfl ?_
      refine r_iload_n dX12_text_48 rfl rfl ?_
      refine r_iconst ic_m1 dX12_text_49 ?_
      refine r_icmp_ne dX12_text_50 (fun h => eF h ?_) (fun h => eT h ?_)
      · exact hJ7 _ _
      · refine r_aload_n dX12_text_53 rfl rfl ?_
        refine r_aload_n dX12_text_54 rfl rfl ?_
        refine r_getI dX12_text_55 fl_X12_187 kdc_198 ?_
        refine r_put dX12_text_58 fw_X12_293 kdc_198 (fun M14 => ?_)
        refine r_aload_n dX12_text_61 rfl rfl ?_
        refine r_aload_n dX12_text_62 rfl rfl ?_
        refine r_getI dX12_text_63 fl_X12_190 kdc_198 ?_
        refine r_put dX12_text_66 fw_X12_61 kdc_198 (fun M15 => ?_)
        exact hJ7 _ _
theorem kX12_text {g : G}   (p1 : Int32) (M : Mem) : CtrI g uX12_text 11 (fun r => r.1) rmW [.ref (ga g 198), .int p1] M (fX12_text p1 M) := CtrI.of mX12_text rfl (Nat.le_of_ble_eq_true rfl) rfl (vX12_text p1 M)
set_option maxHeartbeats 4000000 in
set_option maxRecDepth 100000 in
theorem vX11_fault {g : G}   (p1 : Int32) (M : Mem) : V g uX11_fault 1 rvI (rmP M) 0 [.ref (ga g 0), .int p1] [] M (some (fX11_fault p1 M)) := by
  unfold fX11_fault
  refine r_iload_n dX11_fault_0 rfl rfl ?_
  refine r_if_ne dX11_fault_1 (fun h => eFT h ?_) (fun h => eTT h ?_)
  · refine r_iload_n dX11_fault_12 rfl rfl ?_
    refine r_iconst ic_1 dX11_fault_13 ?_
    refine r_icmp_ne dX11_fault_14 (fun h => eFT h ?_) (fun h => eTT h ?_)
    · refine r_iconst ic_m1 dX11_fault_27 ?_
      exact vRet rfl rfl rfl dX11_fault_28
    · refine r_aload_n dX11_fault_17 rfl rfl ?_
      refine r_getR (k' := 178) dX11_fault_18 fl_X11_36 kdc_0 rfl ?_
      refine r_getI dX11_fault_21 fl_X11_191 kdc_178 ?_
      refine r_goto dX11_fault_24 ?_
      exact vRet rfl rfl rfl dX11_fault_28
  · refine r_aload_n dX11_fault_4 rfl rfl ?_
    refine r_getR (k' := 178) dX11_fault_5 fl_X11_36 kdc_0 rfl ?_
    refine r_getI dX11_fault_8 fl_X11_188 kdc_178 ?_
    exact vRet rfl rfl rfl dX11_fault_11
theorem kX11_fault {g : G}   (p1 : Int32) (M : Mem) : CtrI g uX11_fault 1 (fun r => r) (rmP M) [.ref (ga g 0), .int p1] M (some (fX11_fault p1 M)) := CtrI.of mX11_fault rfl (Nat.le_of_ble_eq_true rfl) rfl (vX11_fault p1 M)
set_option maxHeartbeats 4000000 in
set_option maxRecDepth 100000 in
theorem vX12_fault {g : G}   (p1 : Int32) (M : Mem) : V g uX12_fault 1 rvW rmW 0 [.ref (ga g 198), .int p1] [] M (fX12_fault p1 M) := by
  unfold fX12_fault
  refine r_aload_n dX12_fault_0 rfl rfl ?_
  refine r_iconst ic_0 dX12_fault_1 ?_
  refine r_put dX12_fault_2 fw_X12_122 kdc_198 (fun M1 => ?_)
  refine r_iload_n dX12_fault_5 rfl rfl ?_
  refine r_if_ne dX12_fault_6 (fun h => eF h ?_) (fun h => eT h ?_)
  · refine r_iload_n dX12_fault_16 rfl rfl ?_
    refine r_iconst ic_1 dX12_fault_17 ?_
    refine r_icmp_ne dX12_fault_18 (fun h => eF h ?_) (fun h => eT h ?_)
    · refine r_iconst ic_m1 dX12_fault_28 ?_
      exact vRet rfl rfl rfl dX12_fault_29
    · refine r_aload_n dX12_fault_21 rfl rfl ?_
      refine r_getI dX12_fault_22 fl_X12_61 kdc_198 ?_
      refine r_goto dX12_fault_25 ?_
      exact vRet rfl rfl rfl dX12_fault_29
  · refine r_aload_n dX12_fault_9 rfl rfl ?_
    refine r_getI dX12_fault_10 fl_X12_293 kdc_198 ?_
    refine r_goto dX12_fault_13 ?_
    exact vRet rfl rfl rfl dX12_fault_29
theorem kX12_fault {g : G}   (p1 : Int32) (M : Mem) : CtrI g uX12_fault 1 (fun r => r.1) rmW [.ref (ga g 198), .int p1] M (fX12_fault p1 M) := CtrI.of mX12_fault rfl (Nat.le_of_ble_eq_true rfl) rfl (vX12_fault p1 M)
set_option maxHeartbeats 4000000 in
set_option maxRecDepth 100000 in
theorem vX9_bargainsOf_L4 {g : G}   (z1 : Int32)  (M : Mem)   : ∀ (n : Nat) (y2 : Int32) (y3 : Int32), V g uX9_bargainsOf 3 rvI (rmP M) 4 [.ref (ga g 2), .int z1, .int y2, .int y3] [] M (fX9_bargainsOf_L4 z1 M n y2 y3) := by
  intro n
  induction n with
  | zero => intro y2 y3; exact vNone
  | succ n ih =>
    intro y2 y3
    rw [fX9_bargainsOf_L4]
    refine r_iload_n dX9_bargainsOf_4 rfl rfl ?_
    refine r_aload_n dX9_bargainsOf_5 rfl rfl ?_
    refine r_getI dX9_bargainsOf_6 fl_X9_55 kdc_2 ?_
    refine r_icmp_ge dX9_bargainsOf_9 (fun h => eT h ?_) (fun h => eF h ?_)
    · refine r_iload_n dX9_bargainsOf_33 rfl rfl ?_
      exact vRet rfl rfl rfl dX9_bargainsOf_34
    · refine r_aload_n dX9_bargainsOf_12 rfl rfl ?_
      refine r_iload_n dX9_bargainsOf_13 rfl rfl ?_
      refine r_iload_n dX9_bargainsOf_14 rfl rfl ?_
      refine r_calli (cl_V [.int y3, .int z1] bX9_isOneOf (by decide) dX9_bargainsOf_15 ml_X9_80 kdc_2 rfl (Nat.le_of_ble_eq_true rfl) rfl) (kX9_isOneOf _ _ _) (fun v1 _ => ?_)
      refine eJ (fun (J2 : (Int32) → Option (Int32)) => ∀ (a3 : Int32), V g uX9_bargainsOf 3 rvI (rmP M) 27 [.ref (ga g 2), .int z1, .int a3, .int y3] [] M (J2 a3)) (fun a3 => ?_) (fun J2 hJ2 => ?_)
      · refine r_iinc (l' := [.ref (ga g 2), .int z1, .int a3, .int (y3 + 1)]) dX9_bargainsOf_27 rfl (inc_1 _) (Nat.le_of_ble_eq_true rfl) rfl rfl ?_
        refine r_goto dX9_bargainsOf_30 ?_
        exact ih _ _
      · refine r_if_eq dX9_bargainsOf_18 (fun h => eT h ?_) (fun h => eF h ?_)
        · exact hJ2 _
        · refine r_iload_n dX9_bargainsOf_21 rfl rfl ?_
          refine r_iconst ic_1 dX9_bargainsOf_22 ?_
          refine r_iload_n dX9_bargainsOf_23 rfl rfl ?_
          refine r_ishl dX9_bargainsOf_24 ?_
          refine r_ior dX9_bargainsOf_25 ?_
          refine r_bndi (fun x4 => ?_)
          refine r_istore_n (l' := [.ref (ga g 2), .int z1, .int x4, .int y3]) dX9_bargainsOf_26 rfl (Nat.le_of_ble_eq_true rfl) rfl rfl ?_
          exact hJ2 _
set_option maxHeartbeats 4000000 in
set_option maxRecDepth 100000 in
theorem vX9_bargainsOf {g : G}   (p1 : Int32) (M : Mem) : V g uX9_bargainsOf 3 rvI (rmP M) 0 [.ref (ga g 2), .int p1, .null, .null] [] M (fX9_bargainsOf p1 M) := by
  unfold fX9_bargainsOf
  refine r_iconst ic_0 dX9_bargainsOf_0 ?_
  refine r_istore_n (l' := [.ref (ga g 2), .int p1, .int 0, .null]) dX9_bargainsOf_1 rfl (Nat.le_of_ble_eq_true rfl) rfl rfl ?_
  refine r_iconst ic_0 dX9_bargainsOf_2 ?_
  refine r_istore_n (l' := [.ref (ga g 2), .int p1, .int 0, .int 0]) dX9_bargainsOf_3 rfl (Nat.le_of_ble_eq_true rfl) rfl rfl ?_
  refine vX9_bargainsOf_L4 _ _ FU _ _
theorem kX9_bargainsOf {g : G}   (p1 : Int32) (M : Mem) : CtrI g uX9_bargainsOf 3 (fun r => r) (rmP M) [.ref (ga g 2), .int p1] M (fX9_bargainsOf p1 M) := CtrI.of mX9_bargainsOf rfl (Nat.le_of_ble_eq_true rfl) rfl (vX9_bargainsOf p1 M)
set_option maxHeartbeats 4000000 in
set_option maxRecDepth 100000 in
theorem vX0_heardBy_L4 {g : G}   (z1 : Int32)  (M : Mem)   : ∀ (n : Nat) (y2 : Int32) (y3 : Int32), V g uX0_heardBy 1 rvI (rmP M) 4 [.ref (ga g 1), .int z1, .int y2, .int y3] [] M (fX0_heardBy_L4 z1 M n y2 y3) := by
  intro n
  induction n with
  | zero => intro y2 y3; exact vNone
  | succ n ih =>
    intro y2 y3
    rw [fX0_heardBy_L4]
    refine r_iload_n dX0_heardBy_4 rfl rfl ?_
    refine r_aload_n dX0_heardBy_5 rfl rfl ?_
    refine r_getR (k' := 35) dX0_heardBy_6 fl_X0_40 kdc_1 rfl ?_
    refine r_getI dX0_heardBy_9 fl_X0_63 kdc_35 ?_
    refine r_icmp_ge dX0_heardBy_12 (fun h => eT h ?_) (fun h => eF h ?_)
    · refine r_iload_n dX0_heardBy_48 rfl rfl ?_
      exact vRet rfl rfl rfl dX0_heardBy_49
    · refine r_aload_n dX0_heardBy_15 rfl rfl ?_
      refine r_getR (k' := 35) dX0_heardBy_16 fl_X0_40 kdc_1 rfl ?_
      refine r_getR (k' := 39) dX0_heardBy_19 fl_X0_71 kdc_35 rfl ?_
      refine r_iload_n dX0_heardBy_22 rfl rfl ?_
      refine r_iald dX0_heardBy_23 kdc_39 (fun v1 => ?_)
      refine r_iload_n dX0_heardBy_24 rfl rfl ?_
      refine eJ (fun (J2 : (Int32) → Option (Int32)) => ∀ (a3 : Int32), V g uX0_heardBy 1 rvI (rmP M) 42 [.ref (ga g 1), .int z1, .int a3, .int y3] [] M (J2 a3)) (fun a3 => ?_) (fun J2 hJ2 => ?_)
      · refine r_iinc (l' := [.ref (ga g 1), .int z1, .int a3, .int (y3 + 1)]) dX0_heardBy_42 rfl (inc_1 _) (Nat.le_of_ble_eq_true rfl) rfl rfl ?_
        refine r_goto dX0_heardBy_45 ?_
        exact ih _ _
      · refine r_icmp_ne dX0_heardBy_25 (fun h => eF h ?_) (fun h => eT h ?_)
        · exact hJ2 _
        · refine r_iload_n dX0_heardBy_28 rfl rfl ?_
          refine r_iconst ic_1 dX0_heardBy_29 ?_
          refine r_aload_n dX0_heardBy_30 rfl rfl ?_
          refine r_getR (k' := 35) dX0_heardBy_31 fl_X0_40 kdc_1 rfl ?_
          refine r_getR (k' := 38) dX0_heardBy_34 fl_X0_67 kdc_35 rfl ?_
          refine r_iload_n dX0_heardBy_37 rfl rfl ?_
          refine r_iald dX0_heardBy_38 kdc_38 (fun v4 => ?_)
          refine r_ishl dX0_heardBy_39 ?_
          refine r_ior dX0_heardBy_40 ?_
          refine r_bndi (fun x5 => ?_)
          refine r_istore_n (l' := [.ref (ga g 1), .int z1, .int x5, .int y3]) dX0_heardBy_41 rfl (Nat.le_of_ble_eq_true rfl) rfl rfl ?_
          exact hJ2 _
set_option maxHeartbeats 4000000 in
set_option maxRecDepth 100000 in
theorem vX0_heardBy {g : G}   (p1 : Int32) (M : Mem) : V g uX0_heardBy 1 rvI (rmP M) 0 [.ref (ga g 1), .int p1, .null, .null] [] M (fX0_heardBy p1 M) := by
  unfold fX0_heardBy
  refine r_iconst ic_0 dX0_heardBy_0 ?_
  refine r_istore_n (l' := [.ref (ga g 1), .int p1, .int 0, .null]) dX0_heardBy_1 rfl (Nat.le_of_ble_eq_true rfl) rfl rfl ?_
  refine r_iconst ic_0 dX0_heardBy_2 ?_
  refine r_istore_n (l' := [.ref (ga g 1), .int p1, .int 0, .int 0]) dX0_heardBy_3 rfl (Nat.le_of_ble_eq_true rfl) rfl rfl ?_
  refine vX0_heardBy_L4 _ _ FU _ _
theorem kX0_heardBy {g : G}   (p1 : Int32) (M : Mem) : CtrI g uX0_heardBy 1 (fun r => r) (rmP M) [.ref (ga g 1), .int p1] M (fX0_heardBy p1 M) := CtrI.of mX0_heardBy rfl (Nat.le_of_ble_eq_true rfl) rfl (vX0_heardBy p1 M)
set_option maxHeartbeats 4000000 in
set_option maxRecDepth 100000 in
theorem vX11_of {g : G}   (p1 : Int32) (p2 : Int32) (M : Mem) : V g uX11_of 4 rvI (rmP M) 0 [.ref (ga g 0), .int p1, .int p2, .null] [] M (fX11_of p1 p2 M) := by
  unfold fX11_of
  refine r_aload_n dX11_of_0 rfl rfl ?_
  refine r_getR (k' := 1) dX11_of_1 fl_X11_12 kdc_0 rfl ?_
  refine r_getR (k' := 2) dX11_of_4 fl_X11_61 kdc_1 rfl ?_
  refine r_astore_n (l' := [.ref (ga g 0), .int p1, .int p2, .ref (ga g 2)]) dX11_of_7 rfl (Nat.le_of_ble_eq_true rfl) rfl rfl ?_
  refine r_aload_n dX11_of_8 rfl rfl ?_
  refine r_iload_n dX11_of_9 rfl rfl ?_
  refine r_calliT (cl_V [.int p1] bX9_hasPerson (by decide) dX11_of_10 ml_X11_93 kdc_2 rfl (Nat.le_of_ble_eq_true rfl) rfl) (kX9_hasPerson kdc_2 _ _) ?_
  refine r_if_ne dX11_of_13 (fun h => eF h ?_) (fun h => eT h ?_)
  · refine r_iload_n dX11_of_18 rfl rfl ?_
    refine r_tsw (n := 5) (tg := [52, 59, 66, 73, 79]) (td := 88) dX11_of_19 rfl (by decide) (by decide) (by decide) (by decide) (by decide +kernel) (by decide) (lt_s (lt_s (lt_s (lt_s (lt_s (lt_0) ?_) ?_) ?_) ?_) ?_) ?_
    · refine r_aload_n dX11_of_52 rfl rfl ?_
      refine r_getR (k' := 3) dX11_of_53 fl_X11_97 kdc_2 rfl ?_
      refine r_iload_n dX11_of_56 rfl rfl ?_
      refine r_iald dX11_of_57 kdc_3 (fun v1 => ?_)
      exact vRet rfl rfl rfl dX11_of_58
    · refine r_aload_n dX11_of_59 rfl rfl ?_
      refine r_getR (k' := 4) dX11_of_60 fl_X11_194 kdc_2 rfl ?_
      refine r_iload_n dX11_of_63 rfl rfl ?_
      refine r_iald dX11_of_64 kdc_4 (fun v2 => ?_)
      exact vRet rfl rfl rfl dX11_of_65
    · refine r_aload_n dX11_of_66 rfl rfl ?_
      refine r_getR (k' := 5) dX11_of_67 fl_X11_140 kdc_2 rfl ?_
      refine r_iload_n dX11_of_70 rfl rfl ?_
      refine r_iald dX11_of_71 kdc_5 (fun v3 => ?_)
      exact vRet rfl rfl rfl dX11_of_72
    · refine r_aload_n dX11_of_73 rfl rfl ?_
      refine r_iload_n dX11_of_74 rfl rfl ?_
      refine r_calli (cl_V [.int p1] bX9_bargainsOf (by decide) dX11_of_75 ml_X11_197 kdc_2 rfl (Nat.le_of_ble_eq_true rfl) rfl) (kX9_bargainsOf _ _) (fun v4 _ => ?_)
      exact vRet rfl rfl rfl dX11_of_78
    · refine r_aload_n dX11_of_79 rfl rfl ?_
      refine r_getR (k' := 1) dX11_of_80 fl_X11_12 kdc_0 rfl ?_
      refine r_iload_n dX11_of_83 rfl rfl ?_
      refine r_calli (cl_V [.int p1] bX0_heardBy (by decide) dX11_of_84 ml_X11_201 kdc_1 rfl (Nat.le_of_ble_eq_true rfl) rfl) (kX0_heardBy _ _) (fun v5 _ => ?_)
      exact vRet rfl rfl rfl dX11_of_87
    · refine r_iconst ic_m1 dX11_of_88 ?_
      exact vRet rfl rfl rfl dX11_of_89
  · refine r_iconst ic_m1 dX11_of_16 ?_
    exact vRet rfl rfl rfl dX11_of_17
theorem kX11_of {g : G}   (p1 : Int32) (p2 : Int32) (M : Mem) : CtrI g uX11_of 4 (fun r => r) (rmP M) [.ref (ga g 0), .int p1, .int p2] M (fX11_of p1 p2 M) := CtrI.of mX11_of rfl (Nat.le_of_ble_eq_true rfl) rfl (vX11_of p1 p2 M)
set_option maxHeartbeats 4000000 in
set_option maxRecDepth 100000 in
theorem vX12_bargainsOf_L4 {g : G}   (z1 : Int32)  (M : Mem)   : ∀ (n : Nat) (y2 : Int32) (y3 : Int32), V g uX12_bargainsOf 1 rvI (rmP M) 4 [.ref (ga g 198), .int z1, .int y2, .int y3] [] M (fX12_bargainsOf_L4 z1 M n y2 y3) := by
  intro n
  induction n with
  | zero => intro y2 y3; exact vNone
  | succ n ih =>
    intro y2 y3
    rw [fX12_bargainsOf_L4]
    refine r_iload_n dX12_bargainsOf_4 rfl rfl ?_
    refine r_aload_n dX12_bargainsOf_5 rfl rfl ?_
    refine r_getI dX12_bargainsOf_6 fl_X12_137 kdc_198 ?_
    refine r_icmp_ge dX12_bargainsOf_9 (fun h => eT h ?_) (fun h => eF h ?_)
    · refine r_iload_n dX12_bargainsOf_44 rfl rfl ?_
      exact vRet rfl rfl rfl dX12_bargainsOf_45
    · refine r_aload_n dX12_bargainsOf_12 rfl rfl ?_
      refine r_getR (k' := 202) dX12_bargainsOf_13 fl_X12_19 kdc_198 rfl ?_
      refine r_iload_n dX12_bargainsOf_16 rfl rfl ?_
      refine r_iald dX12_bargainsOf_17 kdc_202 (fun v1 => ?_)
      refine r_iload_n dX12_bargainsOf_18 rfl rfl ?_
      refine eJ (fun (J2 : (Int32) → Option (Int32)) => ∀ (a3 : Int32), V g uX12_bargainsOf 1 rvI (rmP M) 38 [.ref (ga g 198), .int z1, .int a3, .int y3] [] M (J2 a3)) (fun a3 => ?_) (fun J2 hJ2 => ?_)
      · refine r_iinc (l' := [.ref (ga g 198), .int z1, .int a3, .int (y3 + 1)]) dX12_bargainsOf_38 rfl (inc_1 _) (Nat.le_of_ble_eq_true rfl) rfl rfl ?_
        refine r_goto dX12_bargainsOf_41 ?_
        exact ih _ _
      · refine eJ (fun (J4 : Option (Int32)) => V g uX12_bargainsOf 1 rvI (rmP M) 32 [.ref (ga g 198), .int z1, .int y2, .int y3] [] M (J4)) ( ?_) (fun J4 hJ4 => ?_)
        · refine r_iload_n dX12_bargainsOf_32 rfl rfl ?_
          refine r_iconst ic_1 dX12_bargainsOf_33 ?_
          refine r_iload_n dX12_bargainsOf_34 rfl rfl ?_
          refine r_ishl dX12_bargainsOf_35 ?_
          refine r_ior dX12_bargainsOf_36 ?_
          refine r_bndi (fun x5 => ?_)
          refine r_istore_n (l' := [.ref (ga g 198), .int z1, .int x5, .int y3]) dX12_bargainsOf_37 rfl (Nat.le_of_ble_eq_true rfl) rfl rfl ?_
          exact hJ2 _
        · refine r_icmp_eq dX12_bargainsOf_19 (fun h => eT h ?_) (fun h => eF h ?_)
          · exact hJ4
          · refine r_aload_n dX12_bargainsOf_22 rfl rfl ?_
            refine r_getR (k' := 203) dX12_bargainsOf_23 fl_X12_22 kdc_198 rfl ?_
            refine r_iload_n dX12_bargainsOf_26 rfl rfl ?_
            refine r_iald dX12_bargainsOf_27 kdc_203 (fun v6 => ?_)
            refine r_iload_n dX12_bargainsOf_28 rfl rfl ?_
            refine r_icmp_ne dX12_bargainsOf_29 (fun h => eF h ?_) (fun h => eT h ?_)
            · exact hJ2 _
            · exact hJ4
set_option maxHeartbeats 4000000 in
set_option maxRecDepth 100000 in
theorem vX12_bargainsOf {g : G}   (p1 : Int32) (M : Mem) : V g uX12_bargainsOf 1 rvI (rmP M) 0 [.ref (ga g 198), .int p1, .null, .null] [] M (fX12_bargainsOf p1 M) := by
  unfold fX12_bargainsOf
  refine r_iconst ic_0 dX12_bargainsOf_0 ?_
  refine r_istore_n (l' := [.ref (ga g 198), .int p1, .int 0, .null]) dX12_bargainsOf_1 rfl (Nat.le_of_ble_eq_true rfl) rfl rfl ?_
  refine r_iconst ic_0 dX12_bargainsOf_2 ?_
  refine r_istore_n (l' := [.ref (ga g 198), .int p1, .int 0, .int 0]) dX12_bargainsOf_3 rfl (Nat.le_of_ble_eq_true rfl) rfl rfl ?_
  refine vX12_bargainsOf_L4 _ _ FU _ _
theorem kX12_bargainsOf {g : G}   (p1 : Int32) (M : Mem) : CtrI g uX12_bargainsOf 1 (fun r => r) (rmP M) [.ref (ga g 198), .int p1] M (fX12_bargainsOf p1 M) := CtrI.of mX12_bargainsOf rfl (Nat.le_of_ble_eq_true rfl) rfl (vX12_bargainsOf p1 M)
set_option maxHeartbeats 4000000 in
set_option maxRecDepth 100000 in
theorem vX12_of_L62 {g : G}   (z1 : Int32)  (M : Mem)   : ∀ (n : Nat) (y3 : Int32) (y4 : Int32), V g uX12_of 2 rvW rmW 62 [.ref (ga g 198), .int z1, .null, .int y3, .int y4] [] M (fX12_of_L62 z1 M n y3 y4) := by
  intro n
  induction n with
  | zero => intro y3 y4; exact vNone
  | succ n ih =>
    intro y3 y4
    rw [fX12_of_L62]
    refine r_iload dX12_of_62 rfl ?_
    refine r_aload_n dX12_of_64 rfl rfl ?_
    refine r_getI dX12_of_65 fl_X12_137 kdc_198 ?_
    refine r_icmp_ge dX12_of_68 (fun h => eT h ?_) (fun h => eF h ?_)
    · refine r_iload_n dX12_of_99 rfl rfl ?_
      exact vRet rfl rfl rfl dX12_of_100
    · refine r_aload_n dX12_of_71 rfl rfl ?_
      refine r_aload_n dX12_of_72 rfl rfl ?_
      refine r_getR (k' := 218) dX12_of_73 fl_X12_71 kdc_198 rfl ?_
      refine r_iload dX12_of_76 rfl ?_
      refine r_iald dX12_of_78 kdc_218 (fun v2 => ?_)
      refine r_iload_n dX12_of_79 rfl rfl ?_
      refine r_calliT (cl_V [.int v2, .int z1] bX12_has (by decide) dX12_of_80 ml_X12_330 kdc_198 rfl (Nat.le_of_ble_eq_true rfl) rfl) (kX12_has _ _ _) ?_
      refine eJ (fun (J3 : (Int32) → Option (Int32 × Mem)) => ∀ (a4 : Int32), V g uX12_of 2 rvW rmW 93 [.ref (ga g 198), .int z1, .null, .int a4, .int y4] [] M (J3 a4)) (fun a4 => ?_) (fun J3 hJ3 => ?_)
      · refine r_iinc (l' := [.ref (ga g 198), .int z1, .null, .int a4, .int (y4 + 1)]) dX12_of_93 rfl (inc_1 _) (Nat.le_of_ble_eq_true rfl) rfl rfl ?_
        refine r_goto dX12_of_96 ?_
        exact ih _ _
      · refine r_if_eq dX12_of_83 (fun h => eT h ?_) (fun h => eF h ?_)
        · exact hJ3 _
        · refine r_iload_n dX12_of_86 rfl rfl ?_
          refine r_iconst ic_1 dX12_of_87 ?_
          refine r_iload dX12_of_88 rfl ?_
          refine r_ishl dX12_of_90 ?_
          refine r_ior dX12_of_91 ?_
          refine r_bndi (fun x5 => ?_)
          refine r_istore_n (l' := [.ref (ga g 198), .int z1, .null, .int x5, .int y4]) dX12_of_92 rfl (Nat.le_of_ble_eq_true rfl) rfl rfl ?_
          exact hJ3 _
set_option maxHeartbeats 4000000 in
set_option maxRecDepth 100000 in
theorem vX12_of {g : G}   (p1 : Int32) (p2 : Int32) (M : Mem) : V g uX12_of 2 rvW rmW 0 [.ref (ga g 198), .int p1, .int p2, .null, .null] [] M (fX12_of p1 p2 M) := by
  unfold fX12_of
  refine r_aload_n dX12_of_0 rfl rfl ?_
  refine r_iconst ic_0 dX12_of_1 ?_
  refine r_put dX12_of_2 fw_X12_122 kdc_198 (fun M1 => ?_)
  refine r_aload_n dX12_of_5 rfl rfl ?_
  refine r_iload_n dX12_of_6 rfl rfl ?_
  refine r_calliT (cl_V [.int p1] bX12_isPerson (by decide) dX12_of_7 ml_X12_144 kdc_198 rfl (Nat.le_of_ble_eq_true rfl) rfl) (kX12_isPerson _ _) ?_
  refine r_if_ne dX12_of_10 (fun h => eF h ?_) (fun h => eT h ?_)
  · refine r_aload_n dX12_of_15 rfl rfl ?_
    refine r_iload_n dX12_of_16 rfl rfl ?_
    refine r_iconst ic_0 dX12_of_17 ?_
    refine r_iconst ic_2 dX12_of_18 ?_
    refine r_calliT (cl_V [.int p2, .int 0, .int 2] bX12_isIn (by decide) dX12_of_19 ml_X12_140 kdc_198 rfl (Nat.le_of_ble_eq_true rfl) rfl) (kX12_isIn _ _ _ _) ?_
    refine r_if_eq dX12_of_22 (fun h => eT h ?_) (fun h => eF h ?_)
    · refine r_iload_n dX12_of_39 rfl rfl ?_
      refine r_iconst ic_3 dX12_of_40 ?_
      refine r_icmp_ne dX12_of_41 (fun h => eF h ?_) (fun h => eT h ?_)
      · refine r_iload_n dX12_of_50 rfl rfl ?_
        refine r_iconst ic_4 dX12_of_51 ?_
        refine r_icmp_eq dX12_of_52 (fun h => eT h ?_) (fun h => eF h ?_)
        · refine r_iconst ic_0 dX12_of_57 ?_
          refine r_istore_n (l' := [.ref (ga g 198), .int p1, .int p2, .int 0, .null]) dX12_of_58 rfl (Nat.le_of_ble_eq_true rfl) rfl rfl ?_
          refine r_iconst ic_0 dX12_of_59 ?_
          refine r_istore (l' := [.ref (ga g 198), .int p1, .int p2, .int 0, .int 0]) dX12_of_60 (Nat.le_of_ble_eq_true rfl) rfl rfl ?_
          refine vSub (l' := [.ref (ga g 198), .int p1, .null, .int 0, .int 0]) ⟨Or.inr rfl, ⟨Or.inr rfl, ⟨Or.inl rfl, ⟨Or.inr rfl, ⟨Or.inr rfl, trivial⟩⟩⟩⟩⟩ ?_
          refine vX12_of_L62 _ _ FU _ _
        · refine r_iconst ic_m1 dX12_of_55 ?_
          exact vRet rfl rfl rfl dX12_of_56
      · refine r_aload_n dX12_of_44 rfl rfl ?_
        refine r_iload_n dX12_of_45 rfl rfl ?_
        refine r_calli (cl_V [.int p1] bX12_bargainsOf (by decide) dX12_of_46 ml_X12_379 kdc_198 rfl (Nat.le_of_ble_eq_true rfl) rfl) (kX12_bargainsOf _ _) (fun v6 _ => ?_)
        exact vRet rfl rfl rfl dX12_of_49
    · refine r_aload_n dX12_of_25 rfl rfl ?_
      refine r_getR (k' := 199) dX12_of_26 fl_X12_7 kdc_198 rfl ?_
      refine r_iconst ic_5 dX12_of_29 ?_
      refine r_bipush bp_12 dX12_of_30 ?_
      refine r_iload_n dX12_of_32 rfl rfl ?_
      refine r_imul dX12_of_33 ?_
      refine r_iadd dX12_of_34 ?_
      refine r_iload_n dX12_of_35 rfl rfl ?_
      refine r_iadd dX12_of_36 ?_
      refine r_iald dX12_of_37 kdc_199 (fun v7 => ?_)
      exact vRet rfl rfl rfl dX12_of_38
  · refine r_iconst ic_m1 dX12_of_13 ?_
    exact vRet rfl rfl rfl dX12_of_14
theorem kX12_of {g : G}   (p1 : Int32) (p2 : Int32) (M : Mem) : CtrI g uX12_of 2 (fun r => r.1) rmW [.ref (ga g 198), .int p1, .int p2] M (fX12_of p1 p2 M) := CtrI.of mX12_of rfl (Nat.le_of_ble_eq_true rfl) rfl (vX12_of p1 p2 M)
set_option maxHeartbeats 4000000 in
set_option maxRecDepth 100000 in
theorem vX11_phraseTold {g : G}   (p1 : Int32) (p2 : Int32) (M : Mem) : V g uX11_phraseTold 5 rvW rmW 0 [.ref (ga g 0), .int p1, .int p2, .null, .null, .null] [] M (fX11_phraseTold p1 p2 M) := by
  unfold fX11_phraseTold
  refine r_aload_n dX11_phraseTold_0 rfl rfl ?_
  refine r_getR (k' := 1) dX11_phraseTold_1 fl_X11_12 kdc_0 rfl ?_
  refine r_getR (k' := 2) dX11_phraseTold_4 fl_X11_61 kdc_1 rfl ?_
  refine r_astore_n (l' := [.ref (ga g 0), .int p1, .int p2, .ref (ga g 2), .null, .null]) dX11_phraseTold_7 rfl (Nat.le_of_ble_eq_true rfl) rfl rfl ?_
  refine r_aload_n dX11_phraseTold_8 rfl rfl ?_
  refine r_iload_n dX11_phraseTold_9 rfl rfl ?_
  refine r_calliT (cl_V [.int p1] bX9_hasBargain (by decide) dX11_phraseTold_10 ml_X11_204 kdc_2 rfl (Nat.le_of_ble_eq_true rfl) rfl) (kX9_hasBargain kdc_2 _ _) ?_
  refine r_if_eq dX11_phraseTold_13 (fun h => eT h ?_) (fun h => eF h ?_)
  · refine r_iconst ic_m1 dX11_phraseTold_27 ?_
    exact vRet rfl rfl rfl dX11_phraseTold_28
  · refine r_iload_n dX11_phraseTold_16 rfl rfl ?_
    refine r_bipush bp_10 dX11_phraseTold_17 ?_
    refine r_bipush bp_49 dX11_phraseTold_19 ?_
    refine r_calliT (cl_S [.int p2, .int 10, .int 49] bX11_isWithin (by decide) dX11_phraseTold_21 ml_X11_71 rfl (Nat.le_of_ble_eq_true rfl) rfl) (kX11_isWithin _ _ _ _) ?_
    refine r_if_ne dX11_phraseTold_24 (fun h => eF h ?_) (fun h => eT h ?_)
    · refine r_iload_n dX11_phraseTold_29 rfl rfl ?_
      refine r_bipush bp_10 dX11_phraseTold_30 ?_
      refine r_idiv dX11_phraseTold_32 (by decide) ?_
      refine r_iconst ic_1 dX11_phraseTold_33 ?_
      refine r_isub dX11_phraseTold_34 ?_
      refine r_bndi (fun x1 => ?_)
      refine r_istore (l' := [.ref (ga g 0), .int p1, .int p2, .ref (ga g 2), .int x1, .null]) dX11_phraseTold_35 (Nat.le_of_ble_eq_true rfl) rfl rfl ?_
      refine r_iload_n dX11_phraseTold_37 rfl rfl ?_
      refine r_bipush bp_10 dX11_phraseTold_38 ?_
      refine r_irem dX11_phraseTold_40 (by decide) ?_
      refine r_bndi (fun x2 => ?_)
      refine r_istore (l' := [.ref (ga g 0), .int p1, .int p2, .ref (ga g 2), .int x1, .int x2]) dX11_phraseTold_41 (Nat.le_of_ble_eq_true rfl) rfl rfl ?_
      refine r_iload dX11_phraseTold_43 rfl ?_
      refine r_iconst ic_1 dX11_phraseTold_45 ?_
      refine r_aload_n dX11_phraseTold_46 rfl rfl ?_
      refine r_getR (k' := 8) dX11_phraseTold_47 fl_X11_213 kdc_2 rfl ?_
      refine r_iload_n dX11_phraseTold_50 rfl rfl ?_
      refine r_iald dX11_phraseTold_51 kdc_8 (fun v3 => ?_)
      refine r_calliT (cl_S [.int x2, .int 1, .int v3] bX11_isWithin (by decide) dX11_phraseTold_52 ml_X11_71 rfl (Nat.le_of_ble_eq_true rfl) rfl) (kX11_isWithin _ _ _ _) ?_
      refine r_if_ne dX11_phraseTold_55 (fun h => eF h ?_) (fun h => eT h ?_)
      · refine r_aload_n dX11_phraseTold_60 rfl rfl ?_
        refine r_getR (k' := 1) dX11_phraseTold_61 fl_X11_12 kdc_0 rfl ?_
        refine r_iload dX11_phraseTold_64 rfl ?_
        refine r_iconst ic_2 dX11_phraseTold_66 ?_
        refine eJ (fun (J4 : (Int32) → Option (Int32 × Mem)) => ∀ (t5 : Int32), V g uX11_phraseTold 5 rvW rmW 75 [.null, .int p1, .null, .ref (ga g 2), .int x1, .int x2] [.int t5, .ref (ga g 1)] M (J4 t5)) (fun t5 => ?_) (fun J4 hJ4 => ?_)
        · refine r_aload_n dX11_phraseTold_75 rfl rfl ?_
          refine r_iload_n dX11_phraseTold_76 rfl rfl ?_
          refine r_iload dX11_phraseTold_77 rfl ?_
          refine r_iconst ic_2 dX11_phraseTold_79 ?_
          refine r_irem dX11_phraseTold_80 (by decide) ?_
          refine r_iload dX11_phraseTold_81 rfl ?_
          refine r_calli (cl_V [.int t5, .ref (ga g 2), .int p1, .int (jrem x1 2), .int x2] bX0_asked (by decide) dX11_phraseTold_83 ml_X11_222 kdc_1 rfl (Nat.le_of_ble_eq_true rfl) rfl) (kX0_asked kdc_2 _ _ _ _ _) (fun r6 _ => ?_)
          exact vRet rfl rfl rfl dX11_phraseTold_86
        · refine r_icmp_ge dX11_phraseTold_67 (fun h => eT h ?_) (fun h => eF h ?_)
          · refine r_iconst ic_2 dX11_phraseTold_74 ?_
            exact vSub (l' := [.null, .int p1, .null, .ref (ga g 2), .int x1, .int x2]) ⟨Or.inl rfl, ⟨Or.inr rfl, ⟨Or.inl rfl, ⟨Or.inr rfl, ⟨Or.inr rfl, ⟨Or.inr rfl, trivial⟩⟩⟩⟩⟩⟩ (hJ4 _)
          · refine r_iconst ic_0 dX11_phraseTold_70 ?_
            refine r_goto dX11_phraseTold_71 ?_
            exact vSub (l' := [.null, .int p1, .null, .ref (ga g 2), .int x1, .int x2]) ⟨Or.inl rfl, ⟨Or.inr rfl, ⟨Or.inl rfl, ⟨Or.inr rfl, ⟨Or.inr rfl, ⟨Or.inr rfl, trivial⟩⟩⟩⟩⟩⟩ (hJ4 _)
      · refine r_iconst ic_m1 dX11_phraseTold_58 ?_
        exact vRet rfl rfl rfl dX11_phraseTold_59
    · refine r_iconst ic_m1 dX11_phraseTold_27 ?_
      exact vRet rfl rfl rfl dX11_phraseTold_28
theorem kX11_phraseTold {g : G}   (p1 : Int32) (p2 : Int32) (M : Mem) : CtrI g uX11_phraseTold 5 (fun r => r.1) rmW [.ref (ga g 0), .int p1, .int p2] M (fX11_phraseTold p1 p2 M) := CtrI.of mX11_phraseTold rfl (Nat.le_of_ble_eq_true rfl) rfl (vX11_phraseTold p1 p2 M)
set_option maxHeartbeats 4000000 in
set_option maxRecDepth 100000 in
theorem vX11_deal {g : G}   (p1 : Int32) (p2 : Int32) (M : Mem) : V g uX11_deal 6 rvW rmW 0 [.ref (ga g 0), .int p1, .int p2, .null] [] M (fX11_deal p1 p2 M) := by
  unfold fX11_deal
  refine r_aload_n dX11_deal_0 rfl rfl ?_
  refine r_getR (k' := 1) dX11_deal_1 fl_X11_12 kdc_0 rfl ?_
  refine r_getR (k' := 2) dX11_deal_4 fl_X11_61 kdc_1 rfl ?_
  refine r_astore_n (l' := [.ref (ga g 0), .int p1, .int p2, .ref (ga g 2)]) dX11_deal_7 rfl (Nat.le_of_ble_eq_true rfl) rfl rfl ?_
  refine r_aload_n dX11_deal_8 rfl rfl ?_
  refine r_iload_n dX11_deal_9 rfl rfl ?_
  refine r_calliT (cl_V [.int p1] bX9_hasBargain (by decide) dX11_deal_10 ml_X11_204 kdc_2 rfl (Nat.le_of_ble_eq_true rfl) rfl) (kX9_hasBargain kdc_2 _ _) ?_
  refine r_if_ne dX11_deal_13 (fun h => eF h ?_) (fun h => eT h ?_)
  · refine r_iload_n dX11_deal_18 rfl rfl ?_
    refine r_tsw (n := 9) (tg := [68, 75, 82, 89, 96, 111, 126, 133, 146]) (td := 158) dX11_deal_19 rfl (by decide) (by decide) (by decide) (by decide) (by decide +kernel) (by decide) (lt_s (lt_s (lt_s (lt_s (lt_s (lt_s (lt_s (lt_s (lt_s (lt_0) ?_) ?_) ?_) ?_) ?_) ?_) ?_) ?_) ?_) ?_
    · refine r_aload_n dX11_deal_68 rfl rfl ?_
      refine r_getR (k' := 6) dX11_deal_69 fl_X11_207 kdc_2 rfl ?_
      refine r_iload_n dX11_deal_72 rfl rfl ?_
      refine r_iald dX11_deal_73 kdc_6 (fun v1 => ?_)
      exact vRet rfl rfl rfl dX11_deal_74
    · refine r_aload_n dX11_deal_75 rfl rfl ?_
      refine r_getR (k' := 7) dX11_deal_76 fl_X11_210 kdc_2 rfl ?_
      refine r_iload_n dX11_deal_79 rfl rfl ?_
      refine r_iald dX11_deal_80 kdc_7 (fun v2 => ?_)
      exact vRet rfl rfl rfl dX11_deal_81
    · refine r_aload_n dX11_deal_82 rfl rfl ?_
      refine r_getR (k' := 8) dX11_deal_83 fl_X11_213 kdc_2 rfl ?_
      refine r_iload_n dX11_deal_86 rfl rfl ?_
      refine r_iald dX11_deal_87 kdc_8 (fun v3 => ?_)
      exact vRet rfl rfl rfl dX11_deal_88
    · refine r_aload_n dX11_deal_89 rfl rfl ?_
      refine r_getR (k' := 9) dX11_deal_90 fl_X11_104 kdc_2 rfl ?_
      refine r_iload_n dX11_deal_93 rfl rfl ?_
      refine r_iald dX11_deal_94 kdc_9 (fun v4 => ?_)
      exact vRet rfl rfl rfl dX11_deal_95
    · refine r_aload_n dX11_deal_96 rfl rfl ?_
      refine r_iload_n dX11_deal_97 rfl rfl ?_
      refine r_iconst ic_0 dX11_deal_98 ?_
      refine r_calli (cl_V [.int p1, .int 0] bX9_hasSaid (by decide) dX11_deal_99 ml_X11_216 kdc_2 rfl (Nat.le_of_ble_eq_true rfl) rfl) (kX9_hasSaid kdc_2 _ _ _) (fun v5 _ => ?_)
      refine r_if_eq dX11_deal_102 (fun h => eT h ?_) (fun h => eF h ?_)
      · refine r_iconst ic_0 dX11_deal_109 ?_
        exact vRet rfl rfl rfl dX11_deal_110
      · refine r_iconst ic_1 dX11_deal_105 ?_
        refine r_goto dX11_deal_106 ?_
        exact vRet rfl rfl rfl dX11_deal_110
    · refine r_aload_n dX11_deal_111 rfl rfl ?_
      refine r_iload_n dX11_deal_112 rfl rfl ?_
      refine r_iconst ic_1 dX11_deal_113 ?_
      refine r_calli (cl_V [.int p1, .int 1] bX9_hasSaid (by decide) dX11_deal_114 ml_X11_216 kdc_2 rfl (Nat.le_of_ble_eq_true rfl) rfl) (kX9_hasSaid kdc_2 _ _ _) (fun v6 _ => ?_)
      refine r_if_eq dX11_deal_117 (fun h => eT h ?_) (fun h => eF h ?_)
      · refine r_iconst ic_0 dX11_deal_124 ?_
        exact vRet rfl rfl rfl dX11_deal_125
      · refine r_iconst ic_1 dX11_deal_120 ?_
        refine r_goto dX11_deal_121 ?_
        exact vRet rfl rfl rfl dX11_deal_125
    · refine r_aload_n dX11_deal_126 rfl rfl ?_
      refine r_getR (k' := 11) dX11_deal_127 fl_X11_219 kdc_2 rfl ?_
      refine r_iload_n dX11_deal_130 rfl rfl ?_
      refine r_iald dX11_deal_131 kdc_11 (fun v7 => ?_)
      exact vRet rfl rfl rfl dX11_deal_132
    · refine r_aload_n dX11_deal_133 rfl rfl ?_
      refine r_getR (k' := 1) dX11_deal_134 fl_X11_12 kdc_0 rfl ?_
      refine r_iconst ic_1 dX11_deal_137 ?_
      refine r_aload_n dX11_deal_138 rfl rfl ?_
      refine r_iload_n dX11_deal_139 rfl rfl ?_
      refine r_iconst ic_m1 dX11_deal_140 ?_
      refine r_iconst ic_0 dX11_deal_141 ?_
      refine r_calli (cl_V [.int 1, .ref (ga g 2), .int p1, .int (-1), .int 0] bX0_asked (by decide) dX11_deal_142 ml_X11_222 kdc_1 rfl (Nat.le_of_ble_eq_true rfl) rfl) (kX0_asked kdc_2 _ _ _ _ _) (fun r8 _ => ?_)
      exact vRet rfl rfl rfl dX11_deal_145
    · refine r_aload_n dX11_deal_146 rfl rfl ?_
      refine r_getR (k' := 1) dX11_deal_147 fl_X11_12 kdc_0 rfl ?_
      refine r_iload_n dX11_deal_150 rfl rfl ?_
      refine r_calli (cl_V [.int p1] bX0_hearersOf (by decide) dX11_deal_151 ml_X11_226 kdc_1 rfl (Nat.le_of_ble_eq_true rfl) rfl) (kX0_hearersOf _ _) (fun v9 _ => ?_)
      refine r_calliT (cl_S [.int v9] bJ6_bitCount_0f7a4 (by decide) dX11_deal_154 ml_X11_229 rfl (Nat.le_of_ble_eq_true rfl) rfl) (kJ6_bitCount_0f7a4 _ _) ?_
      exact vRet rfl rfl rfl dX11_deal_157
    · refine r_aload_n dX11_deal_158 rfl rfl ?_
      refine r_iload_n dX11_deal_159 rfl rfl ?_
      refine r_iload_n dX11_deal_160 rfl rfl ?_
      refine r_calli (cl_V [.int p1, .int p2] bX11_phraseTold (by decide) dX11_deal_161 ml_X11_234 kdc_0 rfl (Nat.le_of_ble_eq_true rfl) rfl) (kX11_phraseTold _ _ _) (fun r10 _ => ?_)
      exact vRet rfl rfl rfl dX11_deal_164
  · refine r_iconst ic_m1 dX11_deal_16 ?_
    exact vRet rfl rfl rfl dX11_deal_17
theorem kX11_deal {g : G}   (p1 : Int32) (p2 : Int32) (M : Mem) : CtrI g uX11_deal 6 (fun r => r.1) rmW [.ref (ga g 0), .int p1, .int p2] M (fX11_deal p1 p2 M) := CtrI.of mX11_deal rfl (Nat.le_of_ble_eq_true rfl) rfl (vX11_deal p1 p2 M)
set_option maxHeartbeats 4000000 in
set_option maxRecDepth 100000 in
theorem vX12_deal {g : G}   (p1 : Int32) (p2 : Int32) (M : Mem) : V g uX12_deal 6 rvW rmW 0 [.ref (ga g 198), .int p1, .int p2, .null, .null] [] M (fX12_deal p1 p2 M) := by
  unfold fX12_deal
  refine r_aload_n dX12_deal_0 rfl rfl ?_
  refine r_iconst ic_0 dX12_deal_1 ?_
  refine r_put dX12_deal_2 fw_X12_122 kdc_198 (fun M1 => ?_)
  refine r_aload_n dX12_deal_5 rfl rfl ?_
  refine r_iload_n dX12_deal_6 rfl rfl ?_
  refine r_calliT (cl_V [.int p1] bX12_isBargain (by decide) dX12_deal_7 ml_X12_148 kdc_198 rfl (Nat.le_of_ble_eq_true rfl) rfl) (kX12_isBargain _ _) ?_
  refine r_if_eq dX12_deal_10 (fun h => eT h ?_) (fun h => eF h ?_)
  · refine r_iconst ic_m1 dX12_deal_17 ?_
    exact vRet rfl rfl rfl dX12_deal_18
  · refine r_iload_n dX12_deal_13 rfl rfl ?_
    refine r_if_ge dX12_deal_14 (fun h => eT h ?_) (fun h => eF h ?_)
    · refine r_iload_n dX12_deal_19 rfl rfl ?_
      refine eJ (fun (J2 : Option (Int32 × Mem)) => V g uX12_deal 6 rvW rmW 28 [.ref (ga g 198), .int p1, .int p2, .null, .null] [] M1 (J2)) ( ?_) (fun J2 hJ2 => ?_)
      · refine r_aload_n dX12_deal_28 rfl rfl ?_
        refine r_iload_n dX12_deal_29 rfl rfl ?_
        refine r_iload_n dX12_deal_30 rfl rfl ?_
        refine r_calli (cl_V [.int p1, .int p2] bX12_hopperOf (by decide) dX12_deal_31 ml_X12_334 kdc_198 rfl (Nat.le_of_ble_eq_true rfl) rfl) (kX12_hopperOf _ _ _) (fun v3 _ => ?_)
        exact vRet rfl rfl rfl dX12_deal_34
      · refine r_if_eq dX12_deal_20 (fun h => eT h ?_) (fun h => eF h ?_)
        · exact hJ2
        · refine r_iload_n dX12_deal_23 rfl rfl ?_
          refine r_iconst ic_1 dX12_deal_24 ?_
          refine r_icmp_ne dX12_deal_25 (fun h => eF h ?_) (fun h => eT h ?_)
          · refine r_iload_n dX12_deal_35 rfl rfl ?_
            refine r_iconst ic_2 dX12_deal_36 ?_
            refine r_icmp_ne dX12_deal_37 (fun h => eF h ?_) (fun h => eT h ?_)
            · refine r_iload_n dX12_deal_47 rfl rfl ?_
              refine r_iconst ic_3 dX12_deal_48 ?_
              refine r_icmp_ne dX12_deal_49 (fun h => eF h ?_) (fun h => eT h ?_)
              · refine r_iload_n dX12_deal_62 rfl rfl ?_
                refine r_iconst ic_4 dX12_deal_63 ?_
                refine eJ (fun (J4 : Option (Int32 × Mem)) => V g uX12_deal 6 rvW rmW 72 [.ref (ga g 198), .int p1, .int p2, .null, .null] [] M1 (J4)) ( ?_) (fun J4 hJ4 => ?_)
                · refine r_aload_n dX12_deal_72 rfl rfl ?_
                  refine r_aload_n dX12_deal_73 rfl rfl ?_
                  refine r_getR (k' := 199) dX12_deal_74 fl_X12_7 kdc_198 rfl ?_
                  refine r_bipush bp_55 dX12_deal_77 ?_
                  refine r_iload_n dX12_deal_79 rfl rfl ?_
                  refine r_iadd dX12_deal_80 ?_
                  refine r_iald dX12_deal_81 kdc_199 (fun v5 => ?_)
                  refine r_iload_n dX12_deal_82 rfl rfl ?_
                  refine r_iconst ic_4 dX12_deal_83 ?_
                  refine r_isub dX12_deal_84 ?_
                  refine r_calliT (cl_V [.int v5, .int (p2 - 4)] bX12_has (by decide) dX12_deal_85 ml_X12_330 kdc_198 rfl (Nat.le_of_ble_eq_true rfl) rfl) (kX12_has _ _ _) ?_
                  refine r_if_eq dX12_deal_88 (fun h => eT h ?_) (fun h => eF h ?_)
                  · refine r_iconst ic_0 dX12_deal_95 ?_
                    exact vRet rfl rfl rfl dX12_deal_96
                  · refine r_iconst ic_1 dX12_deal_91 ?_
                    refine r_goto dX12_deal_92 ?_
                    exact vRet rfl rfl rfl dX12_deal_96
                · refine r_icmp_eq dX12_deal_64 (fun h => eT h ?_) (fun h => eF h ?_)
                  · exact hJ4
                  · refine r_iload_n dX12_deal_67 rfl rfl ?_
                    refine r_iconst ic_5 dX12_deal_68 ?_
                    refine r_icmp_ne dX12_deal_69 (fun h => eF h ?_) (fun h => eT h ?_)
                    · refine r_iload_n dX12_deal_97 rfl rfl ?_
                      refine r_bipush bp_6 dX12_deal_98 ?_
                      refine r_icmp_ne dX12_deal_100 (fun h => eF h ?_) (fun h => eT h ?_)
                      · refine r_iload_n dX12_deal_113 rfl rfl ?_
                        refine r_bipush bp_7 dX12_deal_114 ?_
                        refine r_icmp_ne dX12_deal_116 (fun h => eF h ?_) (fun h => eT h ?_)
                        · refine r_iload_n dX12_deal_125 rfl rfl ?_
                          refine r_bipush bp_8 dX12_deal_126 ?_
                          refine r_icmp_ne dX12_deal_128 (fun h => eF h ?_) (fun h => eT h ?_)
                          · refine r_iload_n dX12_deal_142 rfl rfl ?_
                            refine r_bipush bp_10 dX12_deal_143 ?_
                            refine r_irem dX12_deal_145 (by decide) ?_
                            refine r_bndi (fun x6 => ?_)
                            refine r_istore_n (l' := [.ref (ga g 198), .int p1, .int p2, .int x6, .null]) dX12_deal_146 rfl (Nat.le_of_ble_eq_true rfl) rfl rfl ?_
                            refine r_aload_n dX12_deal_147 rfl rfl ?_
                            refine r_iload_n dX12_deal_148 rfl rfl ?_
                            refine r_bipush bp_10 dX12_deal_149 ?_
                            refine r_bipush bp_49 dX12_deal_151 ?_
                            refine r_calliT (cl_V [.int p2, .int 10, .int 49] bX12_isIn (by decide) dX12_deal_153 ml_X12_140 kdc_198 rfl (Nat.le_of_ble_eq_true rfl) rfl) (kX12_isIn _ _ _ _) ?_
                            refine r_if_eq dX12_deal_156 (fun h => eT h ?_) (fun h => eF h ?_)
                            · refine r_iconst ic_m1 dX12_deal_174 ?_
                              exact vRet rfl rfl rfl dX12_deal_175
                            · refine r_aload_n dX12_deal_159 rfl rfl ?_
                              refine r_iload_n dX12_deal_160 rfl rfl ?_
                              refine r_iconst ic_1 dX12_deal_161 ?_
                              refine r_aload_n dX12_deal_162 rfl rfl ?_
                              refine r_getR (k' := 204) dX12_deal_163 fl_X12_25 kdc_198 rfl ?_
                              refine r_iload_n dX12_deal_166 rfl rfl ?_
                              refine r_iald dX12_deal_167 kdc_204 (fun v7 => ?_)
                              refine r_calliT (cl_V [.int x6, .int 1, .int v7] bX12_isIn (by decide) dX12_deal_168 ml_X12_140 kdc_198 rfl (Nat.le_of_ble_eq_true rfl) rfl) (kX12_isIn _ _ _ _) ?_
                              refine r_if_ne dX12_deal_171 (fun h => eF h ?_) (fun h => eT h ?_)
                              · refine r_aload_n dX12_deal_176 rfl rfl ?_
                                refine r_iload_n dX12_deal_177 rfl rfl ?_
                                refine r_iload_n dX12_deal_178 rfl rfl ?_
                                refine r_bipush bp_10 dX12_deal_179 ?_
                                refine r_idiv dX12_deal_181 (by decide) ?_
                                refine r_iconst ic_1 dX12_deal_182 ?_
                                refine r_iadd dX12_deal_183 ?_
                                refine r_iconst ic_2 dX12_deal_184 ?_
                                refine r_irem dX12_deal_185 (by decide) ?_
                                refine r_calli (cl_V [.int p1, .int (jrem ((p2 / 10) + 1) 2)] bX12_hopperOf (by decide) dX12_deal_186 ml_X12_334 kdc_198 rfl (Nat.le_of_ble_eq_true rfl) rfl) (kX12_hopperOf _ _ _) (fun v8 _ => ?_)
                                refine r_istore (l' := [.ref (ga g 198), .int p1, .int p2, .int x6, .int v8]) dX12_deal_189 (Nat.le_of_ble_eq_true rfl) rfl rfl ?_
                                refine r_iload_n dX12_deal_191 rfl rfl ?_
                                refine r_bipush bp_30 dX12_deal_192 ?_
                                refine r_icmp_ge dX12_deal_194 (fun h => eT h ?_) (fun h => eF h ?_)
                                · refine r_aload_n dX12_deal_208 rfl rfl ?_
                                  refine r_iload_n dX12_deal_209 rfl rfl ?_
                                  refine r_iload dX12_deal_210 rfl ?_
                                  refine r_iload_n dX12_deal_212 rfl rfl ?_
                                  refine r_calli (cl_V [.int p1, .int v8, .int x6] bX12_costsOn (by decide) dX12_deal_213 ml_X12_343 kdc_198 rfl (Nat.le_of_ble_eq_true rfl) rfl) (kX12_costsOn _ _ _ _) (fun r9 _ => ?_)
                                  exact vRet rfl rfl rfl dX12_deal_216
                                · refine r_aload_n dX12_deal_197 rfl rfl ?_
                                  refine r_iload_n dX12_deal_198 rfl rfl ?_
                                  refine r_iload dX12_deal_199 rfl ?_
                                  refine r_iload_n dX12_deal_201 rfl rfl ?_
                                  refine r_calli (cl_V [.int p1, .int v8, .int x6] bX12_landsOn (by decide) dX12_deal_202 ml_X12_337 kdc_198 rfl (Nat.le_of_ble_eq_true rfl) rfl) (kX12_landsOn _ _ _ _) (fun r10 _ => ?_)
                                  refine r_goto dX12_deal_205 ?_
                                  exact vRet rfl rfl rfl dX12_deal_216
                              · refine r_iconst ic_m1 dX12_deal_174 ?_
                                exact vRet rfl rfl rfl dX12_deal_175
                          · refine r_aload_n dX12_deal_131 rfl rfl ?_
                            refine r_aload_n dX12_deal_132 rfl rfl ?_
                            refine r_getR (k' := 218) dX12_deal_133 fl_X12_71 kdc_198 rfl ?_
                            refine r_iload_n dX12_deal_136 rfl rfl ?_
                            refine r_iald dX12_deal_137 kdc_218 (fun v11 => ?_)
                            refine r_calli (cl_V [.int v11] bX12_onesOf (by decide) dX12_deal_138 ml_X12_311 kdc_198 rfl (Nat.le_of_ble_eq_true rfl) rfl) (kX12_onesOf _ _) (fun v12 _ => ?_)
                            exact vRet rfl rfl rfl dX12_deal_141
                        · refine r_aload_n dX12_deal_119 rfl rfl ?_
                          refine r_iload_n dX12_deal_120 rfl rfl ?_
                          refine r_calli (cl_V [.int p1] bX12_wipesOf (by decide) dX12_deal_121 ml_X12_370 kdc_198 rfl (Nat.le_of_ble_eq_true rfl) rfl) (kX12_wipesOf _ _) (fun r13 _ => ?_)
                          exact vRet rfl rfl rfl dX12_deal_124
                      · refine r_aload_n dX12_deal_103 rfl rfl ?_
                        refine r_getR (k' := 199) dX12_deal_104 fl_X12_7 kdc_198 rfl ?_
                        refine r_bipush bp_69 dX12_deal_107 ?_
                        refine r_iload_n dX12_deal_109 rfl rfl ?_
                        refine r_iadd dX12_deal_110 ?_
                        refine r_iald dX12_deal_111 kdc_199 (fun v14 => ?_)
                        exact vRet rfl rfl rfl dX12_deal_112
                    · exact hJ4
              · refine r_aload_n dX12_deal_52 rfl rfl ?_
                refine r_getR (k' := 199) dX12_deal_53 fl_X12_7 kdc_198 rfl ?_
                refine r_bipush bp_41 dX12_deal_56 ?_
                refine r_iload_n dX12_deal_58 rfl rfl ?_
                refine r_iadd dX12_deal_59 ?_
                refine r_iald dX12_deal_60 kdc_199 (fun v15 => ?_)
                exact vRet rfl rfl rfl dX12_deal_61
            · refine r_aload_n dX12_deal_40 rfl rfl ?_
              refine r_getR (k' := 204) dX12_deal_41 fl_X12_25 kdc_198 rfl ?_
              refine r_iload_n dX12_deal_44 rfl rfl ?_
              refine r_iald dX12_deal_45 kdc_204 (fun v16 => ?_)
              exact vRet rfl rfl rfl dX12_deal_46
          · exact hJ2
    · refine r_iconst ic_m1 dX12_deal_17 ?_
      exact vRet rfl rfl rfl dX12_deal_18
theorem kX12_deal {g : G}   (p1 : Int32) (p2 : Int32) (M : Mem) : CtrI g uX12_deal 6 (fun r => r.1) rmW [.ref (ga g 198), .int p1, .int p2] M (fX12_deal p1 p2 M) := CtrI.of mX12_deal rfl (Nat.le_of_ble_eq_true rfl) rfl (vX12_deal p1 p2 M)
set_option maxHeartbeats 4000000 in
set_option maxRecDepth 100000 in
theorem vX11_book {g : G}   (p1 : Int32) (p2 : Int32) (M : Mem) : V g uX11_book 2 rvI (rmP M) 0 [.ref (ga g 0), .int p1, .int p2, .null] [] M (fX11_book p1 p2 M) := by
  unfold fX11_book
  refine r_aload_n dX11_book_0 rfl rfl ?_
  refine r_getR (k' := 1) dX11_book_1 fl_X11_12 kdc_0 rfl ?_
  refine r_getR (k' := 12) dX11_book_4 fl_X11_116 kdc_1 rfl ?_
  refine r_astore_n (l' := [.ref (ga g 0), .int p1, .int p2, .ref (ga g 12)]) dX11_book_7 rfl (Nat.le_of_ble_eq_true rfl) rfl rfl ?_
  refine r_iload_n dX11_book_8 rfl rfl ?_
  refine r_iconst ic_0 dX11_book_9 ?_
  refine r_aload_n dX11_book_10 rfl rfl ?_
  refine r_getI dX11_book_11 fl_X11_120 kdc_12 ?_
  refine r_iconst ic_1 dX11_book_14 ?_
  refine r_isub dX11_book_15 ?_
  refine r_calliT (cl_S [.int p1, .int 0, .int ((M 12 0) - 1)] bX11_isWithin (by decide) dX11_book_16 ml_X11_71 rfl (Nat.le_of_ble_eq_true rfl) rfl) (kX11_isWithin _ _ _ _) ?_
  refine r_if_ne dX11_book_19 (fun h => eF h ?_) (fun h => eT h ?_)
  · refine r_iload_n dX11_book_24 rfl rfl ?_
    refine r_tsw (n := 4) (tg := [56, 63, 70, 77]) (td := 84) dX11_book_25 rfl (by decide) (by decide) (by decide) (by decide) (by decide +kernel) (by decide) (lt_s (lt_s (lt_s (lt_s (lt_0) ?_) ?_) ?_) ?_) ?_
    · refine r_aload_n dX11_book_56 rfl rfl ?_
      refine r_getR (k' := 13) dX11_book_57 fl_X11_238 kdc_12 rfl ?_
      refine r_iload_n dX11_book_60 rfl rfl ?_
      refine r_iald dX11_book_61 kdc_13 (fun v1 => ?_)
      exact vRet rfl rfl rfl dX11_book_62
    · refine r_aload_n dX11_book_63 rfl rfl ?_
      refine r_getR (k' := 14) dX11_book_64 fl_X11_240 kdc_12 rfl ?_
      refine r_iload_n dX11_book_67 rfl rfl ?_
      refine r_iald dX11_book_68 kdc_14 (fun v2 => ?_)
      exact vRet rfl rfl rfl dX11_book_69
    · refine r_aload_n dX11_book_70 rfl rfl ?_
      refine r_getR (k' := 15) dX11_book_71 fl_X11_243 kdc_12 rfl ?_
      refine r_iload_n dX11_book_74 rfl rfl ?_
      refine r_iald dX11_book_75 kdc_15 (fun v3 => ?_)
      exact vRet rfl rfl rfl dX11_book_76
    · refine r_aload_n dX11_book_77 rfl rfl ?_
      refine r_getR (k' := 16) dX11_book_78 fl_X11_246 kdc_12 rfl ?_
      refine r_iload_n dX11_book_81 rfl rfl ?_
      refine r_iald dX11_book_82 kdc_16 (fun v4 => ?_)
      exact vRet rfl rfl rfl dX11_book_83
    · refine r_iconst ic_m1 dX11_book_84 ?_
      exact vRet rfl rfl rfl dX11_book_85
  · refine r_iconst ic_m1 dX11_book_22 ?_
    exact vRet rfl rfl rfl dX11_book_23
theorem kX11_book {g : G}   (p1 : Int32) (p2 : Int32) (M : Mem) : CtrI g uX11_book 2 (fun r => r) (rmP M) [.ref (ga g 0), .int p1, .int p2] M (fX11_book p1 p2 M) := CtrI.of mX11_book rfl (Nat.le_of_ble_eq_true rfl) rfl (vX11_book p1 p2 M)
set_option maxHeartbeats 4000000 in
set_option maxRecDepth 100000 in
theorem vX12_book {g : G}   (p1 : Int32) (p2 : Int32) (M : Mem) : V g uX12_book 2 rvW rmW 0 [.ref (ga g 198), .int p1, .int p2] [] M (fX12_book p1 p2 M) := by
  unfold fX12_book
  refine r_aload_n dX12_book_0 rfl rfl ?_
  refine r_iconst ic_0 dX12_book_1 ?_
  refine r_put dX12_book_2 fw_X12_122 kdc_198 (fun M1 => ?_)
  refine r_aload_n dX12_book_5 rfl rfl ?_
  refine r_iload_n dX12_book_6 rfl rfl ?_
  refine r_iconst ic_0 dX12_book_7 ?_
  refine r_aload_n dX12_book_8 rfl rfl ?_
  refine r_getR (k' := 199) dX12_book_9 fl_X12_7 kdc_198 rfl ?_
  refine r_iconst ic_2 dX12_book_12 ?_
  refine r_iald dX12_book_13 kdc_199 (fun v2 => ?_)
  refine r_iconst ic_1 dX12_book_14 ?_
  refine r_isub dX12_book_15 ?_
  refine r_calliT (cl_V [.int p1, .int 0, .int (v2 - 1)] bX12_isIn (by decide) dX12_book_16 ml_X12_140 kdc_198 rfl (Nat.le_of_ble_eq_true rfl) rfl) (kX12_isIn _ _ _ _) ?_
  refine r_if_eq dX12_book_19 (fun h => eT h ?_) (fun h => eF h ?_)
  · refine r_iconst ic_m1 dX12_book_45 ?_
    exact vRet rfl rfl rfl dX12_book_46
  · refine r_aload_n dX12_book_22 rfl rfl ?_
    refine r_iload_n dX12_book_23 rfl rfl ?_
    refine r_iconst ic_0 dX12_book_24 ?_
    refine r_iconst ic_3 dX12_book_25 ?_
    refine r_calliT (cl_V [.int p2, .int 0, .int 3] bX12_isIn (by decide) dX12_book_26 ml_X12_140 kdc_198 rfl (Nat.le_of_ble_eq_true rfl) rfl) (kX12_isIn _ _ _ _) ?_
    refine r_if_eq dX12_book_29 (fun h => eT h ?_) (fun h => eF h ?_)
    · refine r_iconst ic_m1 dX12_book_45 ?_
      exact vRet rfl rfl rfl dX12_book_46
    · refine r_aload_n dX12_book_32 rfl rfl ?_
      refine r_getR (k' := 205) dX12_book_33 fl_X12_28 kdc_198 rfl ?_
      refine r_iconst ic_4 dX12_book_36 ?_
      refine r_iload_n dX12_book_37 rfl rfl ?_
      refine r_imul dX12_book_38 ?_
      refine r_iload_n dX12_book_39 rfl rfl ?_
      refine r_iadd dX12_book_40 ?_
      refine r_iald dX12_book_41 kdc_205 (fun v3 => ?_)
      refine r_goto dX12_book_42 ?_
      exact vRet rfl rfl rfl dX12_book_46
theorem kX12_book {g : G}   (p1 : Int32) (p2 : Int32) (M : Mem) : CtrI g uX12_book 2 (fun r => r.1) rmW [.ref (ga g 198), .int p1, .int p2] M (fX12_book p1 p2 M) := CtrI.of mX12_book rfl (Nat.le_of_ble_eq_true rfl) rfl (vX12_book p1 p2 M)
set_option maxHeartbeats 4000000 in
set_option maxRecDepth 100000 in
theorem vX9_thoseThatAre_L4 {g : G} {k0 : Nat}  (z1 : Int32)  (M : Mem) (hk0 : kd k0 = (9, 15))  : ∀ (n : Nat) (y2 : Int32) (y3 : Int32), V g uX9_thoseThatAre 1 rvI (rmP M) 4 [.ref (ga g k0), .int z1, .int y2, .int y3] [] M (fX9_thoseThatAre_L4 k0 z1 M n y2 y3) := by
  intro n
  induction n with
  | zero => intro y2 y3; exact vNone
  | succ n ih =>
    intro y2 y3
    rw [fX9_thoseThatAre_L4]
    refine r_iload_n dX9_thoseThatAre_4 rfl rfl ?_
    refine r_aload_n dX9_thoseThatAre_5 rfl rfl ?_
    refine r_getI dX9_thoseThatAre_6 fl_X9_55 hk0 ?_
    refine r_icmp_ge dX9_thoseThatAre_9 (fun h => eT h ?_) (fun h => eF h ?_)
    · refine r_iload_n dX9_thoseThatAre_34 rfl rfl ?_
      exact vRet rfl rfl rfl dX9_thoseThatAre_35
    · refine r_aload_n dX9_thoseThatAre_12 rfl rfl ?_
      refine r_getR (k' := (k0 + 9)) dX9_thoseThatAre_13 fl_X9_36 hk0 rfl ?_
      refine r_iload_n dX9_thoseThatAre_16 rfl rfl ?_
      refine r_iald dX9_thoseThatAre_17 (kx_9_9 hk0) (fun v1 => ?_)
      refine r_iload_n dX9_thoseThatAre_18 rfl rfl ?_
      refine eJ (fun (J2 : (Int32) → Option (Int32)) => ∀ (a3 : Int32), V g uX9_thoseThatAre 1 rvI (rmP M) 28 [.ref (ga g k0), .int z1, .int a3, .int y3] [] M (J2 a3)) (fun a3 => ?_) (fun J2 hJ2 => ?_)
      · refine r_iinc (l' := [.ref (ga g k0), .int z1, .int a3, .int (y3 + 1)]) dX9_thoseThatAre_28 rfl (inc_1 _) (Nat.le_of_ble_eq_true rfl) rfl rfl ?_
        refine r_goto dX9_thoseThatAre_31 ?_
        exact ih _ _
      · refine r_icmp_ne dX9_thoseThatAre_19 (fun h => eF h ?_) (fun h => eT h ?_)
        · exact hJ2 _
        · refine r_iload_n dX9_thoseThatAre_22 rfl rfl ?_
          refine r_iconst ic_1 dX9_thoseThatAre_23 ?_
          refine r_iload_n dX9_thoseThatAre_24 rfl rfl ?_
          refine r_ishl dX9_thoseThatAre_25 ?_
          refine r_ior dX9_thoseThatAre_26 ?_
          refine r_bndi (fun x4 => ?_)
          refine r_istore_n (l' := [.ref (ga g k0), .int z1, .int x4, .int y3]) dX9_thoseThatAre_27 rfl (Nat.le_of_ble_eq_true rfl) rfl rfl ?_
          exact hJ2 _
set_option maxHeartbeats 4000000 in
set_option maxRecDepth 100000 in
theorem vX9_thoseThatAre {g : G} {k0 : Nat} (hk0 : kd k0 = (9, 15)) (p1 : Int32) (M : Mem) : V g uX9_thoseThatAre 1 rvI (rmP M) 0 [.ref (ga g k0), .int p1, .null, .null] [] M (fX9_thoseThatAre k0 p1 M) := by
  unfold fX9_thoseThatAre
  refine r_iconst ic_0 dX9_thoseThatAre_0 ?_
  refine r_istore_n (l' := [.ref (ga g k0), .int p1, .int 0, .null]) dX9_thoseThatAre_1 rfl (Nat.le_of_ble_eq_true rfl) rfl rfl ?_
  refine r_iconst ic_0 dX9_thoseThatAre_2 ?_
  refine r_istore_n (l' := [.ref (ga g k0), .int p1, .int 0, .int 0]) dX9_thoseThatAre_3 rfl (Nat.le_of_ble_eq_true rfl) rfl rfl ?_
  refine vX9_thoseThatAre_L4 _ _ hk0 FU _ _
theorem kX9_thoseThatAre {g : G} {k0 : Nat} (hk0 : kd k0 = (9, 15)) (p1 : Int32) (M : Mem) : CtrI g uX9_thoseThatAre 1 (fun r => r) (rmP M) [.ref (ga g k0), .int p1] M (fX9_thoseThatAre k0 p1 M) := CtrI.of mX9_thoseThatAre rfl (Nat.le_of_ble_eq_true rfl) rfl (vX9_thoseThatAre hk0 p1 M)
set_option maxHeartbeats 4000000 in
set_option maxRecDepth 100000 in
theorem vX9_owesOfAll_L4 {g : G}     (M : Mem)   : ∀ (n : Nat) (y1 : Int32) (y2 : Int32), V g uX9_owesOfAll 1 rvI (rmP M) 4 [.ref (ga g 168), .int y1, .int y2] [] M (fX9_owesOfAll_L4 M n y1 y2) := by
  intro n
  induction n with
  | zero => intro y1 y2; exact vNone
  | succ n ih =>
    intro y1 y2
    rw [fX9_owesOfAll_L4]
    refine r_iload_n dX9_owesOfAll_4 rfl rfl ?_
    refine r_aload_n dX9_owesOfAll_5 rfl rfl ?_
    refine r_getI dX9_owesOfAll_6 fl_X9_52 kdc_168 ?_
    refine r_icmp_ge dX9_owesOfAll_9 (fun h => eT h ?_) (fun h => eF h ?_)
    · refine r_iload_n dX9_owesOfAll_27 rfl rfl ?_
      exact vRet rfl rfl rfl dX9_owesOfAll_28
    · refine r_iload_n dX9_owesOfAll_12 rfl rfl ?_
      refine r_aload_n dX9_owesOfAll_13 rfl rfl ?_
      refine r_getR (k' := 171) dX9_owesOfAll_14 fl_X9_18 kdc_168 rfl ?_
      refine r_iload_n dX9_owesOfAll_17 rfl rfl ?_
      refine r_iald dX9_owesOfAll_18 kdc_171 (fun v1 => ?_)
      refine r_iadd dX9_owesOfAll_19 ?_
      refine r_bndi (fun x2 => ?_)
      refine r_istore_n (l' := [.ref (ga g 168), .int x2, .int y2]) dX9_owesOfAll_20 rfl (Nat.le_of_ble_eq_true rfl) rfl rfl ?_
      refine r_iinc (l' := [.ref (ga g 168), .int x2, .int (y2 + 1)]) dX9_owesOfAll_21 rfl (inc_1 _) (Nat.le_of_ble_eq_true rfl) rfl rfl ?_
      refine r_goto dX9_owesOfAll_24 ?_
      exact ih _ _
set_option maxHeartbeats 4000000 in
set_option maxRecDepth 100000 in
theorem vX9_owesOfAll {g : G}    (M : Mem) : V g uX9_owesOfAll 1 rvI (rmP M) 0 [.ref (ga g 168), .null, .null] [] M (fX9_owesOfAll M) := by
  unfold fX9_owesOfAll
  refine r_iconst ic_0 dX9_owesOfAll_0 ?_
  refine r_istore_n (l' := [.ref (ga g 168), .int 0, .null]) dX9_owesOfAll_1 rfl (Nat.le_of_ble_eq_true rfl) rfl rfl ?_
  refine r_iconst ic_0 dX9_owesOfAll_2 ?_
  refine r_istore_n (l' := [.ref (ga g 168), .int 0, .int 0]) dX9_owesOfAll_3 rfl (Nat.le_of_ble_eq_true rfl) rfl rfl ?_
  refine vX9_owesOfAll_L4 _ FU _ _
theorem kX9_owesOfAll {g : G}    (M : Mem) : CtrI g uX9_owesOfAll 1 (fun r => r) (rmP M) [.ref (ga g 168)] M (fX9_owesOfAll M) := CtrI.of mX9_owesOfAll rfl (Nat.le_of_ble_eq_true rfl) rfl (vX9_owesOfAll M)
set_option maxHeartbeats 4000000 in
set_option maxRecDepth 100000 in
theorem vX9_clearOfAll_L4 {g : G}     (M : Mem)   : ∀ (n : Nat) (y1 : Int32) (y2 : Int32), V g uX9_clearOfAll 1 rvI (rmP M) 4 [.ref (ga g 168), .int y1, .int y2] [] M (fX9_clearOfAll_L4 M n y1 y2) := by
  intro n
  induction n with
  | zero => intro y1 y2; exact vNone
  | succ n ih =>
    intro y1 y2
    rw [fX9_clearOfAll_L4]
    refine r_iload_n dX9_clearOfAll_4 rfl rfl ?_
    refine r_aload_n dX9_clearOfAll_5 rfl rfl ?_
    refine r_getI dX9_clearOfAll_6 fl_X9_55 kdc_168 ?_
    refine r_icmp_ge dX9_clearOfAll_9 (fun h => eT h ?_) (fun h => eF h ?_)
    · refine r_iload_n dX9_clearOfAll_27 rfl rfl ?_
      exact vRet rfl rfl rfl dX9_clearOfAll_28
    · refine r_iload_n dX9_clearOfAll_12 rfl rfl ?_
      refine r_aload_n dX9_clearOfAll_13 rfl rfl ?_
      refine r_getR (k' := 175) dX9_clearOfAll_14 fl_X9_30 kdc_168 rfl ?_
      refine r_iload_n dX9_clearOfAll_17 rfl rfl ?_
      refine r_iald dX9_clearOfAll_18 kdc_175 (fun v1 => ?_)
      refine r_iadd dX9_clearOfAll_19 ?_
      refine r_bndi (fun x2 => ?_)
      refine r_istore_n (l' := [.ref (ga g 168), .int x2, .int y2]) dX9_clearOfAll_20 rfl (Nat.le_of_ble_eq_true rfl) rfl rfl ?_
      refine r_iinc (l' := [.ref (ga g 168), .int x2, .int (y2 + 1)]) dX9_clearOfAll_21 rfl (inc_1 _) (Nat.le_of_ble_eq_true rfl) rfl rfl ?_
      refine r_goto dX9_clearOfAll_24 ?_
      exact ih _ _
set_option maxHeartbeats 4000000 in
set_option maxRecDepth 100000 in
theorem vX9_clearOfAll {g : G}    (M : Mem) : V g uX9_clearOfAll 1 rvI (rmP M) 0 [.ref (ga g 168), .null, .null] [] M (fX9_clearOfAll M) := by
  unfold fX9_clearOfAll
  refine r_iconst ic_0 dX9_clearOfAll_0 ?_
  refine r_istore_n (l' := [.ref (ga g 168), .int 0, .null]) dX9_clearOfAll_1 rfl (Nat.le_of_ble_eq_true rfl) rfl rfl ?_
  refine r_iconst ic_0 dX9_clearOfAll_2 ?_
  refine r_istore_n (l' := [.ref (ga g 168), .int 0, .int 0]) dX9_clearOfAll_3 rfl (Nat.le_of_ble_eq_true rfl) rfl rfl ?_
  refine vX9_clearOfAll_L4 _ FU _ _
theorem kX9_clearOfAll {g : G}    (M : Mem) : CtrI g uX9_clearOfAll 1 (fun r => r) (rmP M) [.ref (ga g 168)] M (fX9_clearOfAll M) := CtrI.of mX9_clearOfAll rfl (Nat.le_of_ble_eq_true rfl) rfl (vX9_clearOfAll M)
set_option maxHeartbeats 4000000 in
set_option maxRecDepth 100000 in
theorem vX11_goes_L37 {g : G}  (K61 : Mem → Option (Int32 × Mem)) (z1 : Int32) (c2 : Int32)  (hK61 : ∀ (M : Mem), V g uX11_goes 7 rvW rmW 61 [.ref (ga g 0), .null, .int c2, .null] [] M (K61 M)) : ∀ (n : Nat) (y3 : Int32) (M : Mem), V g uX11_goes 7 rvW rmW 37 [.ref (ga g 0), .int z1, .int c2, .int y3] [] M (fX11_goes_L37 K61 z1 n y3 M) := by
  intro n
  induction n with
  | zero => intro y3 M; exact vNone
  | succ n ih =>
    intro y3 M
    rw [fX11_goes_L37]
    refine r_iload_n dX11_goes_37 rfl rfl ?_
    refine r_iload_n dX11_goes_38 rfl rfl ?_
    refine r_icmp_ge dX11_goes_39 (fun h => eT h ?_) (fun h => eF h ?_)
    · exact vSub (l' := [.ref (ga g 0), .null, .int c2, .null]) ⟨Or.inr rfl, ⟨Or.inl rfl, ⟨Or.inr rfl, ⟨Or.inl rfl, trivial⟩⟩⟩⟩ (hK61 _)
    · refine r_aload_n dX11_goes_42 rfl rfl ?_
      refine r_getR (k' := 1) dX11_goes_43 fl_X11_12 kdc_0 rfl ?_
      refine r_aload_n dX11_goes_46 rfl rfl ?_
      refine r_getR (k' := 168) dX11_goes_47 fl_X11_29 kdc_0 rfl ?_
      refine r_iconst ic_1 dX11_goes_50 ?_
      refine r_calli (cl_V [.ref (ga g 168), .int 1] bX0_goDay (by decide) dX11_goes_51 ml_X11_146 kdc_1 rfl (Nat.le_of_ble_eq_true rfl) rfl) (kX0_goDay kdc_168 _ _) (fun r2 _ => ?_)
      refine r_pop dX11_goes_54 rfl ?_
      refine r_iinc (l' := [.ref (ga g 0), .int z1, .int c2, .int (y3 + 1)]) dX11_goes_55 rfl (inc_1 _) (Nat.le_of_ble_eq_true rfl) rfl rfl ?_
      refine r_goto dX11_goes_58 ?_
      exact ih _ _
set_option maxHeartbeats 4000000 in
set_option maxRecDepth 100000 in
theorem vX11_goes {g : G}   (p1 : Int32) (p2 : Int32) (M : Mem) : V g uX11_goes 7 rvW rmW 0 [.ref (ga g 0), .int p1, .int p2, .null] [] M (fX11_goes p1 p2 M) := by
  unfold fX11_goes
  refine r_iload_n dX11_goes_0 rfl rfl ?_
  refine r_iconst ic_1 dX11_goes_1 ?_
  refine r_bipush bp_60 dX11_goes_2 ?_
  refine r_calliT (cl_S [.int p1, .int 1, .int 60] bX11_isWithin (by decide) dX11_goes_4 ml_X11_71 rfl (Nat.le_of_ble_eq_true rfl) rfl) (kX11_isWithin _ _ _ _) ?_
  refine r_if_eq dX11_goes_7 (fun h => eT h ?_) (fun h => eF h ?_)
  · refine r_iconst ic_m1 dX11_goes_19 ?_
    exact vRet rfl rfl rfl dX11_goes_20
  · refine r_iload_n dX11_goes_10 rfl rfl ?_
    refine r_iconst ic_0 dX11_goes_11 ?_
    refine r_iconst ic_3 dX11_goes_12 ?_
    refine r_calliT (cl_S [.int p2, .int 0, .int 3] bX11_isWithin (by decide) dX11_goes_13 ml_X11_71 rfl (Nat.le_of_ble_eq_true rfl) rfl) (kX11_isWithin _ _ _ _) ?_
    refine r_if_ne dX11_goes_16 (fun h => eF h ?_) (fun h => eT h ?_)
    · refine r_aload_n dX11_goes_21 rfl rfl ?_
      refine r_getR (k' := 168) dX11_goes_22 fl_X11_29 kdc_0 rfl ?_
      refine r_aload_n dX11_goes_25 rfl rfl ?_
      refine r_getR (k' := 1) dX11_goes_26 fl_X11_12 kdc_0 rfl ?_
      refine r_getR (k' := 2) dX11_goes_29 fl_X11_61 kdc_1 rfl ?_
      refine r_callv (cl_V [.ref (ga g 2)] bX9_copyFrom (by decide) dX11_goes_32 ml_X11_249 kdc_168 rfl (Nat.le_of_ble_eq_true rfl) rfl) (kX9_copyFrom kdc_168 kdc_2 _) (fun M1 _ => ?_)
      refine r_iconst ic_0 dX11_goes_35 ?_
      refine r_istore_n (l' := [.ref (ga g 0), .int p1, .int p2, .int 0]) dX11_goes_36 rfl (Nat.le_of_ble_eq_true rfl) rfl rfl ?_
      refine vX11_goes_L37 _ _ _ (fun M3 => ?_) FU _ _
      · refine r_iload_n dX11_goes_61 rfl rfl ?_
        refine r_tsw (n := 3) (tg := [88, 100, 108]) (td := 120) dX11_goes_62 rfl (by decide) (by decide) (by decide) (by decide) (by decide +kernel) (by decide) (lt_s (lt_s (lt_s (lt_0) ?_) ?_) ?_) ?_
        · refine r_aload_n dX11_goes_88 rfl rfl ?_
          refine r_getR (k' := 168) dX11_goes_89 fl_X11_29 kdc_0 rfl ?_
          refine r_iconst ic_1 dX11_goes_92 ?_
          refine r_calli (cl_V [.int 1] bX9_thoseThatAre (by decide) dX11_goes_93 ml_X11_252 kdc_168 rfl (Nat.le_of_ble_eq_true rfl) rfl) (kX9_thoseThatAre kdc_168 _ _) (fun v4 _ => ?_)
          refine r_calliT (cl_S [.int v4] bJ6_bitCount_0f7a4 (by decide) dX11_goes_96 ml_X11_229 rfl (Nat.le_of_ble_eq_true rfl) rfl) (kJ6_bitCount_0f7a4 _ _) ?_
          exact vRet rfl rfl rfl dX11_goes_99
        · refine r_aload_n dX11_goes_100 rfl rfl ?_
          refine r_getR (k' := 168) dX11_goes_101 fl_X11_29 kdc_0 rfl ?_
          refine r_calli (cl_V [] bX9_owesOfAll (by decide) dX11_goes_104 ml_X11_255 kdc_168 rfl (Nat.le_of_ble_eq_true rfl) rfl) (kX9_owesOfAll _) (fun v5 _ => ?_)
          exact vRet rfl rfl rfl dX11_goes_107
        · refine r_aload_n dX11_goes_108 rfl rfl ?_
          refine r_getR (k' := 168) dX11_goes_109 fl_X11_29 kdc_0 rfl ?_
          refine r_iconst ic_2 dX11_goes_112 ?_
          refine r_calli (cl_V [.int 2] bX9_thoseThatAre (by decide) dX11_goes_113 ml_X11_252 kdc_168 rfl (Nat.le_of_ble_eq_true rfl) rfl) (kX9_thoseThatAre kdc_168 _ _) (fun v6 _ => ?_)
          refine r_calliT (cl_S [.int v6] bJ6_bitCount_0f7a4 (by decide) dX11_goes_116 ml_X11_229 rfl (Nat.le_of_ble_eq_true rfl) rfl) (kJ6_bitCount_0f7a4 _ _) ?_
          exact vRet rfl rfl rfl dX11_goes_119
        · refine r_aload_n dX11_goes_120 rfl rfl ?_
          refine r_getR (k' := 168) dX11_goes_121 fl_X11_29 kdc_0 rfl ?_
          refine r_calli (cl_V [] bX9_clearOfAll (by decide) dX11_goes_124 ml_X11_259 kdc_168 rfl (Nat.le_of_ble_eq_true rfl) rfl) (kX9_clearOfAll _) (fun v7 _ => ?_)
          exact vRet rfl rfl rfl dX11_goes_127
    · refine r_iconst ic_m1 dX11_goes_19 ?_
      exact vRet rfl rfl rfl dX11_goes_20
theorem kX11_goes {g : G}   (p1 : Int32) (p2 : Int32) (M : Mem) : CtrI g uX11_goes 7 (fun r => r.1) rmW [.ref (ga g 0), .int p1, .int p2] M (fX11_goes p1 p2 M) := CtrI.of mX11_goes rfl (Nat.le_of_ble_eq_true rfl) rfl (vX11_goes p1 p2 M)
