set_option maxHeartbeats 4000000 in
set_option maxRecDepth 100000 in
theorem vX1_worked_L5 {g : G}  (K161 : Int32 → Mem → Option (Int32 × Mem)) (z2 : Int32)   (hK161 : ∀ (e3 : Int32) (M : Mem), V g uX1_worked 2 rvW rmW 161 [.ref (ga g 17), .null, .null, .int e3, .null, .null] [] M (K161 e3 M)) : ∀ (n : Nat) (y3 : Int32) (y4 : Int32) (M : Mem), V g uX1_worked 2 rvW rmW 5 [.ref (ga g 17), .null, .int z2, .int y3, .int y4, .null] [] M (fX1_worked_L5 K161 z2 n y3 y4 M) := by
  intro n
  induction n with
  | zero => intro y3 y4 M; exact vNone
  | succ n ih =>
    intro y3 y4 M
    rw [fX1_worked_L5]
    refine r_iload dX1_worked_5 rfl ?_
    refine r_if_lt dX1_worked_7 (fun h => eT h ?_) (fun h => eF h ?_)
    · exact vSub (l' := [.ref (ga g 17), .null, .null, .int y3, .null, .null]) ⟨Or.inr rfl, ⟨Or.inl rfl, ⟨Or.inl rfl, ⟨Or.inr rfl, ⟨Or.inl rfl, ⟨Or.inl rfl, trivial⟩⟩⟩⟩⟩⟩ (hK161 _ _)
    · refine r_iload dX1_worked_10 rfl ?_
      refine r_iload_n dX1_worked_12 rfl rfl ?_
      refine r_icmp_ge dX1_worked_13 (fun h => eT h ?_) (fun h => eF h ?_)
      · exact vSub (l' := [.ref (ga g 17), .null, .null, .int y3, .null, .null]) ⟨Or.inr rfl, ⟨Or.inl rfl, ⟨Or.inl rfl, ⟨Or.inr rfl, ⟨Or.inl rfl, ⟨Or.inl rfl, trivial⟩⟩⟩⟩⟩⟩ (hK161 _ _)
      · refine r_iload dX1_worked_16 rfl ?_
        refine r_aload_n dX1_worked_18 rfl rfl ?_
        refine r_getI dX1_worked_19 fl_X1_37 kdc_17 ?_
        refine r_icmp_ge dX1_worked_22 (fun h => eT h ?_) (fun h => eF h ?_)
        · exact vSub (l' := [.ref (ga g 17), .null, .null, .int y3, .null, .null]) ⟨Or.inr rfl, ⟨Or.inl rfl, ⟨Or.inl rfl, ⟨Or.inr rfl, ⟨Or.inl rfl, ⟨Or.inl rfl, trivial⟩⟩⟩⟩⟩⟩ (hK161 _ _)
        · refine r_aload_n dX1_worked_25 rfl rfl ?_
          refine r_getR (k' := 22) dX1_worked_26 fl_X1_24 kdc_17 rfl ?_
          refine r_iload dX1_worked_29 rfl ?_
          refine r_iald dX1_worked_31 kdc_22 (fun v1 => ?_)
          refine r_istore (l' := [.ref (ga g 17), .null, .int z2, .int y3, .int y4, .int v1]) dX1_worked_32 (Nat.le_of_ble_eq_true rfl) rfl rfl ?_
          refine r_iload dX1_worked_34 rfl ?_
          refine r_sipush sp_20000 dX1_worked_36 ?_
          refine eJ (fun (J2 : (Int32) → (Mem) → Option (Int32 × Mem)) => ∀ (a3 : Int32) (M4 : Mem), V g uX1_worked 2 rvW rmW 155 [.ref (ga g 17), .null, .int z2, .int a3, .int y4, .null] [] M4 (J2 a3 M4)) (fun a3 M4 => ?_) (fun J2 hJ2 => ?_)
          · refine r_iinc (l' := [.ref (ga g 17), .null, .int z2, .int a3, .int (y4 + 1), .null]) dX1_worked_155 rfl (inc_1 _) (Nat.le_of_ble_eq_true rfl) rfl rfl ?_
            refine r_goto dX1_worked_158 ?_
            exact ih _ _ _
          · refine r_icmp_ge dX1_worked_39 (fun h => eT h ?_) (fun h => eF h ?_)
            · refine r_iload dX1_worked_83 rfl ?_
              refine r_sipush sp_20110 dX1_worked_85 ?_
              refine r_icmp_ne dX1_worked_88 (fun h => eF h ?_) (fun h => eT h ?_)
              · refine r_iload_n dX1_worked_116 rfl rfl ?_
                refine r_iconst ic_1 dX1_worked_117 ?_
                refine r_icmp_le dX1_worked_118 (fun h => eT h ?_) (fun h => eF h ?_)
                · exact vSub (l' := [.ref (ga g 17), .null, .int z2, .int y3, .int y4, .null]) ⟨Or.inr rfl, ⟨Or.inl rfl, ⟨Or.inr rfl, ⟨Or.inr rfl, ⟨Or.inr rfl, ⟨Or.inl rfl, trivial⟩⟩⟩⟩⟩⟩ (hJ2 _ _)
                · refine r_iinc (l' := [.ref (ga g 17), .null, .int z2, .int (y3 + (-1)), .int y4, .int v1]) dX1_worked_121 rfl (inc_m1 _) (Nat.le_of_ble_eq_true rfl) rfl rfl ?_
                  refine r_aload_n dX1_worked_124 rfl rfl ?_
                  refine r_getR (k' := 24) dX1_worked_125 fl_X1_30 kdc_17 rfl ?_
                  refine r_iload_n dX1_worked_128 rfl rfl ?_
                  refine r_iconst ic_1 dX1_worked_129 ?_
                  refine r_isub dX1_worked_130 ?_
                  refine r_iload dX1_worked_131 rfl ?_
                  refine r_sipush sp_20000 dX1_worked_133 ?_
                  refine r_isub dX1_worked_136 ?_
                  refine r_aload_n dX1_worked_137 rfl rfl ?_
                  refine r_getR (k' := 24) dX1_worked_138 fl_X1_30 kdc_17 rfl ?_
                  refine r_iload_n dX1_worked_141 rfl rfl ?_
                  refine r_iconst ic_1 dX1_worked_142 ?_
                  refine r_isub dX1_worked_143 ?_
                  refine r_iald dX1_worked_144 kdc_24 (fun v5 => ?_)
                  refine r_aload_n dX1_worked_145 rfl rfl ?_
                  refine r_getR (k' := 24) dX1_worked_146 fl_X1_30 kdc_17 rfl ?_
                  refine r_iload_n dX1_worked_149 rfl rfl ?_
                  refine r_iald dX1_worked_150 kdc_24 (fun v6 => ?_)
                  refine r_calli (cl_S [.int (v1 - 20000), .int v5, .int v6] bX1_joined (by decide) dX1_worked_151 ml_X1_54 rfl (Nat.le_of_ble_eq_true rfl) rfl) (kX1_joined _ _ _ _) (fun v7 _ => ?_)
                  refine r_iast dX1_worked_154 kdc_24 (fun M8 => ?_)
                  exact vSub (l' := [.ref (ga g 17), .null, .int z2, .int (y3 + (-1)), .int y4, .null]) ⟨Or.inr rfl, ⟨Or.inl rfl, ⟨Or.inr rfl, ⟨Or.inr rfl, ⟨Or.inr rfl, ⟨Or.inl rfl, trivial⟩⟩⟩⟩⟩⟩ (hJ2 _ _)
              · refine r_iload_n dX1_worked_91 rfl rfl ?_
                refine r_if_le dX1_worked_92 (fun h => eT h ?_) (fun h => eF h ?_)
                · exact vSub (l' := [.ref (ga g 17), .null, .int z2, .int y3, .int y4, .null]) ⟨Or.inr rfl, ⟨Or.inl rfl, ⟨Or.inr rfl, ⟨Or.inr rfl, ⟨Or.inr rfl, ⟨Or.inl rfl, trivial⟩⟩⟩⟩⟩⟩ (hJ2 _ _)
                · refine r_aload_n dX1_worked_95 rfl rfl ?_
                  refine r_getR (k' := 24) dX1_worked_96 fl_X1_30 kdc_17 rfl ?_
                  refine r_iload_n dX1_worked_99 rfl rfl ?_
                  refine r_iconst ic_1 dX1_worked_100 ?_
                  refine r_isub dX1_worked_101 ?_
                  refine r_iconst ic_1 dX1_worked_102 ?_
                  refine r_aload_n dX1_worked_103 rfl rfl ?_
                  refine r_getR (k' := 24) dX1_worked_104 fl_X1_30 kdc_17 rfl ?_
                  refine r_iload_n dX1_worked_107 rfl rfl ?_
                  refine r_iconst ic_1 dX1_worked_108 ?_
                  refine r_isub dX1_worked_109 ?_
                  refine r_iald dX1_worked_110 kdc_24 (fun v9 => ?_)
                  refine r_isub dX1_worked_111 ?_
                  refine r_iast dX1_worked_112 kdc_24 (fun M10 => ?_)
                  refine r_goto dX1_worked_113 ?_
                  exact vSub (l' := [.ref (ga g 17), .null, .int z2, .int y3, .int y4, .null]) ⟨Or.inr rfl, ⟨Or.inl rfl, ⟨Or.inr rfl, ⟨Or.inr rfl, ⟨Or.inr rfl, ⟨Or.inl rfl, trivial⟩⟩⟩⟩⟩⟩ (hJ2 _ _)
            · refine r_iload_n dX1_worked_42 rfl rfl ?_
              refine r_bipush bp_32 dX1_worked_43 ?_
              refine r_icmp_ge dX1_worked_45 (fun h => eT h ?_) (fun h => eF h ?_)
              · exact vSub (l' := [.ref (ga g 17), .null, .int z2, .int y3, .int y4, .null]) ⟨Or.inr rfl, ⟨Or.inl rfl, ⟨Or.inr rfl, ⟨Or.inr rfl, ⟨Or.inr rfl, ⟨Or.inl rfl, trivial⟩⟩⟩⟩⟩⟩ (hJ2 _ _)
              · refine r_aload_n dX1_worked_48 rfl rfl ?_
                refine r_getR (k' := 24) dX1_worked_49 fl_X1_30 kdc_17 rfl ?_
                refine r_iload_n dX1_worked_52 rfl rfl ?_
                refine r_iload dX1_worked_53 rfl ?_
                refine r_sipush sp_10000 dX1_worked_55 ?_
                refine eJ (fun (J11 : (Int32) → Option (Int32 × Mem)) => ∀ (t12 : Int32), V g uX1_worked 2 rvW rmW 76 [.ref (ga g 17), .null, .int z2, .int y3, .int y4, .null] [.int t12, .int y3, .ref (ga g 24)] M (J11 t12)) (fun t12 => ?_) (fun J11 hJ11 => ?_)
                · refine r_iast dX1_worked_76 kdc_24 (fun M13 => ?_)
                  refine r_iinc (l' := [.ref (ga g 17), .null, .int z2, .int (y3 + 1), .int y4, .null]) dX1_worked_77 rfl (inc_1 _) (Nat.le_of_ble_eq_true rfl) rfl rfl ?_
                  refine r_goto dX1_worked_80 ?_
                  exact hJ2 _ _
                · refine r_icmp_ge dX1_worked_58 (fun h => eT h ?_) (fun h => eF h ?_)
                  · refine r_aload_n dX1_worked_66 rfl rfl ?_
                    refine r_iload dX1_worked_67 rfl ?_
                    refine r_sipush sp_10000 dX1_worked_69 ?_
                    refine r_isub dX1_worked_72 ?_
                    refine r_calli (cl_V [.int (v1 - 10000)] bX1_named (by decide) dX1_worked_73 ml_X1_50 kdc_17 rfl (Nat.le_of_ble_eq_true rfl) rfl) (kX1_named _ _) (fun v14 _ => ?_)
                    exact vSub (l' := [.ref (ga g 17), .null, .int z2, .int y3, .int y4, .null]) ⟨Or.inr rfl, ⟨Or.inl rfl, ⟨Or.inr rfl, ⟨Or.inr rfl, ⟨Or.inr rfl, ⟨Or.inl rfl, trivial⟩⟩⟩⟩⟩⟩ (hJ11 _)
                  · refine r_iload dX1_worked_61 rfl ?_
                    refine r_goto dX1_worked_63 ?_
                    exact vSub (l' := [.ref (ga g 17), .null, .int z2, .int y3, .int y4, .null]) ⟨Or.inr rfl, ⟨Or.inl rfl, ⟨Or.inr rfl, ⟨Or.inr rfl, ⟨Or.inr rfl, ⟨Or.inl rfl, trivial⟩⟩⟩⟩⟩⟩ (hJ11 _)
set_option maxHeartbeats 4000000 in
set_option maxRecDepth 100000 in
theorem vX1_worked {g : G}   (p1 : Int32) (p2 : Int32) (M : Mem) : V g uX1_worked 2 rvW rmW 0 [.ref (ga g 17), .int p1, .int p2, .null, .null, .null] [] M (fX1_worked p1 p2 M) := by
  unfold fX1_worked
  refine r_iconst ic_0 dX1_worked_0 ?_
  refine r_istore_n (l' := [.ref (ga g 17), .int p1, .int p2, .int 0, .null, .null]) dX1_worked_1 rfl (Nat.le_of_ble_eq_true rfl) rfl rfl ?_
  refine r_iload_n dX1_worked_2 rfl rfl ?_
  refine r_istore (l' := [.ref (ga g 17), .int p1, .int p2, .int 0, .int p1, .null]) dX1_worked_3 (Nat.le_of_ble_eq_true rfl) rfl rfl ?_
  refine vSub (l' := [.ref (ga g 17), .null, .int p2, .int 0, .int p1, .null]) ⟨Or.inr rfl, ⟨Or.inl rfl, ⟨Or.inr rfl, ⟨Or.inr rfl, ⟨Or.inr rfl, ⟨Or.inl rfl, trivial⟩⟩⟩⟩⟩⟩ ?_
  refine vX1_worked_L5 _ _ (fun e15 M16 => ?_) FU _ _ _
  · refine r_iload_n dX1_worked_161 rfl rfl ?_
    refine r_if_le dX1_worked_162 (fun h => eT h ?_) (fun h => eF h ?_)
    · refine r_iconst ic_0 dX1_worked_174 ?_
      exact vRet rfl rfl rfl dX1_worked_175
    · refine r_aload_n dX1_worked_165 rfl rfl ?_
      refine r_getR (k' := 24) dX1_worked_166 fl_X1_30 kdc_17 rfl ?_
      refine r_iconst ic_0 dX1_worked_169 ?_
      refine r_iald dX1_worked_170 kdc_24 (fun v17 => ?_)
      refine r_goto dX1_worked_171 ?_
      exact vRet rfl rfl rfl dX1_worked_175
theorem kX1_worked {g : G}   (p1 : Int32) (p2 : Int32) (M : Mem) : CtrI g uX1_worked 2 (fun r => r.1) rmW [.ref (ga g 17), .int p1, .int p2] M (fX1_worked p1 p2 M) := CtrI.of mX1_worked rfl (Nat.le_of_ble_eq_true rfl) rfl (vX1_worked p1 p2 M)
set_option maxHeartbeats 4000000 in
set_option maxRecDepth 100000 in
theorem vX1_lineFor_L2 {g : G}  (K54 : Int32 → Mem → Option (Int32 × Mem)) (z1 : Int32)   (hK54 : ∀ (e2 : Int32) (M : Mem), V g uX1_lineFor 3 rvW rmW 54 [.null, .null, .int e2] [] M (K54 e2 M)) : ∀ (n : Nat) (y2 : Int32) (M : Mem), V g uX1_lineFor 3 rvW rmW 2 [.ref (ga g 17), .int z1, .int y2] [] M (fX1_lineFor_L2 K54 z1 n y2 M) := by
  intro n
  induction n with
  | zero => intro y2 M; exact vNone
  | succ n ih =>
    intro y2 M
    rw [fX1_lineFor_L2]
    refine r_iload_n dX1_lineFor_2 rfl rfl ?_
    refine r_aload_n dX1_lineFor_3 rfl rfl ?_
    refine r_getI dX1_lineFor_4 fl_X1_33 kdc_17 ?_
    refine r_icmp_ge dX1_lineFor_7 (fun h => eT h ?_) (fun h => eF h ?_)
    · refine r_iconst ic_m1 dX1_lineFor_62 ?_
      exact vRet rfl rfl rfl dX1_lineFor_63
    · refine r_aload_n dX1_lineFor_10 rfl rfl ?_
      refine r_getR (k' := 18) dX1_lineFor_11 fl_X1_9 kdc_17 rfl ?_
      refine r_iload_n dX1_lineFor_14 rfl rfl ?_
      refine r_iald dX1_lineFor_15 kdc_18 (fun v1 => ?_)
      refine r_iload_n dX1_lineFor_16 rfl rfl ?_
      refine eJ (fun (J2 : (Mem) → Option (Int32 × Mem)) => ∀ (M3 : Mem), V g uX1_lineFor 3 rvW rmW 56 [.ref (ga g 17), .int z1, .int y2] [] M3 (J2 M3)) (fun M3 => ?_) (fun J2 hJ2 => ?_)
      · refine r_iinc (l' := [.ref (ga g 17), .int z1, .int (y2 + 1)]) dX1_lineFor_56 rfl (inc_1 _) (Nat.le_of_ble_eq_true rfl) rfl rfl ?_
        refine r_goto dX1_lineFor_59 ?_
        exact ih _ _
      · refine r_icmp_ne dX1_lineFor_17 (fun h => eF h ?_) (fun h => eT h ?_)
        · exact hJ2 _
        · refine r_aload_n dX1_lineFor_20 rfl rfl ?_
          refine r_getR (k' := 20) dX1_lineFor_21 fl_X1_18 kdc_17 rfl ?_
          refine r_iload_n dX1_lineFor_24 rfl rfl ?_
          refine r_iald dX1_lineFor_25 kdc_20 (fun v4 => ?_)
          refine r_aload_n dX1_lineFor_26 rfl rfl ?_
          refine r_getR (k' := 21) dX1_lineFor_27 fl_X1_21 kdc_17 rfl ?_
          refine r_iload_n dX1_lineFor_30 rfl rfl ?_
          refine r_iald dX1_lineFor_31 kdc_21 (fun v5 => ?_)
          refine r_icmp_eq dX1_lineFor_32 (fun h => eT h ?_) (fun h => eF h ?_)
          · exact vSub (l' := [.null, .null, .int y2]) ⟨Or.inl rfl, ⟨Or.inl rfl, ⟨Or.inr rfl, trivial⟩⟩⟩ (hK54 _ _)
          · refine r_aload_n dX1_lineFor_35 rfl rfl ?_
            refine r_aload_n dX1_lineFor_36 rfl rfl ?_
            refine r_getR (k' := 20) dX1_lineFor_37 fl_X1_18 kdc_17 rfl ?_
            refine r_iload_n dX1_lineFor_40 rfl rfl ?_
            refine r_iald dX1_lineFor_41 kdc_20 (fun v6 => ?_)
            refine r_aload_n dX1_lineFor_42 rfl rfl ?_
            refine r_getR (k' := 21) dX1_lineFor_43 fl_X1_21 kdc_17 rfl ?_
            refine r_iload_n dX1_lineFor_46 rfl rfl ?_
            refine r_iald dX1_lineFor_47 kdc_21 (fun v7 => ?_)
            refine r_calli (cl_V [.int v6, .int v7] bX1_worked (by decide) dX1_lineFor_48 ml_X1_46 kdc_17 rfl (Nat.le_of_ble_eq_true rfl) rfl) (kX1_worked _ _ _) (fun r8 _ => ?_)
            refine r_if_eq dX1_lineFor_51 (fun h => eT h ?_) (fun h => eF h ?_)
            · exact hJ2 _
            · exact vSub (l' := [.null, .null, .int y2]) ⟨Or.inl rfl, ⟨Or.inl rfl, ⟨Or.inr rfl, trivial⟩⟩⟩ (hK54 _ _)
set_option maxHeartbeats 4000000 in
set_option maxRecDepth 100000 in
theorem vX1_lineFor {g : G}   (p1 : Int32) (M : Mem) : V g uX1_lineFor 3 rvW rmW 0 [.ref (ga g 17), .int p1, .null] [] M (fX1_lineFor p1 M) := by
  unfold fX1_lineFor
  refine r_iconst ic_0 dX1_lineFor_0 ?_
  refine r_istore_n (l' := [.ref (ga g 17), .int p1, .int 0]) dX1_lineFor_1 rfl (Nat.le_of_ble_eq_true rfl) rfl rfl ?_
  refine vX1_lineFor_L2 _ _ (fun e9 M10 => ?_) FU _ _
  · refine r_iload_n dX1_lineFor_54 rfl rfl ?_
    exact vRet rfl rfl rfl dX1_lineFor_55
theorem kX1_lineFor {g : G}   (p1 : Int32) (M : Mem) : CtrI g uX1_lineFor 3 (fun r => r.1) rmW [.ref (ga g 17), .int p1] M (fX1_lineFor p1 M) := CtrI.of mX1_lineFor rfl (Nat.le_of_ble_eq_true rfl) rfl (vX1_lineFor p1 M)
set_option maxHeartbeats 4000000 in
set_option maxRecDepth 100000 in
theorem vX0_withoutLaw {g : G}   (p1 : Int32) (M : Mem) : V g uX0_withoutLaw 1 rvI (rmP M) 0 [.ref (ga g 1), .int p1, .null] [] M (fX0_withoutLaw p1 M) := by
  unfold fX0_withoutLaw
  refine r_aload_n dX0_withoutLaw_0 rfl rfl ?_
  refine r_getR (k' := 17) dX0_withoutLaw_1 fl_X0_30 kdc_1 rfl ?_
  refine r_getR (k' := 23) dX0_withoutLaw_4 fl_X0_78 kdc_17 rfl ?_
  refine r_astore_n (l' := [.ref (ga g 1), .int p1, .ref (ga g 23)]) dX0_withoutLaw_7 rfl (Nat.le_of_ble_eq_true rfl) rfl rfl ?_
  refine r_iload_n dX0_withoutLaw_8 rfl rfl ?_
  refine r_if_ne dX0_withoutLaw_9 (fun h => eF h ?_) (fun h => eT h ?_)
  · refine r_iload_n dX0_withoutLaw_30 rfl rfl ?_
    refine r_iconst ic_1 dX0_withoutLaw_31 ?_
    refine r_icmp_ne dX0_withoutLaw_32 (fun h => eF h ?_) (fun h => eT h ?_)
    · refine r_aload_n dX0_withoutLaw_49 rfl rfl ?_
      refine r_iconst ic_1 dX0_withoutLaw_50 ?_
      refine r_iald dX0_withoutLaw_51 kdc_23 (fun v1 => ?_)
      exact vRet rfl rfl rfl dX0_withoutLaw_52
    · refine r_aload_n dX0_withoutLaw_35 rfl rfl ?_
      refine r_iconst ic_4 dX0_withoutLaw_36 ?_
      refine r_iald dX0_withoutLaw_37 kdc_23 (fun v2 => ?_)
      refine r_iconst ic_2 dX0_withoutLaw_38 ?_
      refine r_idiv dX0_withoutLaw_39 (by decide) ?_
      refine r_aload_n dX0_withoutLaw_40 rfl rfl ?_
      refine r_iconst ic_5 dX0_withoutLaw_41 ?_
      refine r_iald dX0_withoutLaw_42 kdc_23 (fun v3 => ?_)
      refine r_iconst ic_2 dX0_withoutLaw_43 ?_
      refine r_idiv dX0_withoutLaw_44 (by decide) ?_
      refine r_iadd dX0_withoutLaw_45 ?_
      refine r_goto dX0_withoutLaw_46 ?_
      exact vRet rfl rfl rfl dX0_withoutLaw_52
  · refine r_sipush sp_700 dX0_withoutLaw_12 ?_
    refine r_bipush bp_50 dX0_withoutLaw_15 ?_
    refine r_aload_n dX0_withoutLaw_17 rfl rfl ?_
    refine r_iconst ic_0 dX0_withoutLaw_18 ?_
    refine r_iald dX0_withoutLaw_19 kdc_23 (fun v4 => ?_)
    refine r_imul dX0_withoutLaw_20 ?_
    refine r_iadd dX0_withoutLaw_21 ?_
    refine r_bipush bp_30 dX0_withoutLaw_22 ?_
    refine r_aload_n dX0_withoutLaw_24 rfl rfl ?_
    refine r_iconst ic_4 dX0_withoutLaw_25 ?_
    refine r_iald dX0_withoutLaw_26 kdc_23 (fun v5 => ?_)
    refine r_imul dX0_withoutLaw_27 ?_
    refine r_isub dX0_withoutLaw_28 ?_
    exact vRet rfl rfl rfl dX0_withoutLaw_29
theorem kX0_withoutLaw {g : G}   (p1 : Int32) (M : Mem) : CtrI g uX0_withoutLaw 1 (fun r => r) (rmP M) [.ref (ga g 1), .int p1] M (fX0_withoutLaw p1 M) := CtrI.of mX0_withoutLaw rfl (Nat.le_of_ble_eq_true rfl) rfl (vX0_withoutLaw p1 M)
set_option maxHeartbeats 4000000 in
set_option maxRecDepth 100000 in
theorem vX1_valueOf {g : G}   (p1 : Int32) (M : Mem) : V g uX1_valueOf 3 rvW rmW 0 [.ref (ga g 17), .int p1] [] M (fX1_valueOf p1 M) := by
  unfold fX1_valueOf
  refine r_iload_n dX1_valueOf_0 rfl rfl ?_
  refine r_if_lt dX1_valueOf_1 (fun h => eT h ?_) (fun h => eF h ?_)
  · refine r_iconst ic_0 dX1_valueOf_31 ?_
    exact vRet rfl rfl rfl dX1_valueOf_32
  · refine r_iload_n dX1_valueOf_4 rfl rfl ?_
    refine r_aload_n dX1_valueOf_5 rfl rfl ?_
    refine r_getI dX1_valueOf_6 fl_X1_33 kdc_17 ?_
    refine r_icmp_ge dX1_valueOf_9 (fun h => eT h ?_) (fun h => eF h ?_)
    · refine r_iconst ic_0 dX1_valueOf_31 ?_
      exact vRet rfl rfl rfl dX1_valueOf_32
    · refine r_aload_n dX1_valueOf_12 rfl rfl ?_
      refine r_aload_n dX1_valueOf_13 rfl rfl ?_
      refine r_getR (k' := 19) dX1_valueOf_14 fl_X1_15 kdc_17 rfl ?_
      refine r_iload_n dX1_valueOf_17 rfl rfl ?_
      refine r_iald dX1_valueOf_18 kdc_19 (fun v1 => ?_)
      refine r_aload_n dX1_valueOf_19 rfl rfl ?_
      refine r_getR (k' := 20) dX1_valueOf_20 fl_X1_18 kdc_17 rfl ?_
      refine r_iload_n dX1_valueOf_23 rfl rfl ?_
      refine r_iald dX1_valueOf_24 kdc_20 (fun v2 => ?_)
      refine r_calli (cl_V [.int v1, .int v2] bX1_worked (by decide) dX1_valueOf_25 ml_X1_46 kdc_17 rfl (Nat.le_of_ble_eq_true rfl) rfl) (kX1_worked _ _ _) (fun r3 _ => ?_)
      refine r_goto dX1_valueOf_28 ?_
      exact vRet rfl rfl rfl dX1_valueOf_32
theorem kX1_valueOf {g : G}   (p1 : Int32) (M : Mem) : CtrI g uX1_valueOf 3 (fun r => r.1) rmW [.ref (ga g 17), .int p1] M (fX1_valueOf p1 M) := CtrI.of mX1_valueOf rfl (Nat.le_of_ble_eq_true rfl) rfl (vX1_valueOf p1 M)
set_option maxHeartbeats 4000000 in
set_option maxRecDepth 100000 in
theorem vX0_asked {g : G} {k2 : Nat} (hk2 : kd k2 = (9, 15)) (p1 : Int32) (p3 : Int32) (p4 : Int32) (p5 : Int32) (M : Mem) : V g uX0_asked 4 rvW rmW 0 [.ref (ga g 1), .int p1, .ref (ga g k2), .int p3, .int p4, .int p5, .null, .null, .null, .null, .null] [] M (fX0_asked p1 k2 p3 p4 p5 M) := by
  unfold fX0_asked
  refine r_aload_n dX0_asked_0 rfl rfl ?_
  refine r_iload_n dX0_asked_1 rfl rfl ?_
  refine r_calliT (cl_V [.int p3] bX9_hasBargain (by decide) dX0_asked_2 ml_X0_74 hk2 rfl (Nat.le_of_ble_eq_true rfl) rfl) (kX9_hasBargain hk2 _ _) ?_
  refine r_if_ne dX0_asked_5 (fun h => eF h ?_) (fun h => eT h ?_)
  · refine r_aload_n dX0_asked_10 rfl rfl ?_
    refine r_getR (k' := 17) dX0_asked_11 fl_X0_30 kdc_1 rfl ?_
    refine r_getR (k' := 23) dX0_asked_14 fl_X0_78 kdc_17 rfl ?_
    refine r_astore (l' := [.ref (ga g 1), .int p1, .ref (ga g k2), .int p3, .int p4, .int p5, .ref (ga g 23), .null, .null, .null, .null]) dX0_asked_17 (Nat.le_of_ble_eq_true rfl) rfl rfl ?_
    refine r_aload_n dX0_asked_19 rfl rfl ?_
    refine r_iload_n dX0_asked_20 rfl rfl ?_
    refine r_iload dX0_asked_21 rfl ?_
    refine r_calli (cl_V [.int p3, .int p4] bX9_whoIs (by decide) dX0_asked_23 ml_X0_81 hk2 rfl (Nat.le_of_ble_eq_true rfl) rfl) (kX9_whoIs hk2 _ _ _) (fun v1 _ => ?_)
    refine r_istore (l' := [.ref (ga g 1), .int p1, .ref (ga g k2), .int p3, .int p4, .int p5, .ref (ga g 23), .int v1, .null, .null, .null]) dX0_asked_26 (Nat.le_of_ble_eq_true rfl) rfl rfl ?_
    refine r_aload_n dX0_asked_28 rfl rfl ?_
    refine r_iload dX0_asked_29 rfl ?_
    refine r_calliT (cl_V [.int v1] bX9_hasPerson (by decide) dX0_asked_31 ml_X0_85 hk2 rfl (Nat.le_of_ble_eq_true rfl) rfl) (kX9_hasPerson hk2 _ _) ?_
    refine r_bndi (fun x2 => ?_)
    refine r_istore (l' := [.ref (ga g 1), .int p1, .ref (ga g k2), .int p3, .int p4, .int p5, .ref (ga g 23), .int v1, .int x2, .null, .null]) dX0_asked_34 (Nat.le_of_ble_eq_true rfl) rfl rfl ?_
    refine r_aload dX0_asked_36 rfl ?_
    refine r_iconst ic_0 dX0_asked_38 ?_
    refine r_iload dX0_asked_39 rfl ?_
    refine eJ (fun (J3 : (Int32) → Option (Int32 × Mem)) => ∀ (t4 : Int32), V g uX0_asked 4 rvW rmW 55 [.ref (ga g 1), .int p1, .ref (ga g k2), .int p3, .null, .int p5, .ref (ga g 23), .int v1, .int x2, .null, .null] [.int t4, .int 0, .ref (ga g 23)] M (J3 t4)) (fun t4 => ?_) (fun J3 hJ3 => ?_)
    · refine r_iast dX0_asked_55 kdc_23 (fun M5 => ?_)
      refine r_aload dX0_asked_56 rfl ?_
      refine r_bipush bp_7 dX0_asked_58 ?_
      refine r_iload dX0_asked_60 rfl ?_
      refine eJ (fun (J6 : (Int32) → Option (Int32 × Mem)) => ∀ (t7 : Int32), V g uX0_asked 4 rvW rmW 76 [.ref (ga g 1), .int p1, .ref (ga g k2), .int p3, .null, .int p5, .ref (ga g 23), .int v1, .int x2, .null, .null] [.int t7, .int 7, .ref (ga g 23)] M5 (J6 t7)) (fun t7 => ?_) (fun J6 hJ6 => ?_)
      · refine r_iast dX0_asked_76 kdc_23 (fun M8 => ?_)
        refine r_aload dX0_asked_77 rfl ?_
        refine r_bipush bp_8 dX0_asked_79 ?_
        refine r_iload dX0_asked_81 rfl ?_
        refine eJ (fun (J9 : (Int32) → Option (Int32 × Mem)) => ∀ (t10 : Int32), V g uX0_asked 4 rvW rmW 97 [.ref (ga g 1), .int p1, .ref (ga g k2), .int p3, .null, .int p5, .ref (ga g 23), .null, .null, .null, .null] [.int t10, .int 8, .ref (ga g 23)] M8 (J9 t10)) (fun t10 => ?_) (fun J9 hJ9 => ?_)
        · refine r_iast dX0_asked_97 kdc_23 (fun M11 => ?_)
          refine r_aload dX0_asked_98 rfl ?_
          refine r_iconst ic_1 dX0_asked_100 ?_
          refine r_iload dX0_asked_101 rfl ?_
          refine r_iast dX0_asked_103 kdc_23 (fun M12 => ?_)
          refine r_aload dX0_asked_104 rfl ?_
          refine r_iconst ic_2 dX0_asked_106 ?_
          refine r_aload_n dX0_asked_107 rfl rfl ?_
          refine r_getR (k' := (k2 + 6)) dX0_asked_108 fl_X0_97 hk2 rfl ?_
          refine r_iload_n dX0_asked_111 rfl rfl ?_
          refine r_iald dX0_asked_112 (kx_9_6 hk2) (fun v13 => ?_)
          refine r_iast dX0_asked_113 kdc_23 (fun M14 => ?_)
          refine r_aload dX0_asked_114 rfl ?_
          refine r_iconst ic_3 dX0_asked_116 ?_
          refine r_aload_n dX0_asked_117 rfl rfl ?_
          refine r_getR (k' := (k2 + 7)) dX0_asked_118 fl_X0_100 hk2 rfl ?_
          refine r_iload_n dX0_asked_121 rfl rfl ?_
          refine r_iald dX0_asked_122 (kx_9_7 hk2) (fun v15 => ?_)
          refine r_iast dX0_asked_123 kdc_23 (fun M16 => ?_)
          refine r_aload dX0_asked_124 rfl ?_
          refine r_iconst ic_4 dX0_asked_126 ?_
          refine r_aload_n dX0_asked_127 rfl rfl ?_
          refine r_getI dX0_asked_128 fl_X0_103 hk2 ?_
          refine r_iast dX0_asked_131 kdc_23 (fun M17 => ?_)
          refine r_aload dX0_asked_132 rfl ?_
          refine r_iconst ic_5 dX0_asked_134 ?_
          refine r_aload_n dX0_asked_135 rfl rfl ?_
          refine r_getI dX0_asked_136 fl_X0_106 hk2 ?_
          refine r_iast dX0_asked_139 kdc_23 (fun M18 => ?_)
          refine r_aload dX0_asked_140 rfl ?_
          refine r_bipush bp_6 dX0_asked_142 ?_
          refine r_aload_n dX0_asked_144 rfl rfl ?_
          refine r_iload_n dX0_asked_145 rfl rfl ?_
          refine r_calli (cl_V [.int p3] bX0_hearersOf (by decide) dX0_asked_146 ml_X0_109 kdc_1 rfl (Nat.le_of_ble_eq_true rfl) rfl) (kX0_hearersOf _ _) (fun v19 _ => ?_)
          refine r_calliT (cl_S [.int v19] bJ6_bitCount_0f7a4 (by decide) dX0_asked_149 ml_X0_113 rfl (Nat.le_of_ble_eq_true rfl) rfl) (kJ6_bitCount_0f7a4 _ _) ?_
          refine r_iast dX0_asked_152 kdc_23 (fun M20 => ?_)
          refine r_aload dX0_asked_153 rfl ?_
          refine r_bipush bp_9 dX0_asked_155 ?_
          refine r_aload_n dX0_asked_157 rfl rfl ?_
          refine r_getI dX0_asked_158 fl_X0_118 hk2 ?_
          refine r_iast dX0_asked_161 kdc_23 (fun M21 => ?_)
          refine r_aload_n dX0_asked_162 rfl rfl ?_
          refine r_getR (k' := 17) dX0_asked_163 fl_X0_30 kdc_1 rfl ?_
          refine r_iload_n dX0_asked_166 rfl rfl ?_
          refine r_calli (cl_V [.int p1] bX1_lineFor (by decide) dX0_asked_167 ml_X0_121 kdc_17 rfl (Nat.le_of_ble_eq_true rfl) rfl) (kX1_lineFor _ _) (fun r22 _ => ?_)
          refine r_istore (l' := [.ref (ga g 1), .int p1, .ref (ga g k2), .int p3, .null, .int p5, .ref (ga g 23), .null, .null, .int r22.1, .null]) dX0_asked_170 (Nat.le_of_ble_eq_true rfl) rfl rfl ?_
          refine r_iload dX0_asked_172 rfl ?_
          refine r_iconst ic_m1 dX0_asked_174 ?_
          refine eJ (fun (J23 : (Int32) → (Mem) → Option (Int32 × Mem)) => ∀ (t24 : Int32) (M25 : Mem), V g uX0_asked 4 rvW rmW 195 [.null, .int p1, .null, .null, .null, .null, .null, .null, .null, .null, .null] [.int t24] M25 (J23 t24 M25)) (fun t24 M25 => ?_) (fun J23 hJ23 => ?_)
          · refine r_istore (l' := [.null, .int p1, .null, .null, .null, .null, .null, .null, .null, .null, .int t24]) dX0_asked_195 (Nat.le_of_ble_eq_true rfl) rfl rfl ?_
            refine r_iconst ic_0 dX0_asked_197 ?_
            refine r_iload_n dX0_asked_198 rfl rfl ?_
            refine eJ (fun (J26 : (Int32) → Option (Int32 × Mem)) => ∀ (t27 : Int32), V g uX0_asked 4 rvW rmW 210 [.null, .null, .null, .null, .null, .null, .null, .null, .null, .null, .int t24] [.int t27, .int 0] M25 (J26 t27)) (fun t27 => ?_) (fun J26 hJ26 => ?_)
            · refine r_iload dX0_asked_210 rfl ?_
              refine r_min (by decide) (Nat.le_of_ble_eq_true rfl) ml_X0_130 jmin_1 j_math jmin_2 dX0_asked_212 ?_
              refine r_max (by decide) (Nat.le_of_ble_eq_true rfl) ml_X0_135 jmax_1 j_math jmax_2 dX0_asked_215 ?_
              exact vRet rfl rfl rfl dX0_asked_218
            · refine r_if_ne dX0_asked_199 (fun h => eF h ?_) (fun h => eT h ?_)
              · refine r_bipush bp_9 dX0_asked_208 ?_
                exact vSub (l' := [.null, .null, .null, .null, .null, .null, .null, .null, .null, .null, .int t24]) ⟨Or.inl rfl, ⟨Or.inl rfl, ⟨Or.inl rfl, ⟨Or.inl rfl, ⟨Or.inl rfl, ⟨Or.inl rfl, ⟨Or.inl rfl, ⟨Or.inl rfl, ⟨Or.inl rfl, ⟨Or.inl rfl, ⟨Or.inr rfl, trivial⟩⟩⟩⟩⟩⟩⟩⟩⟩⟩⟩ (hJ26 _)
              · refine r_sipush sp_1000 dX0_asked_202 ?_
                refine r_goto dX0_asked_205 ?_
                exact vSub (l' := [.null, .null, .null, .null, .null, .null, .null, .null, .null, .null, .int t24]) ⟨Or.inl rfl, ⟨Or.inl rfl, ⟨Or.inl rfl, ⟨Or.inl rfl, ⟨Or.inl rfl, ⟨Or.inl rfl, ⟨Or.inl rfl, ⟨Or.inl rfl, ⟨Or.inl rfl, ⟨Or.inl rfl, ⟨Or.inr rfl, trivial⟩⟩⟩⟩⟩⟩⟩⟩⟩⟩⟩ (hJ26 _)
          · refine r_icmp_ne dX0_asked_175 (fun h => eF h ?_) (fun h => eT h ?_)
            · refine r_aload_n dX0_asked_186 rfl rfl ?_
              refine r_getR (k' := 17) dX0_asked_187 fl_X0_30 kdc_1 rfl ?_
              refine r_iload dX0_asked_190 rfl ?_
              refine r_calli (cl_V [.int r22.1] bX1_valueOf (by decide) dX0_asked_192 ml_X0_127 kdc_17 rfl (Nat.le_of_ble_eq_true rfl) rfl) (kX1_valueOf _ _) (fun r28 _ => ?_)
              exact vSub (l' := [.null, .int p1, .null, .null, .null, .null, .null, .null, .null, .null, .null]) ⟨Or.inl rfl, ⟨Or.inr rfl, ⟨Or.inl rfl, ⟨Or.inl rfl, ⟨Or.inl rfl, ⟨Or.inl rfl, ⟨Or.inl rfl, ⟨Or.inl rfl, ⟨Or.inl rfl, ⟨Or.inl rfl, ⟨Or.inl rfl, trivial⟩⟩⟩⟩⟩⟩⟩⟩⟩⟩⟩ (hJ23 _ _)
            · refine r_aload_n dX0_asked_178 rfl rfl ?_
              refine r_iload_n dX0_asked_179 rfl rfl ?_
              refine r_calli (cl_V [.int p1] bX0_withoutLaw (by decide) dX0_asked_180 ml_X0_124 kdc_1 rfl (Nat.le_of_ble_eq_true rfl) rfl) (kX0_withoutLaw _ _) (fun v29 _ => ?_)
              refine r_goto dX0_asked_183 ?_
              exact vSub (l' := [.null, .int p1, .null, .null, .null, .null, .null, .null, .null, .null, .null]) ⟨Or.inl rfl, ⟨Or.inr rfl, ⟨Or.inl rfl, ⟨Or.inl rfl, ⟨Or.inl rfl, ⟨Or.inl rfl, ⟨Or.inl rfl, ⟨Or.inl rfl, ⟨Or.inl rfl, ⟨Or.inl rfl, ⟨Or.inl rfl, trivial⟩⟩⟩⟩⟩⟩⟩⟩⟩⟩⟩ (hJ23 _ _)
        · refine r_if_eq dX0_asked_83 (fun h => eT h ?_) (fun h => eF h ?_)
          · refine r_iconst ic_0 dX0_asked_96 ?_
            exact vSub (l' := [.ref (ga g 1), .int p1, .ref (ga g k2), .int p3, .null, .int p5, .ref (ga g 23), .null, .null, .null, .null]) ⟨Or.inr rfl, ⟨Or.inr rfl, ⟨Or.inr rfl, ⟨Or.inr rfl, ⟨Or.inl rfl, ⟨Or.inr rfl, ⟨Or.inr rfl, ⟨Or.inl rfl, ⟨Or.inl rfl, ⟨Or.inl rfl, ⟨Or.inl rfl, trivial⟩⟩⟩⟩⟩⟩⟩⟩⟩⟩⟩ (hJ9 _)
          · refine r_aload_n dX0_asked_86 rfl rfl ?_
            refine r_getR (k' := (k2 + 2)) dX0_asked_87 fl_X0_94 hk2 rfl ?_
            refine r_iload dX0_asked_90 rfl ?_
            refine r_iald dX0_asked_92 (kx_9_2 hk2) (fun v30 => ?_)
            refine r_goto dX0_asked_93 ?_
            exact vSub (l' := [.ref (ga g 1), .int p1, .ref (ga g k2), .int p3, .null, .int p5, .ref (ga g 23), .null, .null, .null, .null]) ⟨Or.inr rfl, ⟨Or.inr rfl, ⟨Or.inr rfl, ⟨Or.inr rfl, ⟨Or.inl rfl, ⟨Or.inr rfl, ⟨Or.inr rfl, ⟨Or.inl rfl, ⟨Or.inl rfl, ⟨Or.inl rfl, ⟨Or.inl rfl, trivial⟩⟩⟩⟩⟩⟩⟩⟩⟩⟩⟩ (hJ9 _)
      · refine r_if_eq dX0_asked_62 (fun h => eT h ?_) (fun h => eF h ?_)
        · refine r_iconst ic_0 dX0_asked_75 ?_
          exact hJ6 _
        · refine r_aload_n dX0_asked_65 rfl rfl ?_
          refine r_getR (k' := (k2 + 3)) dX0_asked_66 fl_X0_91 hk2 rfl ?_
          refine r_iload dX0_asked_69 rfl ?_
          refine r_iald dX0_asked_71 (kx_9_3 hk2) (fun v31 => ?_)
          refine r_goto dX0_asked_72 ?_
          exact hJ6 _
    · refine r_if_eq dX0_asked_41 (fun h => eT h ?_) (fun h => eF h ?_)
      · refine r_iconst ic_0 dX0_asked_54 ?_
        exact vSub (l' := [.ref (ga g 1), .int p1, .ref (ga g k2), .int p3, .null, .int p5, .ref (ga g 23), .int v1, .int x2, .null, .null]) ⟨Or.inr rfl, ⟨Or.inr rfl, ⟨Or.inr rfl, ⟨Or.inr rfl, ⟨Or.inl rfl, ⟨Or.inr rfl, ⟨Or.inr rfl, ⟨Or.inr rfl, ⟨Or.inr rfl, ⟨Or.inl rfl, ⟨Or.inl rfl, trivial⟩⟩⟩⟩⟩⟩⟩⟩⟩⟩⟩ (hJ3 _)
      · refine r_aload_n dX0_asked_44 rfl rfl ?_
        refine r_getR (k' := (k2 + 1)) dX0_asked_45 fl_X0_88 hk2 rfl ?_
        refine r_iload dX0_asked_48 rfl ?_
        refine r_iald dX0_asked_50 (kx_9_1 hk2) (fun v32 => ?_)
        refine r_goto dX0_asked_51 ?_
        exact vSub (l' := [.ref (ga g 1), .int p1, .ref (ga g k2), .int p3, .null, .int p5, .ref (ga g 23), .int v1, .int x2, .null, .null]) ⟨Or.inr rfl, ⟨Or.inr rfl, ⟨Or.inr rfl, ⟨Or.inr rfl, ⟨Or.inl rfl, ⟨Or.inr rfl, ⟨Or.inr rfl, ⟨Or.inr rfl, ⟨Or.inr rfl, ⟨Or.inl rfl, ⟨Or.inl rfl, trivial⟩⟩⟩⟩⟩⟩⟩⟩⟩⟩⟩ (hJ3 _)
  · refine r_iconst ic_0 dX0_asked_8 ?_
    exact vRet rfl rfl rfl dX0_asked_9
theorem kX0_asked {g : G} {k2 : Nat} (hk2 : kd k2 = (9, 15)) (p1 : Int32) (p3 : Int32) (p4 : Int32) (p5 : Int32) (M : Mem) : CtrI g uX0_asked 4 (fun r => r.1) rmW [.ref (ga g 1), .int p1, .ref (ga g k2), .int p3, .int p4, .int p5] M (fX0_asked p1 k2 p3 p4 p5 M) := CtrI.of mX0_asked rfl (Nat.le_of_ble_eq_true rfl) rfl (vX0_asked hk2 p1 p3 p4 p5 M)
set_option maxHeartbeats 4000000 in
set_option maxRecDepth 100000 in
theorem vX9_drawn {g : G} {k0 : Nat} (hk0 : kd k0 = (9, 15)) (p1 : Int32) (M : Mem) : V g uX9_drawn 1 rvW rmW 0 [.ref (ga g k0), .int p1] [] M (fX9_drawn k0 p1 M) := by
  unfold fX9_drawn
  refine r_aload_n dX9_drawn_0 rfl rfl ?_
  refine r_ldc lc_X9_78 dX9_drawn_1 ?_
  refine r_aload_n dX9_drawn_3 rfl rfl ?_
  refine r_getI dX9_drawn_4 fl_X9_39 hk0 ?_
  refine r_imul dX9_drawn_7 ?_
  refine r_ldc lc_X9_79 dX9_drawn_8 ?_
  refine r_iadd dX9_drawn_10 ?_
  refine r_put dX9_drawn_11 fw_X9_39 hk0 (fun M1 => ?_)
  refine r_iload_n dX9_drawn_14 rfl rfl ?_
  refine r_if_le dX9_drawn_15 (fun h => eT h ?_) (fun h => eF h ?_)
  · refine r_iconst ic_0 dX9_drawn_30 ?_
    exact vRet rfl rfl rfl dX9_drawn_31
  · refine r_aload_n dX9_drawn_18 rfl rfl ?_
    refine r_getI dX9_drawn_19 fl_X9_39 hk0 ?_
    refine r_bipush bp_8 dX9_drawn_22 ?_
    refine r_iushr dX9_drawn_24 ?_
    refine r_iload_n dX9_drawn_25 rfl rfl ?_
    refine r_iremG dX9_drawn_26 ?_
    refine r_goto dX9_drawn_27 ?_
    exact vRet rfl rfl rfl dX9_drawn_31
theorem kX9_drawn {g : G} {k0 : Nat} (hk0 : kd k0 = (9, 15)) (p1 : Int32) (M : Mem) : CtrI g uX9_drawn 1 (fun r => r.1) rmW [.ref (ga g k0), .int p1] M (fX9_drawn k0 p1 M) := CtrI.of mX9_drawn rfl (Nat.le_of_ble_eq_true rfl) rfl (vX9_drawn hk0 p1 M)
set_option maxHeartbeats 4000000 in
set_option maxRecDepth 100000 in
theorem vX3_append {g : G} {k0 : Nat} (hk0 : kd k0 = (3, 6)) (p1 : Int32) (p2 : Int32) (p3 : Int32) (p4 : Int32) (M : Mem) : V g uX3_append 1 rvU rmU 0 [.ref (ga g k0), .int p1, .int p2, .int p3, .int p4] [] M (fX3_append k0 p1 p2 p3 p4 M) := by
  unfold fX3_append
  refine r_aload_n dX3_append_0 rfl rfl ?_
  refine r_getI dX3_append_1 fl_X3_32 hk0 ?_
  refine r_aload_n dX3_append_4 rfl rfl ?_
  refine r_getI dX3_append_5 fl_X3_13 hk0 ?_
  refine r_icmp_ge dX3_append_8 (fun h => eT h ?_) (fun h => eF h ?_)
  · exact vRet rfl rfl trivial dX3_append_62
  · refine r_aload_n dX3_append_11 rfl rfl ?_
    refine r_getR (k' := (k0 + 1)) dX3_append_12 fl_X3_19 hk0 rfl ?_
    refine r_aload_n dX3_append_15 rfl rfl ?_
    refine r_getI dX3_append_16 fl_X3_32 hk0 ?_
    refine r_iload_n dX3_append_19 rfl rfl ?_
    refine r_iast dX3_append_20 (kx_3_1 hk0) (fun M1 => ?_)
    refine r_aload_n dX3_append_21 rfl rfl ?_
    refine r_getR (k' := (k0 + 2)) dX3_append_22 fl_X3_23 hk0 rfl ?_
    refine r_aload_n dX3_append_25 rfl rfl ?_
    refine r_getI dX3_append_26 fl_X3_32 hk0 ?_
    refine r_iload_n dX3_append_29 rfl rfl ?_
    refine r_iast dX3_append_30 (kx_3_2 hk0) (fun M2 => ?_)
    refine r_aload_n dX3_append_31 rfl rfl ?_
    refine r_getR (k' := (k0 + 3)) dX3_append_32 fl_X3_26 hk0 rfl ?_
    refine r_aload_n dX3_append_35 rfl rfl ?_
    refine r_getI dX3_append_36 fl_X3_32 hk0 ?_
    refine r_iload_n dX3_append_39 rfl rfl ?_
    refine r_iast dX3_append_40 (kx_3_3 hk0) (fun M3 => ?_)
    refine r_aload_n dX3_append_41 rfl rfl ?_
    refine r_getR (k' := (k0 + 4)) dX3_append_42 fl_X3_29 hk0 rfl ?_
    refine r_aload_n dX3_append_45 rfl rfl ?_
    refine r_getI dX3_append_46 fl_X3_32 hk0 ?_
    refine r_iload dX3_append_49 rfl ?_
    refine r_iast dX3_append_51 (kx_3_4 hk0) (fun M4 => ?_)
    refine r_aload_n dX3_append_52 rfl rfl ?_
    refine r_dup dX3_append_53 rfl ?_
    refine r_getI dX3_append_54 fl_X3_32 hk0 ?_
    refine r_iconst ic_1 dX3_append_57 ?_
    refine r_iadd dX3_append_58 ?_
    refine r_put dX3_append_59 fw_X3_32 hk0 (fun M5 => ?_)
    exact vRet rfl rfl trivial dX3_append_62
theorem kX3_append {g : G} {k0 : Nat} (hk0 : kd k0 = (3, 6)) (p1 : Int32) (p2 : Int32) (p3 : Int32) (p4 : Int32) (M : Mem) : CtrV g uX3_append 1 rmU [.ref (ga g k0), .int p1, .int p2, .int p3, .int p4] M (fX3_append k0 p1 p2 p3 p4 M) := CtrV.of mX3_append rfl (Nat.le_of_ble_eq_true rfl) rfl (vX3_append hk0 p1 p2 p3 p4 M)
set_option maxHeartbeats 4000000 in
set_option maxRecDepth 100000 in
theorem vX0_note {g : G} {k1 : Nat} (hk1 : kd k1 = (9, 15)) (p2 : Int32) (p3 : Int32) (p4 : Int32) (p5 : Int32) (M : Mem) : V g uX0_note 2 rvU rmU 0 [.ref (ga g 1), .ref (ga g k1), .int p2, .int p3, .int p4, .int p5] [] M (fX0_note k1 p2 p3 p4 p5 M) := by
  unfold fX0_note
  refine r_iload dX0_note_0 rfl ?_
  refine r_if_ne dX0_note_2 (fun h => eF h ?_) (fun h => eT h ?_)
  · exact vRet rfl rfl trivial dX0_note_20
  · refine r_aload_n dX0_note_5 rfl rfl ?_
    refine r_getR (k' := 12) dX0_note_6 fl_X0_23 kdc_1 rfl ?_
    refine r_aload_n dX0_note_9 rfl rfl ?_
    refine r_getI dX0_note_10 fl_X0_118 hk1 ?_
    refine r_iload_n dX0_note_13 rfl rfl ?_
    refine r_iload_n dX0_note_14 rfl rfl ?_
    refine r_iload dX0_note_15 rfl ?_
    refine r_callv (cl_V [.int (M k1 3), .int p2, .int p3, .int p4] bX3_append (by decide) dX0_note_17 ml_X0_188 kdc_12 rfl (Nat.le_of_ble_eq_true rfl) rfl) (kX3_append kdc_12 _ _ _ _ _) (fun M1 _ => ?_)
    exact vRet rfl rfl trivial dX0_note_20
theorem kX0_note {g : G} {k1 : Nat} (hk1 : kd k1 = (9, 15)) (p2 : Int32) (p3 : Int32) (p4 : Int32) (p5 : Int32) (M : Mem) : CtrV g uX0_note 2 rmU [.ref (ga g 1), .ref (ga g k1), .int p2, .int p3, .int p4, .int p5] M (fX0_note k1 p2 p3 p4 p5 M) := CtrV.of mX0_note rfl (Nat.le_of_ble_eq_true rfl) rfl (vX0_note hk1 p2 p3 p4 p5 M)
set_option maxHeartbeats 4000000 in
set_option maxRecDepth 100000 in
theorem vX0_twist_L39 {g : G} {k1 : Nat} (K151 : Mem → Option (Int32 × Mem)) (K112 : Int32 → Mem → Option (Int32 × Mem)) (z2 : Int32) (z3 : Int32) (z4 : Int32) (c5 : Int32) (hk1 : kd k1 = (9, 15)) (hK151 : ∀ (M : Mem), V g uX0_twist 5 rvW rmW 151 [.ref (ga g 1), .ref (ga g k1), .int z2, .int z3, .int z4, .int c5, .null, .null, .null] [] M (K151 M)) (hK112 : ∀ (e6 : Int32) (M : Mem), V g uX0_twist 5 rvW rmW 112 [.ref (ga g 1), .ref (ga g k1), .int z2, .int z3, .int z4, .int c5, .int e6, .null, .null] [] M (K112 e6 M)) : ∀ (n : Nat) (y6 : Int32) (M : Mem), V g uX0_twist 5 rvW rmW 39 [.ref (ga g 1), .ref (ga g k1), .int z2, .int z3, .int z4, .int c5, .int y6, .null, .null] [] M (fX0_twist_L39 K151 K112 k1 z2 z3 z4 n y6 M) := by
  intro n
  induction n with
  | zero => intro y6 M; exact vNone
  | succ n ih =>
    intro y6 M
    rw [fX0_twist_L39]
    refine r_iload dX0_twist_39 rfl ?_
    refine r_aload_n dX0_twist_41 rfl rfl ?_
    refine r_getR (k' := (k1 + 6)) dX0_twist_42 fl_X0_97 hk1 rfl ?_
    refine r_iload_n dX0_twist_45 rfl rfl ?_
    refine r_iald dX0_twist_46 (kx_9_6 hk1) (fun v4 => ?_)
    refine r_icmp_gt dX0_twist_47 (fun h => eT h ?_) (fun h => eF h ?_)
    · exact vSub (l' := [.ref (ga g 1), .ref (ga g k1), .int z2, .int z3, .int z4, .int c5, .null, .null, .null]) ⟨Or.inr rfl, ⟨Or.inr rfl, ⟨Or.inr rfl, ⟨Or.inr rfl, ⟨Or.inr rfl, ⟨Or.inr rfl, ⟨Or.inl rfl, ⟨Or.inl rfl, ⟨Or.inl rfl, trivial⟩⟩⟩⟩⟩⟩⟩⟩⟩ (hK151 _)
    · refine r_aload_n dX0_twist_50 rfl rfl ?_
      refine r_iconst ic_0 dX0_twist_51 ?_
      refine r_aload_n dX0_twist_52 rfl rfl ?_
      refine r_iload_n dX0_twist_53 rfl rfl ?_
      refine r_iload_n dX0_twist_54 rfl rfl ?_
      refine r_iload dX0_twist_55 rfl ?_
      refine r_calli (cl_V [.int 0, .ref (ga g k1), .int z2, .int z3, .int y6] bX0_asked (by decide) dX0_twist_57 ml_X0_168 kdc_1 rfl (Nat.le_of_ble_eq_true rfl) rfl) (kX0_asked hk1 _ _ _ _ _) (fun r5 _ => ?_)
      refine r_istore (l' := [.ref (ga g 1), .ref (ga g k1), .int z2, .int z3, .int z4, .int c5, .int y6, .int r5.1, .null]) dX0_twist_60 (Nat.le_of_ble_eq_true rfl) rfl rfl ?_
      refine r_iload dX0_twist_62 rfl ?_
      refine eJ (fun (J6 : (Int32) → (Mem) → Option (Int32 × Mem)) => ∀ (t7 : Int32) (M8 : Mem), V g uX0_twist 5 rvW rmW 105 [.ref (ga g 1), .ref (ga g k1), .int z2, .int z3, .int z4, .int c5, .int y6, .null, .null] [.int t7] M8 (J6 t7 M8)) (fun t7 M8 => ?_) (fun J6 hJ6 => ?_)
      · refine r_istore (l' := [.ref (ga g 1), .ref (ga g k1), .int z2, .int z3, .int z4, .int c5, .int y6, .null, .int t7]) dX0_twist_105 (Nat.le_of_ble_eq_true rfl) rfl rfl ?_
        refine r_iload dX0_twist_107 rfl ?_
        refine r_if_ne dX0_twist_109 (fun h => eF h ?_) (fun h => eT h ?_)
        · refine r_iinc (l' := [.ref (ga g 1), .ref (ga g k1), .int z2, .int z3, .int z4, .int c5, .int (y6 + 1), .null, .int t7]) dX0_twist_145 rfl (inc_1 _) (Nat.le_of_ble_eq_true rfl) rfl rfl ?_
          refine r_goto dX0_twist_148 ?_
          exact vSub (l' := [.ref (ga g 1), .ref (ga g k1), .int z2, .int z3, .int z4, .int c5, .int (y6 + 1), .null, .null]) ⟨Or.inr rfl, ⟨Or.inr rfl, ⟨Or.inr rfl, ⟨Or.inr rfl, ⟨Or.inr rfl, ⟨Or.inr rfl, ⟨Or.inr rfl, ⟨Or.inl rfl, ⟨Or.inl rfl, trivial⟩⟩⟩⟩⟩⟩⟩⟩⟩ (ih _ _)
        · exact vSub (l' := [.ref (ga g 1), .ref (ga g k1), .int z2, .int z3, .int z4, .int c5, .int y6, .null, .null]) ⟨Or.inr rfl, ⟨Or.inr rfl, ⟨Or.inr rfl, ⟨Or.inr rfl, ⟨Or.inr rfl, ⟨Or.inr rfl, ⟨Or.inr rfl, ⟨Or.inl rfl, ⟨Or.inl rfl, trivial⟩⟩⟩⟩⟩⟩⟩⟩⟩ (hK112 _ _)
      · refine r_if_eq dX0_twist_64 (fun h => eT h ?_) (fun h => eF h ?_)
        · refine r_iload dX0_twist_83 rfl ?_
          refine eJ (fun (J9 : (Mem) → Option (Int32 × Mem)) => ∀ (M10 : Mem), V g uX0_twist 5 rvW rmW 104 [.ref (ga g 1), .ref (ga g k1), .int z2, .int z3, .int z4, .int c5, .int y6, .null, .null] [] M10 (J9 M10)) (fun M10 => ?_) (fun J9 hJ9 => ?_)
          · refine r_iconst ic_0 dX0_twist_104 ?_
            exact hJ6 _ _
          · refine r_if_le dX0_twist_85 (fun h => eT h ?_) (fun h => eF h ?_)
            · exact vSub (l' := [.ref (ga g 1), .ref (ga g k1), .int z2, .int z3, .int z4, .int c5, .int y6, .null, .null]) ⟨Or.inr rfl, ⟨Or.inr rfl, ⟨Or.inr rfl, ⟨Or.inr rfl, ⟨Or.inr rfl, ⟨Or.inr rfl, ⟨Or.inr rfl, ⟨Or.inl rfl, ⟨Or.inl rfl, trivial⟩⟩⟩⟩⟩⟩⟩⟩⟩ (hJ9 _)
            · refine r_aload_n dX0_twist_88 rfl rfl ?_
              refine r_sipush sp_1000 dX0_twist_89 ?_
              refine r_calli (cl_V [.int 1000] bX9_drawn (by decide) dX0_twist_92 ml_X0_172 hk1 rfl (Nat.le_of_ble_eq_true rfl) rfl) (kX9_drawn hk1 _ _) (fun r11 _ => ?_)
              refine r_iload dX0_twist_95 rfl ?_
              refine r_icmp_ge dX0_twist_97 (fun h => eT h ?_) (fun h => eF h ?_)
              · exact vSub (l' := [.ref (ga g 1), .ref (ga g k1), .int z2, .int z3, .int z4, .int c5, .int y6, .null, .null]) ⟨Or.inr rfl, ⟨Or.inr rfl, ⟨Or.inr rfl, ⟨Or.inr rfl, ⟨Or.inr rfl, ⟨Or.inr rfl, ⟨Or.inr rfl, ⟨Or.inl rfl, ⟨Or.inl rfl, trivial⟩⟩⟩⟩⟩⟩⟩⟩⟩ (hJ9 _)
              · refine r_iconst ic_1 dX0_twist_100 ?_
                refine r_goto dX0_twist_101 ?_
                exact vSub (l' := [.ref (ga g 1), .ref (ga g k1), .int z2, .int z3, .int z4, .int c5, .int y6, .null, .null]) ⟨Or.inr rfl, ⟨Or.inr rfl, ⟨Or.inr rfl, ⟨Or.inr rfl, ⟨Or.inr rfl, ⟨Or.inr rfl, ⟨Or.inr rfl, ⟨Or.inl rfl, ⟨Or.inl rfl, trivial⟩⟩⟩⟩⟩⟩⟩⟩⟩ (hJ6 _ _)
        · refine r_iload dX0_twist_67 rfl ?_
          refine r_sipush sp_500 dX0_twist_69 ?_
          refine r_icmp_lt dX0_twist_72 (fun h => eT h ?_) (fun h => eF h ?_)
          · refine r_iconst ic_0 dX0_twist_79 ?_
            refine r_goto dX0_twist_80 ?_
            exact vSub (l' := [.ref (ga g 1), .ref (ga g k1), .int z2, .int z3, .int z4, .int c5, .int y6, .null, .null]) ⟨Or.inr rfl, ⟨Or.inr rfl, ⟨Or.inr rfl, ⟨Or.inr rfl, ⟨Or.inr rfl, ⟨Or.inr rfl, ⟨Or.inr rfl, ⟨Or.inl rfl, ⟨Or.inl rfl, trivial⟩⟩⟩⟩⟩⟩⟩⟩⟩ (hJ6 _ _)
          · refine r_iconst ic_1 dX0_twist_75 ?_
            refine r_goto dX0_twist_76 ?_
            exact vSub (l' := [.ref (ga g 1), .ref (ga g k1), .int z2, .int z3, .int z4, .int c5, .int y6, .null, .null]) ⟨Or.inr rfl, ⟨Or.inr rfl, ⟨Or.inr rfl, ⟨Or.inr rfl, ⟨Or.inr rfl, ⟨Or.inr rfl, ⟨Or.inr rfl, ⟨Or.inl rfl, ⟨Or.inl rfl, trivial⟩⟩⟩⟩⟩⟩⟩⟩⟩ (hJ6 _ _)
set_option maxHeartbeats 4000000 in
set_option maxRecDepth 100000 in
theorem vX0_twist {g : G} {k1 : Nat} (hk1 : kd k1 = (9, 15)) (p2 : Int32) (p3 : Int32) (p4 : Int32) (M : Mem) : V g uX0_twist 5 rvW rmW 0 [.ref (ga g 1), .ref (ga g k1), .int p2, .int p3, .int p4, .null, .null, .null, .null] [] M (fX0_twist k1 p2 p3 p4 M) := by
  unfold fX0_twist
  refine r_aload_n dX0_twist_0 rfl rfl ?_
  refine r_iload_n dX0_twist_1 rfl rfl ?_
  refine r_iload_n dX0_twist_2 rfl rfl ?_
  refine r_calli (cl_V [.int p2, .int p3] bX9_whoIs (by decide) dX0_twist_3 ml_X0_81 hk1 rfl (Nat.le_of_ble_eq_true rfl) rfl) (kX9_whoIs hk1 _ _ _) (fun v1 _ => ?_)
  refine r_istore (l' := [.ref (ga g 1), .ref (ga g k1), .int p2, .int p3, .int p4, .int v1, .null, .null, .null]) dX0_twist_6 (Nat.le_of_ble_eq_true rfl) rfl rfl ?_
  refine r_aload_n dX0_twist_8 rfl rfl ?_
  refine r_iload_n dX0_twist_9 rfl rfl ?_
  refine r_calli (cl_V [.int p2] bX9_isOpen (by decide) dX0_twist_10 ml_X0_161 hk1 rfl (Nat.le_of_ble_eq_true rfl) rfl) (kX9_isOpen hk1 _ _) (fun v2 _ => ?_)
  refine r_if_eq dX0_twist_13 (fun h => eT h ?_) (fun h => eF h ?_)
  · refine r_iconst ic_0 dX0_twist_34 ?_
    exact vRet rfl rfl rfl dX0_twist_35
  · refine r_aload_n dX0_twist_16 rfl rfl ?_
    refine r_iload_n dX0_twist_17 rfl rfl ?_
    refine r_iload_n dX0_twist_18 rfl rfl ?_
    refine r_calli (cl_V [.int p2, .int p3] bX9_hasSaid (by decide) dX0_twist_19 ml_X0_164 hk1 rfl (Nat.le_of_ble_eq_true rfl) rfl) (kX9_hasSaid hk1 _ _ _) (fun v3 _ => ?_)
    refine r_if_ne dX0_twist_22 (fun h => eF h ?_) (fun h => eT h ?_)
    · refine r_iconst ic_0 dX0_twist_34 ?_
      exact vRet rfl rfl rfl dX0_twist_35
    · refine r_aload_n dX0_twist_25 rfl rfl ?_
      refine r_iload dX0_twist_26 rfl ?_
      refine r_calliT (cl_V [.int v1] bX9_hasPerson (by decide) dX0_twist_28 ml_X0_85 hk1 rfl (Nat.le_of_ble_eq_true rfl) rfl) (kX9_hasPerson hk1 _ _) ?_
      refine r_if_ne dX0_twist_31 (fun h => eF h ?_) (fun h => eT h ?_)
      · refine r_iconst ic_1 dX0_twist_36 ?_
        refine r_istore (l' := [.ref (ga g 1), .ref (ga g k1), .int p2, .int p3, .int p4, .int v1, .int 1, .null, .null]) dX0_twist_37 (Nat.le_of_ble_eq_true rfl) rfl rfl ?_
        refine vX0_twist_L39 _ _ _ _ _ _ hk1 (fun M12 => ?_) (fun e25 M26 => ?_) FU _ _
        · refine r_aload_n dX0_twist_151 rfl rfl ?_
          refine r_getR (k' := (k1 + 8)) dX0_twist_152 fl_X0_179 hk1 rfl ?_
          refine r_iload_n dX0_twist_155 rfl rfl ?_
          refine r_dup2 dX0_twist_156 rfl rfl ?_
          refine r_iald dX0_twist_157 (kx_9_8 hk1) (fun v13 => ?_)
          refine r_iconst ic_1 dX0_twist_158 ?_
          refine r_iload_n dX0_twist_159 rfl rfl ?_
          refine r_ishl dX0_twist_160 ?_
          refine r_ior dX0_twist_161 ?_
          refine r_iast dX0_twist_162 (kx_9_8 hk1) (fun M14 => ?_)
          refine r_aload_n dX0_twist_163 rfl rfl ?_
          refine r_aload_n dX0_twist_164 rfl rfl ?_
          refine r_iconst ic_0 dX0_twist_165 ?_
          refine r_iload_n dX0_twist_166 rfl rfl ?_
          refine r_iload dX0_twist_167 rfl ?_
          refine r_iload dX0_twist_169 rfl ?_
          refine r_callv (cl_V [.ref (ga g k1), .int 0, .int p2, .int v1, .int p4] bX0_note (by decide) dX0_twist_171 ml_X0_175 kdc_1 rfl (Nat.le_of_ble_eq_true rfl) rfl) (kX0_note hk1 _ _ _ _ _) (fun M15 _ => ?_)
          refine r_aload_n dX0_twist_174 rfl rfl ?_
          refine r_iload_n dX0_twist_175 rfl rfl ?_
          refine r_iconst ic_1 dX0_twist_176 ?_
          refine r_iload_n dX0_twist_177 rfl rfl ?_
          refine r_isub dX0_twist_178 ?_
          refine r_calli (cl_V [.int p2, .int (1 - p3)] bX9_whoIs (by decide) dX0_twist_179 ml_X0_81 hk1 rfl (Nat.le_of_ble_eq_true rfl) rfl) (kX9_whoIs hk1 _ _ _) (fun v16 _ => ?_)
          refine r_istore (l' := [.ref (ga g 1), .ref (ga g k1), .int p2, .int p3, .int p4, .int v1, .int v16, .null, .null]) dX0_twist_182 (Nat.le_of_ble_eq_true rfl) rfl rfl ?_
          refine r_aload_n dX0_twist_184 rfl rfl ?_
          refine r_getR (k' := (k1 + 8)) dX0_twist_185 fl_X0_179 hk1 rfl ?_
          refine r_iload_n dX0_twist_188 rfl rfl ?_
          refine r_iald dX0_twist_189 (kx_9_8 hk1) (fun v17 => ?_)
          refine r_iconst ic_3 dX0_twist_190 ?_
          refine r_icmp_ne dX0_twist_191 (fun h => eF h ?_) (fun h => eT h ?_)
          · refine r_iconst ic_0 dX0_twist_203 ?_
            exact vRet rfl rfl rfl dX0_twist_204
          · refine r_aload_n dX0_twist_194 rfl rfl ?_
            refine r_iload dX0_twist_195 rfl ?_
            refine r_calliT (cl_V [.int v16] bX9_hasPerson (by decide) dX0_twist_197 ml_X0_85 hk1 rfl (Nat.le_of_ble_eq_true rfl) rfl) (kX9_hasPerson hk1 _ _) ?_
            refine r_if_ne dX0_twist_200 (fun h => eF h ?_) (fun h => eT h ?_)
            · refine r_aload_n dX0_twist_205 rfl rfl ?_
              refine r_getR (k' := (k1 + 9)) dX0_twist_206 fl_X0_182 hk1 rfl ?_
              refine r_iload_n dX0_twist_209 rfl rfl ?_
              refine r_iconst ic_1 dX0_twist_210 ?_
              refine r_iast dX0_twist_211 (kx_9_9 hk1) (fun M18 => ?_)
              refine r_aload_n dX0_twist_212 rfl rfl ?_
              refine r_getR (k' := (k1 + 2)) dX0_twist_213 fl_X0_94 hk1 rfl ?_
              refine r_iload dX0_twist_216 rfl ?_
              refine r_dup2 dX0_twist_218 rfl rfl ?_
              refine r_iald dX0_twist_219 (kx_9_2 hk1) (fun v19 => ?_)
              refine r_iconst ic_1 dX0_twist_220 ?_
              refine r_iadd dX0_twist_221 ?_
              refine r_iast dX0_twist_222 (kx_9_2 hk1) (fun M20 => ?_)
              refine r_aload_n dX0_twist_223 rfl rfl ?_
              refine r_getR (k' := (k1 + 2)) dX0_twist_224 fl_X0_94 hk1 rfl ?_
              refine r_iload dX0_twist_227 rfl ?_
              refine r_dup2 dX0_twist_229 rfl rfl ?_
              refine r_iald dX0_twist_230 (kx_9_2 hk1) (fun v21 => ?_)
              refine r_iconst ic_1 dX0_twist_231 ?_
              refine r_iadd dX0_twist_232 ?_
              refine r_iast dX0_twist_233 (kx_9_2 hk1) (fun M22 => ?_)
              refine r_aload_n dX0_twist_234 rfl rfl ?_
              refine r_aload_n dX0_twist_235 rfl rfl ?_
              refine r_iconst ic_2 dX0_twist_236 ?_
              refine r_iload_n dX0_twist_237 rfl rfl ?_
              refine r_aload_n dX0_twist_238 rfl rfl ?_
              refine r_getR (k' := (k1 + 6)) dX0_twist_239 fl_X0_97 hk1 rfl ?_
              refine r_iload_n dX0_twist_242 rfl rfl ?_
              refine r_iald dX0_twist_243 (kx_9_6 hk1) (fun v23 => ?_)
              refine r_iload dX0_twist_244 rfl ?_
              refine r_callv (cl_V [.ref (ga g k1), .int 2, .int p2, .int v23, .int p4] bX0_note (by decide) dX0_twist_246 ml_X0_175 kdc_1 rfl (Nat.le_of_ble_eq_true rfl) rfl) (kX0_note hk1 _ _ _ _ _) (fun M24 _ => ?_)
              refine r_iconst ic_1 dX0_twist_249 ?_
              exact vRet rfl rfl rfl dX0_twist_250
            · refine r_iconst ic_0 dX0_twist_203 ?_
              exact vRet rfl rfl rfl dX0_twist_204
        · refine r_aload_n dX0_twist_112 rfl rfl ?_
          refine r_getR (k' := (k1 + 3)) dX0_twist_113 fl_X0_91 hk1 rfl ?_
          refine r_iload dX0_twist_116 rfl ?_
          refine r_dup2 dX0_twist_118 rfl rfl ?_
          refine r_iald dX0_twist_119 (kx_9_3 hk1) (fun v27 => ?_)
          refine r_aload_n dX0_twist_120 rfl rfl ?_
          refine r_iconst ic_2 dX0_twist_121 ?_
          refine r_aload_n dX0_twist_122 rfl rfl ?_
          refine r_iload_n dX0_twist_123 rfl rfl ?_
          refine r_iload_n dX0_twist_124 rfl rfl ?_
          refine r_iload dX0_twist_125 rfl ?_
          refine r_calli (cl_V [.int 2, .ref (ga g k1), .int p2, .int p3, .int e25] bX0_asked (by decide) dX0_twist_127 ml_X0_168 kdc_1 rfl (Nat.le_of_ble_eq_true rfl) rfl) (kX0_asked hk1 _ _ _ _ _) (fun r28 _ => ?_)
          refine r_iadd dX0_twist_130 ?_
          refine r_iast dX0_twist_131 (kx_9_3 hk1) (fun M29 => ?_)
          refine r_aload_n dX0_twist_132 rfl rfl ?_
          refine r_aload_n dX0_twist_133 rfl rfl ?_
          refine r_iconst ic_1 dX0_twist_134 ?_
          refine r_iload_n dX0_twist_135 rfl rfl ?_
          refine r_iload dX0_twist_136 rfl ?_
          refine r_iload dX0_twist_138 rfl ?_
          refine r_callv (cl_V [.ref (ga g k1), .int 1, .int p2, .int e25, .int p4] bX0_note (by decide) dX0_twist_140 ml_X0_175 kdc_1 rfl (Nat.le_of_ble_eq_true rfl) rfl) (kX0_note hk1 _ _ _ _ _) (fun M30 _ => ?_)
          refine r_iconst ic_0 dX0_twist_143 ?_
          exact vRet rfl rfl rfl dX0_twist_144
      · refine r_iconst ic_0 dX0_twist_34 ?_
        exact vRet rfl rfl rfl dX0_twist_35
theorem kX0_twist {g : G} {k1 : Nat} (hk1 : kd k1 = (9, 15)) (p2 : Int32) (p3 : Int32) (p4 : Int32) (M : Mem) : CtrI g uX0_twist 5 (fun r => r.1) rmW [.ref (ga g 1), .ref (ga g k1), .int p2, .int p3, .int p4] M (fX0_twist k1 p2 p3 p4 M) := CtrI.of mX0_twist rfl (Nat.le_of_ble_eq_true rfl) rfl (vX0_twist hk1 p2 p3 p4 M)
set_option maxHeartbeats 4000000 in
set_option maxRecDepth 100000 in
theorem vX9_makeClear {g : G} {k0 : Nat} (hk0 : kd k0 = (9, 15)) (p1 : Int32) (M : Mem) : V g uX9_makeClear 3 rvU rmU 0 [.ref (ga g k0), .int p1] [] M (fX9_makeClear k0 p1 M) := by
  unfold fX9_makeClear
  refine r_aload_n dX9_makeClear_0 rfl rfl ?_
  refine r_iload_n dX9_makeClear_1 rfl rfl ?_
  refine r_calli (cl_V [.int p1] bX9_canClear (by decide) dX9_makeClear_2 ml_X9_75 hk0 rfl (Nat.le_of_ble_eq_true rfl) rfl) (kX9_canClear hk0 _ _) (fun v1 _ => ?_)
  refine r_if_eq dX9_makeClear_5 (fun h => eT h ?_) (fun h => eF h ?_)
  · exact vRet rfl rfl trivial dX9_makeClear_23
  · refine r_aload_n dX9_makeClear_8 rfl rfl ?_
    refine r_getR (k' := (k0 + 7)) dX9_makeClear_9 fl_X9_30 hk0 rfl ?_
    refine r_iload_n dX9_makeClear_12 rfl rfl ?_
    refine r_bipush bp_9 dX9_makeClear_13 ?_
    refine r_iast dX9_makeClear_15 (kx_9_7 hk0) (fun M2 => ?_)
    refine r_aload_n dX9_makeClear_16 rfl rfl ?_
    refine r_getR (k' := (k0 + 9)) dX9_makeClear_17 fl_X9_36 hk0 rfl ?_
    refine r_iload_n dX9_makeClear_20 rfl rfl ?_
    refine r_iconst ic_0 dX9_makeClear_21 ?_
    refine r_iast dX9_makeClear_22 (kx_9_9 hk0) (fun M3 => ?_)
    exact vRet rfl rfl trivial dX9_makeClear_23
theorem kX9_makeClear {g : G} {k0 : Nat} (hk0 : kd k0 = (9, 15)) (p1 : Int32) (M : Mem) : CtrV g uX9_makeClear 3 rmU [.ref (ga g k0), .int p1] M (fX9_makeClear k0 p1 M) := CtrV.of mX9_makeClear rfl (Nat.le_of_ble_eq_true rfl) rfl (vX9_makeClear hk0 p1 M)
set_option maxHeartbeats 4000000 in
set_option maxRecDepth 100000 in
theorem vX0_blurAway {g : G} {k1 : Nat} (hk1 : kd k1 = (9, 15)) (p2 : Int32) (p3 : Int32) (M : Mem) : V g uX0_blurAway 3 rvU rmU 0 [.ref (ga g 1), .ref (ga g k1), .int p2, .int p3] [] M (fX0_blurAway k1 p2 p3 M) := by
  unfold fX0_blurAway
  refine r_aload_n dX0_blurAway_0 rfl rfl ?_
  refine r_iload_n dX0_blurAway_1 rfl rfl ?_
  refine r_calli (cl_V [.int p2] bX9_isOpen (by decide) dX0_blurAway_2 ml_X0_161 hk1 rfl (Nat.le_of_ble_eq_true rfl) rfl) (kX9_isOpen hk1 _ _) (fun v1 _ => ?_)
  refine r_if_ne dX0_blurAway_5 (fun h => eF h ?_) (fun h => eT h ?_)
  · refine r_aload_n dX0_blurAway_9 rfl rfl ?_
    refine r_aload_n dX0_blurAway_10 rfl rfl ?_
    refine r_iconst ic_3 dX0_blurAway_11 ?_
    refine r_iload_n dX0_blurAway_12 rfl rfl ?_
    refine r_aload_n dX0_blurAway_13 rfl rfl ?_
    refine r_getR (k' := (k1 + 8)) dX0_blurAway_14 fl_X0_179 hk1 rfl ?_
    refine r_iload_n dX0_blurAway_17 rfl rfl ?_
    refine r_iald dX0_blurAway_18 (kx_9_8 hk1) (fun v2 => ?_)
    refine r_calliT (cl_S [.int v2] bJ6_bitCount_0f7a4 (by decide) dX0_blurAway_19 ml_X0_113 rfl (Nat.le_of_ble_eq_true rfl) rfl) (kJ6_bitCount_0f7a4 _ _) ?_
    refine r_iload_n dX0_blurAway_22 rfl rfl ?_
    refine r_callv (cl_V [.ref (ga g k1), .int 3, .int p2, .int (fJ6_bitCount_0f7a4 v2), .int p3] bX0_note (by decide) dX0_blurAway_23 ml_X0_175 kdc_1 rfl (Nat.le_of_ble_eq_true rfl) rfl) (kX0_note hk1 _ _ _ _ _) (fun M3 _ => ?_)
    refine r_aload_n dX0_blurAway_26 rfl rfl ?_
    refine r_getR (k' := (k1 + 7)) dX0_blurAway_27 fl_X0_100 hk1 rfl ?_
    refine r_iload_n dX0_blurAway_30 rfl rfl ?_
    refine r_iconst ic_0 dX0_blurAway_31 ?_
    refine r_iast dX0_blurAway_32 (kx_9_7 hk1) (fun M4 => ?_)
    refine r_aload_n dX0_blurAway_33 rfl rfl ?_
    refine r_getR (k' := (k1 + 9)) dX0_blurAway_34 fl_X0_182 hk1 rfl ?_
    refine r_iload_n dX0_blurAway_37 rfl rfl ?_
    refine r_iconst ic_2 dX0_blurAway_38 ?_
    refine r_iast dX0_blurAway_39 (kx_9_9 hk1) (fun M5 => ?_)
    refine r_aload_n dX0_blurAway_40 rfl rfl ?_
    refine r_getR (k' := (k1 + 8)) dX0_blurAway_41 fl_X0_179 hk1 rfl ?_
    refine r_iload_n dX0_blurAway_44 rfl rfl ?_
    refine r_iconst ic_0 dX0_blurAway_45 ?_
    refine r_iast dX0_blurAway_46 (kx_9_8 hk1) (fun M6 => ?_)
    exact vRet rfl rfl trivial dX0_blurAway_47
  · exact vRet rfl rfl trivial dX0_blurAway_8
theorem kX0_blurAway {g : G} {k1 : Nat} (hk1 : kd k1 = (9, 15)) (p2 : Int32) (p3 : Int32) (M : Mem) : CtrV g uX0_blurAway 3 rmU [.ref (ga g 1), .ref (ga g k1), .int p2, .int p3] M (fX0_blurAway k1 p2 p3 M) := CtrV.of mX0_blurAway rfl (Nat.le_of_ble_eq_true rfl) rfl (vX0_blurAway hk1 p2 p3 M)
set_option maxHeartbeats 4000000 in
set_option maxRecDepth 100000 in
theorem vX11_act {g : G}   (p1 : Int32) (p2 : Int32) (M : Mem) : V g uX11_act 6 rvW rmW 0 [.ref (ga g 0), .int p1, .int p2, .null] [] M (fX11_act p1 p2 M) := by
  unfold fX11_act
  refine r_aload_n dX11_act_0 rfl rfl ?_
  refine r_getR (k' := 1) dX11_act_1 fl_X11_12 kdc_0 rfl ?_
  refine r_getR (k' := 2) dX11_act_4 fl_X11_61 kdc_1 rfl ?_
  refine r_astore_n (l' := [.ref (ga g 0), .int p1, .int p2, .ref (ga g 2)]) dX11_act_7 rfl (Nat.le_of_ble_eq_true rfl) rfl rfl ?_
  refine r_aload_n dX11_act_8 rfl rfl ?_
  refine r_iload_n dX11_act_9 rfl rfl ?_
  refine r_iload_n dX11_act_10 rfl rfl ?_
  refine r_calli (cl_V [.int p1, .int p2] bX11_canAct (by decide) dX11_act_11 ml_X11_113 kdc_0 rfl (Nat.le_of_ble_eq_true rfl) rfl) (kX11_canAct _ _ _) (fun v1 _ => ?_)
  refine r_if_ne dX11_act_14 (fun h => eF h ?_) (fun h => eT h ?_)
  · refine r_aload_n dX11_act_19 rfl rfl ?_
    refine r_getR (k' := 105) dX11_act_20 fl_X11_22 kdc_0 rfl ?_
    refine r_aload_n dX11_act_23 rfl rfl ?_
    refine r_aload_n dX11_act_24 rfl rfl ?_
    refine r_getR (k' := 1) dX11_act_25 fl_X11_12 kdc_0 rfl ?_
    refine r_getR (k' := 12) dX11_act_28 fl_X11_116 kdc_1 rfl ?_
    refine r_getI dX11_act_31 fl_X11_120 kdc_12 ?_
    refine r_callv (cl_V [.ref (ga g 2), .int (M 12 0)] bX6_keep (by decide) dX11_act_34 ml_X11_125 kdc_105 rfl (Nat.le_of_ble_eq_true rfl) rfl) (kX6_keep _ _) (fun M2 _ => ?_)
    refine r_iload_n dX11_act_37 rfl rfl ?_
    refine r_iconst ic_1 dX11_act_38 ?_
    refine r_icmp_gt dX11_act_39 (fun h => eT h ?_) (fun h => eF h ?_)
    · refine r_iload_n dX11_act_57 rfl rfl ?_
      refine r_iconst ic_2 dX11_act_58 ?_
      refine r_icmp_ne dX11_act_59 (fun h => eF h ?_) (fun h => eT h ?_)
      · refine r_iload_n dX11_act_70 rfl rfl ?_
        refine r_iconst ic_3 dX11_act_71 ?_
        refine r_icmp_ne dX11_act_72 (fun h => eF h ?_) (fun h => eT h ?_)
        · refine r_aload_n dX11_act_88 rfl rfl ?_
          refine r_getR (k' := 5) dX11_act_89 fl_X11_140 kdc_2 rfl ?_
          refine r_iload_n dX11_act_92 rfl rfl ?_
          refine r_dup2 dX11_act_93 rfl rfl ?_
          refine r_iald dX11_act_94 kdc_5 (fun v3 => ?_)
          refine r_iconst ic_1 dX11_act_95 ?_
          refine r_isub dX11_act_96 ?_
          refine r_iast dX11_act_97 kdc_5 (fun M4 => ?_)
          refine r_iconst ic_1 dX11_act_98 ?_
          exact vRet rfl rfl rfl dX11_act_99
        · refine r_aload_n dX11_act_75 rfl rfl ?_
          refine r_getR (k' := 1) dX11_act_76 fl_X11_12 kdc_0 rfl ?_
          refine r_aload_n dX11_act_79 rfl rfl ?_
          refine r_iload_n dX11_act_80 rfl rfl ?_
          refine r_iconst ic_0 dX11_act_81 ?_
          refine r_callv (cl_V [.ref (ga g 2), .int p2, .int 0] bX0_blurAway (by decide) dX11_act_82 ml_X11_136 kdc_1 rfl (Nat.le_of_ble_eq_true rfl) rfl) (kX0_blurAway kdc_2 _ _ _) (fun M5 _ => ?_)
          refine r_goto dX11_act_85 ?_
          refine r_iconst ic_1 dX11_act_98 ?_
          exact vRet rfl rfl rfl dX11_act_99
      · refine r_aload_n dX11_act_62 rfl rfl ?_
        refine r_iload_n dX11_act_63 rfl rfl ?_
        refine r_callv (cl_V [.int p2] bX9_makeClear (by decide) dX11_act_64 ml_X11_133 kdc_2 rfl (Nat.le_of_ble_eq_true rfl) rfl) (kX9_makeClear kdc_2 _ _) (fun M6 _ => ?_)
        refine r_goto dX11_act_67 ?_
        refine r_iconst ic_1 dX11_act_98 ?_
        exact vRet rfl rfl rfl dX11_act_99
    · refine r_aload_n dX11_act_42 rfl rfl ?_
      refine r_getR (k' := 1) dX11_act_43 fl_X11_12 kdc_0 rfl ?_
      refine r_aload_n dX11_act_46 rfl rfl ?_
      refine r_iload_n dX11_act_47 rfl rfl ?_
      refine r_iload_n dX11_act_48 rfl rfl ?_
      refine r_iconst ic_0 dX11_act_49 ?_
      refine r_calli (cl_V [.ref (ga g 2), .int p2, .int p1, .int 0] bX0_twist (by decide) dX11_act_50 ml_X11_129 kdc_1 rfl (Nat.le_of_ble_eq_true rfl) rfl) (kX0_twist kdc_2 _ _ _ _) (fun r7 _ => ?_)
      refine r_pop dX11_act_53 rfl ?_
      refine r_goto dX11_act_54 ?_
      refine r_iconst ic_1 dX11_act_98 ?_
      exact vRet rfl rfl rfl dX11_act_99
  · refine r_iconst ic_0 dX11_act_17 ?_
    exact vRet rfl rfl rfl dX11_act_18
theorem kX11_act {g : G}   (p1 : Int32) (p2 : Int32) (M : Mem) : CtrI g uX11_act 6 (fun r => r.1) rmW [.ref (ga g 0), .int p1, .int p2] M (fX11_act p1 p2 M) := CtrI.of mX11_act rfl (Nat.le_of_ble_eq_true rfl) rfl (vX11_act p1 p2 M)
set_option maxHeartbeats 4000000 in
set_option maxRecDepth 100000 in
theorem vX12_has {g : G}   (p1 : Int32) (p2 : Int32) (M : Mem) : V g uX12_has 1 rvI (rmP M) 0 [.ref (ga g 198), .int p1, .int p2] [] M (some (fX12_has p1 p2)) := by
  unfold fX12_has
  refine r_iload_n dX12_has_0 rfl rfl ?_
  refine r_iload_n dX12_has_1 rfl rfl ?_
  refine r_ishr dX12_has_2 ?_
  refine r_iconst ic_1 dX12_has_3 ?_
  refine r_iand dX12_has_4 ?_
  refine r_iconst ic_1 dX12_has_5 ?_
  refine r_icmp_ne dX12_has_6 (fun h => eFT h ?_) (fun h => eTT h ?_)
  · refine r_iconst ic_0 dX12_has_13 ?_
    exact vRet rfl rfl rfl dX12_has_14
  · refine r_iconst ic_1 dX12_has_9 ?_
    refine r_goto dX12_has_10 ?_
    exact vRet rfl rfl rfl dX12_has_14
theorem zX12_has (p1 : Int32) (p2 : Int32) : fX12_has p1 p2 = 0 ∨ fX12_has p1 p2 = 1 := by
  unfold fX12_has
  repeat' split
  all_goals first | exact Or.inl rfl | exact Or.inr rfl
theorem kX12_has {g : G}   (p1 : Int32) (p2 : Int32) (M : Mem) : CtrI g uX12_has 1 (fun r => r) (rmP M) [.ref (ga g 198), .int p1, .int p2] M (some (fX12_has p1 p2)) := CtrI.of mX12_has rfl (Nat.le_of_ble_eq_true rfl) rfl (vX12_has p1 p2 M)
set_option maxHeartbeats 4000000 in
set_option maxRecDepth 100000 in
theorem vX12_canHop {g : G}   (p1 : Int32) (p2 : Int32) (M : Mem) : V g uX12_canHop 2 rvI (rmP M) 0 [.ref (ga g 198), .int p1, .int p2] [] M (fX12_canHop p1 p2 M) := by
  unfold fX12_canHop
  refine r_aload_n dX12_canHop_0 rfl rfl ?_
  refine r_getR (k' := 199) dX12_canHop_1 fl_X12_7 kdc_198 rfl ?_
  refine r_bipush bp_69 dX12_canHop_4 ?_
  refine r_iload_n dX12_canHop_6 rfl rfl ?_
  refine r_iadd dX12_canHop_7 ?_
  refine r_iald dX12_canHop_8 kdc_199 (fun v1 => ?_)
  refine r_if_ne dX12_canHop_9 (fun h => eF h ?_) (fun h => eT h ?_)
  · refine r_iconst ic_0 dX12_canHop_33 ?_
    exact vRet rfl rfl rfl dX12_canHop_34
  · refine r_aload_n dX12_canHop_12 rfl rfl ?_
    refine r_aload_n dX12_canHop_13 rfl rfl ?_
    refine r_getR (k' := 199) dX12_canHop_14 fl_X12_7 kdc_198 rfl ?_
    refine r_bipush bp_55 dX12_canHop_17 ?_
    refine r_iload_n dX12_canHop_19 rfl rfl ?_
    refine r_iadd dX12_canHop_20 ?_
    refine r_iald dX12_canHop_21 kdc_199 (fun v2 => ?_)
    refine r_iload_n dX12_canHop_22 rfl rfl ?_
    refine r_calliT (cl_V [.int v2, .int p2] bX12_has (by decide) dX12_canHop_23 ml_X12_330 kdc_198 rfl (Nat.le_of_ble_eq_true rfl) rfl) (kX12_has _ _ _) ?_
    refine r_if_ne dX12_canHop_26 (fun h => eF h ?_) (fun h => eT h ?_)
    · refine r_iconst ic_0 dX12_canHop_33 ?_
      exact vRet rfl rfl rfl dX12_canHop_34
    · refine r_iconst ic_1 dX12_canHop_29 ?_
      refine r_goto dX12_canHop_30 ?_
      exact vRet rfl rfl rfl dX12_canHop_34
theorem kX12_canHop {g : G}   (p1 : Int32) (p2 : Int32) (M : Mem) : CtrI g uX12_canHop 2 (fun r => r) (rmP M) [.ref (ga g 198), .int p1, .int p2] M (fX12_canHop p1 p2 M) := CtrI.of mX12_canHop rfl (Nat.le_of_ble_eq_true rfl) rfl (vX12_canHop p1 p2 M)
set_option maxHeartbeats 4000000 in
set_option maxRecDepth 100000 in
theorem vX12_canAct {g : G}   (p1 : Int32) (p2 : Int32) (M : Mem) : V g uX12_canAct 3 rvI (rmP M) 0 [.ref (ga g 198), .int p1, .int p2] [] M (fX12_canAct p1 p2 M) := by
  unfold fX12_canAct
  refine r_iload_n dX12_canAct_0 rfl rfl ?_
  refine r_iconst ic_4 dX12_canAct_1 ?_
  refine r_icmp_ne dX12_canAct_2 (fun h => eF h ?_) (fun h => eT h ?_)
  · refine r_aload_n dX12_canAct_31 rfl rfl ?_
    refine r_iload_n dX12_canAct_32 rfl rfl ?_
    refine r_calliT (cl_V [.int p2] bX12_isBargain (by decide) dX12_canAct_33 ml_X12_148 kdc_198 rfl (Nat.le_of_ble_eq_true rfl) rfl) (kX12_isBargain _ _) ?_
    refine r_if_ne dX12_canAct_36 (fun h => eF h ?_) (fun h => eT h ?_)
    · refine r_iload_n dX12_canAct_41 rfl rfl ?_
      refine eJ (fun (J1 : Option (Int32)) => V g uX12_canAct 3 rvI (rmP M) 50 [.ref (ga g 198), .int p1, .int p2] [] M (J1)) ( ?_) (fun J1 hJ1 => ?_)
      · refine r_aload_n dX12_canAct_50 rfl rfl ?_
        refine r_iload_n dX12_canAct_51 rfl rfl ?_
        refine r_iload_n dX12_canAct_52 rfl rfl ?_
        refine r_calli (cl_V [.int p2, .int p1] bX12_canHop (by decide) dX12_canAct_53 ml_X12_349 kdc_198 rfl (Nat.le_of_ble_eq_true rfl) rfl) (kX12_canHop _ _ _) (fun v2 _ => ?_)
        exact vRetZ rfl rfl rfl dX12_canAct_56
      · refine r_if_eq dX12_canAct_42 (fun h => eT h ?_) (fun h => eF h ?_)
        · exact hJ1
        · refine r_iload_n dX12_canAct_45 rfl rfl ?_
          refine r_iconst ic_1 dX12_canAct_46 ?_
          refine r_icmp_ne dX12_canAct_47 (fun h => eF h ?_) (fun h => eT h ?_)
          · refine r_iload_n dX12_canAct_57 rfl rfl ?_
            refine r_iconst ic_2 dX12_canAct_58 ?_
            refine eJ (fun (J3 : Option (Int32)) => V g uX12_canAct 3 rvI (rmP M) 89 [.ref (ga g 198), .int p1, .int p2] [] M (J3)) ( ?_) (fun J3 hJ3 => ?_)
            · refine r_iload_n dX12_canAct_89 rfl rfl ?_
              refine r_iconst ic_3 dX12_canAct_90 ?_
              refine r_icmp_ne dX12_canAct_91 (fun h => eF h ?_) (fun h => eT h ?_)
              · refine r_iconst ic_0 dX12_canAct_110 ?_
                exact vRet rfl rfl rfl dX12_canAct_111
              · refine r_aload_n dX12_canAct_94 rfl rfl ?_
                refine r_getR (k' := 199) dX12_canAct_95 fl_X12_7 kdc_198 rfl ?_
                refine r_bipush bp_69 dX12_canAct_98 ?_
                refine r_iload_n dX12_canAct_100 rfl rfl ?_
                refine r_iadd dX12_canAct_101 ?_
                refine r_iald dX12_canAct_102 kdc_199 (fun v4 => ?_)
                refine r_if_ne dX12_canAct_103 (fun h => eF h ?_) (fun h => eT h ?_)
                · refine r_iconst ic_0 dX12_canAct_110 ?_
                  exact vRet rfl rfl rfl dX12_canAct_111
                · refine r_iconst ic_1 dX12_canAct_106 ?_
                  refine r_goto dX12_canAct_107 ?_
                  exact vRet rfl rfl rfl dX12_canAct_111
            · refine r_icmp_ne dX12_canAct_59 (fun h => eF h ?_) (fun h => eT h ?_)
              · exact hJ3
              · refine r_aload_n dX12_canAct_62 rfl rfl ?_
                refine r_getR (k' := 199) dX12_canAct_63 fl_X12_7 kdc_198 rfl ?_
                refine r_bipush bp_69 dX12_canAct_66 ?_
                refine r_iload_n dX12_canAct_68 rfl rfl ?_
                refine r_iadd dX12_canAct_69 ?_
                refine r_iald dX12_canAct_70 kdc_199 (fun v5 => ?_)
                refine r_iconst ic_1 dX12_canAct_71 ?_
                refine r_icmp_eq dX12_canAct_72 (fun h => eT h ?_) (fun h => eF h ?_)
                · exact hJ3
                · refine r_aload_n dX12_canAct_75 rfl rfl ?_
                  refine r_getR (k' := 199) dX12_canAct_76 fl_X12_7 kdc_198 rfl ?_
                  refine r_bipush bp_41 dX12_canAct_79 ?_
                  refine r_iload_n dX12_canAct_81 rfl rfl ?_
                  refine r_iadd dX12_canAct_82 ?_
                  refine r_iald dX12_canAct_83 kdc_199 (fun v6 => ?_)
                  refine r_bipush bp_9 dX12_canAct_84 ?_
                  refine r_icmp_lt dX12_canAct_86 (fun h => eT h ?_) (fun h => eF h ?_)
                  · refine r_iconst ic_1 dX12_canAct_106 ?_
                    refine r_goto dX12_canAct_107 ?_
                    exact vRet rfl rfl rfl dX12_canAct_111
                  · exact hJ3
          · exact hJ1
    · refine r_iconst ic_0 dX12_canAct_39 ?_
      exact vRet rfl rfl rfl dX12_canAct_40
  · refine r_aload_n dX12_canAct_5 rfl rfl ?_
    refine r_iload_n dX12_canAct_6 rfl rfl ?_
    refine r_calliT (cl_V [.int p2] bX12_isPerson (by decide) dX12_canAct_7 ml_X12_144 kdc_198 rfl (Nat.le_of_ble_eq_true rfl) rfl) (kX12_isPerson _ _) ?_
    refine r_if_eq dX12_canAct_10 (fun h => eT h ?_) (fun h => eF h ?_)
    · refine r_iconst ic_0 dX12_canAct_29 ?_
      exact vRet rfl rfl rfl dX12_canAct_30
    · refine r_aload_n dX12_canAct_13 rfl rfl ?_
      refine r_getR (k' := 199) dX12_canAct_14 fl_X12_7 kdc_198 rfl ?_
      refine r_bipush bp_29 dX12_canAct_17 ?_
      refine r_iload_n dX12_canAct_19 rfl rfl ?_
      refine r_iadd dX12_canAct_20 ?_
      refine r_iald dX12_canAct_21 kdc_199 (fun v7 => ?_)
      refine r_if_le dX12_canAct_22 (fun h => eT h ?_) (fun h => eF h ?_)
      · refine r_iconst ic_0 dX12_canAct_29 ?_
        exact vRet rfl rfl rfl dX12_canAct_30
      · refine r_iconst ic_1 dX12_canAct_25 ?_
        refine r_goto dX12_canAct_26 ?_
        exact vRet rfl rfl rfl dX12_canAct_30
theorem kX12_canAct {g : G}   (p1 : Int32) (p2 : Int32) (M : Mem) : CtrI g uX12_canAct 3 (fun r => r) (rmP M) [.ref (ga g 198), .int p1, .int p2] M (fX12_canAct p1 p2 M) := CtrI.of mX12_canAct rfl (Nat.le_of_ble_eq_true rfl) rfl (vX12_canAct p1 p2 M)
set_option maxHeartbeats 4000000 in
set_option maxRecDepth 100000 in
theorem vX12_keepsAhead_L55 {g : G}  (K87 : Mem → Option (Mem))    (hK87 : ∀ (M : Mem), V g uX12_keepsAhead 1 rvU rmU 87 [.ref (ga g 198), .null] [] M (K87 M)) : ∀ (n : Nat) (y1 : Int32) (M : Mem), V g uX12_keepsAhead 1 rvU rmU 55 [.ref (ga g 198), .int y1] [] M (fX12_keepsAhead_L55 K87 n y1 M) := by
  intro n
  induction n with
  | zero => intro y1 M; exact vNone
  | succ n ih =>
    intro y1 M
    rw [fX12_keepsAhead_L55]
    refine r_iload_n dX12_keepsAhead_55 rfl rfl ?_
    refine r_bipush bp_83 dX12_keepsAhead_56 ?_
    refine r_icmp_ge dX12_keepsAhead_58 (fun h => eT h ?_) (fun h => eF h ?_)
    · exact vSub (l' := [.ref (ga g 198), .null]) ⟨Or.inr rfl, ⟨Or.inl rfl, trivial⟩⟩ (hK87 _)
    · refine r_aload_n dX12_keepsAhead_61 rfl rfl ?_
      refine r_getR (k' := 200) dX12_keepsAhead_62 fl_X12_13 kdc_198 rfl ?_
      refine r_bipush bp_83 dX12_keepsAhead_65 ?_
      refine r_aload_n dX12_keepsAhead_67 rfl rfl ?_
      refine r_getI dX12_keepsAhead_68 fl_X12_125 kdc_198 ?_
      refine r_imul dX12_keepsAhead_71 ?_
      refine r_iload_n dX12_keepsAhead_72 rfl rfl ?_
      refine r_iadd dX12_keepsAhead_73 ?_
      refine r_aload_n dX12_keepsAhead_74 rfl rfl ?_
      refine r_getR (k' := 199) dX12_keepsAhead_75 fl_X12_7 kdc_198 rfl ?_
      refine r_iload_n dX12_keepsAhead_78 rfl rfl ?_
      refine r_iald dX12_keepsAhead_79 kdc_199 (fun v3 => ?_)
      refine r_iast dX12_keepsAhead_80 kdc_200 (fun M4 => ?_)
      refine r_iinc (l' := [.ref (ga g 198), .int (y1 + 1)]) dX12_keepsAhead_81 rfl (inc_1 _) (Nat.le_of_ble_eq_true rfl) rfl rfl ?_
      refine r_goto dX12_keepsAhead_84 ?_
      exact ih _ _
set_option maxHeartbeats 4000000 in
set_option maxRecDepth 100000 in
theorem vX12_keepsAhead_L21 {g : G}  (K53 : Mem → Option (Mem))    (hK53 : ∀ (M : Mem), V g uX12_keepsAhead 1 rvU rmU 53 [.ref (ga g 198), .null] [] M (K53 M)) : ∀ (n : Nat) (y1 : Int32) (M : Mem), V g uX12_keepsAhead 1 rvU rmU 21 [.ref (ga g 198), .int y1] [] M (fX12_keepsAhead_L21 K53 n y1 M) := by
  intro n
  induction n with
  | zero => intro y1 M; exact vNone
  | succ n ih =>
    intro y1 M
    rw [fX12_keepsAhead_L21]
    refine r_iload_n dX12_keepsAhead_21 rfl rfl ?_
    refine r_bipush bp_83 dX12_keepsAhead_22 ?_
    refine r_aload_n dX12_keepsAhead_24 rfl rfl ?_
    refine r_getI dX12_keepsAhead_25 fl_X12_125 kdc_198 ?_
    refine r_imul dX12_keepsAhead_28 ?_
    refine r_icmp_ge dX12_keepsAhead_29 (fun h => eT h ?_) (fun h => eF h ?_)
    · exact vSub (l' := [.ref (ga g 198), .null]) ⟨Or.inr rfl, ⟨Or.inl rfl, trivial⟩⟩ (hK53 _)
    · refine r_aload_n dX12_keepsAhead_32 rfl rfl ?_
      refine r_getR (k' := 200) dX12_keepsAhead_33 fl_X12_13 kdc_198 rfl ?_
      refine r_iload_n dX12_keepsAhead_36 rfl rfl ?_
      refine r_aload_n dX12_keepsAhead_37 rfl rfl ?_
      refine r_getR (k' := 200) dX12_keepsAhead_38 fl_X12_13 kdc_198 rfl ?_
      refine r_iload_n dX12_keepsAhead_41 rfl rfl ?_
      refine r_bipush bp_83 dX12_keepsAhead_42 ?_
      refine r_iadd dX12_keepsAhead_44 ?_
      refine r_iald dX12_keepsAhead_45 kdc_200 (fun v8 => ?_)
      refine r_iast dX12_keepsAhead_46 kdc_200 (fun M9 => ?_)
      refine r_iinc (l' := [.ref (ga g 198), .int (y1 + 1)]) dX12_keepsAhead_47 rfl (inc_1 _) (Nat.le_of_ble_eq_true rfl) rfl rfl ?_
      refine r_goto dX12_keepsAhead_50 ?_
      exact ih _ _
set_option maxHeartbeats 4000000 in
set_option maxRecDepth 100000 in
theorem vX12_keepsAhead {g : G}    (M : Mem) : V g uX12_keepsAhead 1 rvU rmU 0 [.ref (ga g 198), .null] [] M (fX12_keepsAhead M) := by
  unfold fX12_keepsAhead
  refine r_aload_n dX12_keepsAhead_0 rfl rfl ?_
  refine r_getI dX12_keepsAhead_1 fl_X12_125 kdc_198 ?_
  refine r_bipush bp_6 dX12_keepsAhead_4 ?_
  refine eJ (fun (J1 : (Mem) → Option (Mem)) => ∀ (M2 : Mem), V g uX12_keepsAhead 1 rvU rmU 53 [.ref (ga g 198), .null] [] M2 (J1 M2)) (fun M2 => ?_) (fun J1 hJ1 => ?_)
  · refine r_iconst ic_0 dX12_keepsAhead_53 ?_
    refine r_istore_n (l' := [.ref (ga g 198), .int 0]) dX12_keepsAhead_54 rfl (Nat.le_of_ble_eq_true rfl) rfl rfl ?_
    refine vX12_keepsAhead_L55 _ (fun M5 => ?_) FU _ _
    · refine r_aload_n dX12_keepsAhead_87 rfl rfl ?_
      refine r_aload_n dX12_keepsAhead_88 rfl rfl ?_
      refine r_getI dX12_keepsAhead_89 fl_X12_125 kdc_198 ?_
      refine r_iconst ic_1 dX12_keepsAhead_92 ?_
      refine r_iadd dX12_keepsAhead_93 ?_
      refine r_put dX12_keepsAhead_94 fw_X12_125 kdc_198 (fun M6 => ?_)
      exact vRet rfl rfl trivial dX12_keepsAhead_97
  · refine r_icmp_ne dX12_keepsAhead_6 (fun h => eF h ?_) (fun h => eT h ?_)
    · exact hJ1 _
    · refine r_aload_n dX12_keepsAhead_9 rfl rfl ?_
      refine r_aload_n dX12_keepsAhead_10 rfl rfl ?_
      refine r_getI dX12_keepsAhead_11 fl_X12_125 kdc_198 ?_
      refine r_iconst ic_1 dX12_keepsAhead_14 ?_
      refine r_isub dX12_keepsAhead_15 ?_
      refine r_put dX12_keepsAhead_16 fw_X12_125 kdc_198 (fun M7 => ?_)
      refine r_iconst ic_0 dX12_keepsAhead_19 ?_
      refine r_istore_n (l' := [.ref (ga g 198), .int 0]) dX12_keepsAhead_20 rfl (Nat.le_of_ble_eq_true rfl) rfl rfl ?_
      refine vX12_keepsAhead_L21 _ (fun M10 => ?_) FU _ _
      · exact hJ1 _
theorem kX12_keepsAhead {g : G}    (M : Mem) : CtrV g uX12_keepsAhead 1 rmU [.ref (ga g 198)] M (fX12_keepsAhead M) := CtrV.of mX12_keepsAhead rfl (Nat.le_of_ble_eq_true rfl) rfl (vX12_keepsAhead M)
set_option maxHeartbeats 4000000 in
set_option maxRecDepth 100000 in
theorem vX12_hopperOf {g : G}   (p1 : Int32) (p2 : Int32) (M : Mem) : V g uX12_hopperOf 1 rvI (rmP M) 0 [.ref (ga g 198), .int p1, .int p2] [] M (fX12_hopperOf p1 p2 M) := by
  unfold fX12_hopperOf
  refine r_iload_n dX12_hopperOf_0 rfl rfl ?_
  refine r_if_ne dX12_hopperOf_1 (fun h => eF h ?_) (fun h => eT h ?_)
  · refine r_aload_n dX12_hopperOf_13 rfl rfl ?_
    refine r_getR (k' := 203) dX12_hopperOf_14 fl_X12_22 kdc_198 rfl ?_
    refine r_iload_n dX12_hopperOf_17 rfl rfl ?_
    refine r_iald dX12_hopperOf_18 kdc_203 (fun v1 => ?_)
    exact vRet rfl rfl rfl dX12_hopperOf_19
  · refine r_aload_n dX12_hopperOf_4 rfl rfl ?_
    refine r_getR (k' := 202) dX12_hopperOf_5 fl_X12_19 kdc_198 rfl ?_
    refine r_iload_n dX12_hopperOf_8 rfl rfl ?_
    refine r_iald dX12_hopperOf_9 kdc_202 (fun v2 => ?_)
    refine r_goto dX12_hopperOf_10 ?_
    exact vRet rfl rfl rfl dX12_hopperOf_19
theorem kX12_hopperOf {g : G}   (p1 : Int32) (p2 : Int32) (M : Mem) : CtrI g uX12_hopperOf 1 (fun r => r) (rmP M) [.ref (ga g 198), .int p1, .int p2] M (fX12_hopperOf p1 p2 M) := CtrI.of mX12_hopperOf rfl (Nat.le_of_ble_eq_true rfl) rfl (vX12_hopperOf p1 p2 M)
set_option maxHeartbeats 4000000 in
set_option maxRecDepth 100000 in
theorem vX12_onesOf_L4 {g : G}     (M : Mem)   : ∀ (n : Nat) (y2 : Int32) (y3 : Int32), V g uX12_onesOf 1 rvI (rmP M) 4 [.null, .null, .int y2, .int y3] [] M (fX12_onesOf_L4 n y2 y3) := by
  intro n
  induction n with
  | zero => intro y2 y3; exact vNone
  | succ n ih =>
    intro y2 y3
    rw [fX12_onesOf_L4]
    refine r_iload_n dX12_onesOf_4 rfl rfl ?_
    refine r_if_eq dX12_onesOf_5 (fun h => eT h ?_) (fun h => eF h ?_)
    · refine r_iload_n dX12_onesOf_21 rfl rfl ?_
      exact vRet rfl rfl rfl dX12_onesOf_22
    · refine r_iload_n dX12_onesOf_8 rfl rfl ?_
      refine r_iconst ic_1 dX12_onesOf_9 ?_
      refine r_iadd dX12_onesOf_10 ?_
      refine r_bndi (fun x1 => ?_)
      refine r_istore_n (l' := [.null, .null, .int x1, .int y3]) dX12_onesOf_11 rfl (Nat.le_of_ble_eq_true rfl) rfl rfl ?_
      refine r_iload_n dX12_onesOf_12 rfl rfl ?_
      refine r_iload_n dX12_onesOf_13 rfl rfl ?_
      refine r_iconst ic_1 dX12_onesOf_14 ?_
      refine r_isub dX12_onesOf_15 ?_
      refine r_iand dX12_onesOf_16 ?_
      refine r_bndi (fun x2 => ?_)
      refine r_istore_n (l' := [.null, .null, .int x1, .int x2]) dX12_onesOf_17 rfl (Nat.le_of_ble_eq_true rfl) rfl rfl ?_
      refine r_goto dX12_onesOf_18 ?_
      exact ih _ _
set_option maxHeartbeats 4000000 in
set_option maxRecDepth 100000 in
theorem vX12_onesOf {g : G}   (p1 : Int32) (M : Mem) : V g uX12_onesOf 1 rvI (rmP M) 0 [.ref (ga g 198), .int p1, .null, .null] [] M (fX12_onesOf p1) := by
  unfold fX12_onesOf
  refine r_iconst ic_0 dX12_onesOf_0 ?_
  refine r_istore_n (l' := [.ref (ga g 198), .int p1, .int 0, .null]) dX12_onesOf_1 rfl (Nat.le_of_ble_eq_true rfl) rfl rfl ?_
  refine r_iload_n dX12_onesOf_2 rfl rfl ?_
  refine r_istore_n (l' := [.ref (ga g 198), .int p1, .int 0, .int p1]) dX12_onesOf_3 rfl (Nat.le_of_ble_eq_true rfl) rfl rfl ?_
  refine vSub (l' := [.null, .null, .int 0, .int p1]) ⟨Or.inl rfl, ⟨Or.inl rfl, ⟨Or.inr rfl, ⟨Or.inr rfl, trivial⟩⟩⟩⟩ ?_
  refine vX12_onesOf_L4 _ FU _ _
theorem kX12_onesOf {g : G}   (p1 : Int32) (M : Mem) : CtrI g uX12_onesOf 1 (fun r => r) (rmP M) [.ref (ga g 198), .int p1] M (fX12_onesOf p1) := CtrI.of mX12_onesOf rfl (Nat.le_of_ble_eq_true rfl) rfl (vX12_onesOf p1 M)
set_option maxHeartbeats 4000000 in
set_option maxRecDepth 100000 in
theorem vX12_asks {g : G}   (p1 : Int32) (p2 : Int32) (p3 : Int32) (M : Mem) : V g uX12_asks 2 rvU rmU 0 [.ref (ga g 198), .int p1, .int p2, .int p3] [] M (fX12_asks p1 p2 p3 M) := by
  unfold fX12_asks
  refine r_aload_n dX12_asks_0 rfl rfl ?_
  refine r_getR (k' := 219) dX12_asks_1 fl_X12_74 kdc_198 rfl ?_
  refine r_iconst ic_0 dX12_asks_4 ?_
  refine r_iload_n dX12_asks_5 rfl rfl ?_
  refine r_iconst ic_m1 dX12_asks_6 ?_
  refine eJ (fun (J1 : (Int32) → Option (Mem)) => ∀ (t2 : Int32), V g uX12_asks 2 rvU rmU 22 [.ref (ga g 198), .int p1, .int p2, .int p3] [.int t2, .int 0, .ref (ga g 219)] M (J1 t2)) (fun t2 => ?_) (fun J1 hJ1 => ?_)
  · refine r_iast dX12_asks_22 kdc_219 (fun M3 => ?_)
    refine r_aload_n dX12_asks_23 rfl rfl ?_
    refine r_getR (k' := 219) dX12_asks_24 fl_X12_74 kdc_198 rfl ?_
    refine r_iconst ic_1 dX12_asks_27 ?_
    refine r_iload_n dX12_asks_28 rfl rfl ?_
    refine r_iast dX12_asks_29 kdc_219 (fun M4 => ?_)
    refine r_aload_n dX12_asks_30 rfl rfl ?_
    refine r_getR (k' := 219) dX12_asks_31 fl_X12_74 kdc_198 rfl ?_
    refine r_iconst ic_2 dX12_asks_34 ?_
    refine r_aload_n dX12_asks_35 rfl rfl ?_
    refine r_getR (k' := 204) dX12_asks_36 fl_X12_25 kdc_198 rfl ?_
    refine r_iload_n dX12_asks_39 rfl rfl ?_
    refine r_iald dX12_asks_40 kdc_204 (fun v5 => ?_)
    refine r_iast dX12_asks_41 kdc_219 (fun M6 => ?_)
    refine r_aload_n dX12_asks_42 rfl rfl ?_
    refine r_getR (k' := 219) dX12_asks_43 fl_X12_74 kdc_198 rfl ?_
    refine r_iconst ic_3 dX12_asks_46 ?_
    refine r_aload_n dX12_asks_47 rfl rfl ?_
    refine r_getR (k' := 199) dX12_asks_48 fl_X12_7 kdc_198 rfl ?_
    refine r_bipush bp_41 dX12_asks_51 ?_
    refine r_iload_n dX12_asks_53 rfl rfl ?_
    refine r_iadd dX12_asks_54 ?_
    refine r_iald dX12_asks_55 kdc_199 (fun v7 => ?_)
    refine r_iast dX12_asks_56 kdc_219 (fun M8 => ?_)
    refine r_aload_n dX12_asks_57 rfl rfl ?_
    refine r_getR (k' := 219) dX12_asks_58 fl_X12_74 kdc_198 rfl ?_
    refine r_iconst ic_4 dX12_asks_61 ?_
    refine r_aload_n dX12_asks_62 rfl rfl ?_
    refine r_getR (k' := 199) dX12_asks_63 fl_X12_7 kdc_198 rfl ?_
    refine r_iconst ic_3 dX12_asks_66 ?_
    refine r_iald dX12_asks_67 kdc_199 (fun v9 => ?_)
    refine r_iast dX12_asks_68 kdc_219 (fun M10 => ?_)
    refine r_aload_n dX12_asks_69 rfl rfl ?_
    refine r_getR (k' := 219) dX12_asks_70 fl_X12_74 kdc_198 rfl ?_
    refine r_iconst ic_5 dX12_asks_73 ?_
    refine r_aload_n dX12_asks_74 rfl rfl ?_
    refine r_getR (k' := 199) dX12_asks_75 fl_X12_7 kdc_198 rfl ?_
    refine r_iconst ic_4 dX12_asks_78 ?_
    refine r_iald dX12_asks_79 kdc_199 (fun v11 => ?_)
    refine r_iast dX12_asks_80 kdc_219 (fun M12 => ?_)
    refine r_aload_n dX12_asks_81 rfl rfl ?_
    refine r_getR (k' := 219) dX12_asks_82 fl_X12_74 kdc_198 rfl ?_
    refine r_bipush bp_6 dX12_asks_85 ?_
    refine r_aload_n dX12_asks_87 rfl rfl ?_
    refine r_aload_n dX12_asks_88 rfl rfl ?_
    refine r_getR (k' := 218) dX12_asks_89 fl_X12_71 kdc_198 rfl ?_
    refine r_iload_n dX12_asks_92 rfl rfl ?_
    refine r_iald dX12_asks_93 kdc_218 (fun v13 => ?_)
    refine r_calli (cl_V [.int v13] bX12_onesOf (by decide) dX12_asks_94 ml_X12_311 kdc_198 rfl (Nat.le_of_ble_eq_true rfl) rfl) (kX12_onesOf _ _) (fun v14 _ => ?_)
    refine r_iast dX12_asks_97 kdc_219 (fun M15 => ?_)
    refine r_aload_n dX12_asks_98 rfl rfl ?_
    refine r_getR (k' := 219) dX12_asks_99 fl_X12_74 kdc_198 rfl ?_
    refine r_bipush bp_7 dX12_asks_102 ?_
    refine r_iload_n dX12_asks_104 rfl rfl ?_
    refine r_iconst ic_m1 dX12_asks_105 ?_
    refine eJ (fun (J16 : (Int32) → Option (Mem)) => ∀ (t17 : Int32), V g uX12_asks 2 rvU rmU 122 [.ref (ga g 198), .null, .int p2, .null] [.int t17, .int 7, .ref (ga g 219)] M15 (J16 t17)) (fun t17 => ?_) (fun J16 hJ16 => ?_)
    · refine r_iast dX12_asks_122 kdc_219 (fun M18 => ?_)
      refine r_aload_n dX12_asks_123 rfl rfl ?_
      refine r_getR (k' := 219) dX12_asks_124 fl_X12_74 kdc_198 rfl ?_
      refine r_bipush bp_8 dX12_asks_127 ?_
      refine r_iload_n dX12_asks_129 rfl rfl ?_
      refine r_iconst ic_m1 dX12_asks_130 ?_
      refine eJ (fun (J19 : (Int32) → Option (Mem)) => ∀ (t20 : Int32), V g uX12_asks 2 rvU rmU 147 [.ref (ga g 198), .null, .null, .null] [.int t20, .int 8, .ref (ga g 219)] M18 (J19 t20)) (fun t20 => ?_) (fun J19 hJ19 => ?_)
      · refine r_iast dX12_asks_147 kdc_219 (fun M21 => ?_)
        refine r_aload_n dX12_asks_148 rfl rfl ?_
        refine r_getR (k' := 219) dX12_asks_149 fl_X12_74 kdc_198 rfl ?_
        refine r_bipush bp_9 dX12_asks_152 ?_
        refine r_aload_n dX12_asks_154 rfl rfl ?_
        refine r_getR (k' := 199) dX12_asks_155 fl_X12_7 kdc_198 rfl ?_
        refine r_iconst ic_0 dX12_asks_158 ?_
        refine r_iald dX12_asks_159 kdc_199 (fun v22 => ?_)
        refine r_iast dX12_asks_160 kdc_219 (fun M23 => ?_)
        exact vRet rfl rfl trivial dX12_asks_161
      · refine r_icmp_ne dX12_asks_131 (fun h => eF h ?_) (fun h => eT h ?_)
        · refine r_aload_n dX12_asks_138 rfl rfl ?_
          refine r_getR (k' := 199) dX12_asks_139 fl_X12_7 kdc_198 rfl ?_
          refine r_bipush bp_17 dX12_asks_142 ?_
          refine r_iload_n dX12_asks_144 rfl rfl ?_
          refine r_iadd dX12_asks_145 ?_
          refine r_iald dX12_asks_146 kdc_199 (fun v24 => ?_)
          exact vSub (l' := [.ref (ga g 198), .null, .null, .null]) ⟨Or.inr rfl, ⟨Or.inl rfl, ⟨Or.inl rfl, ⟨Or.inl rfl, trivial⟩⟩⟩⟩ (hJ19 _)
        · refine r_iconst ic_0 dX12_asks_134 ?_
          refine r_goto dX12_asks_135 ?_
          exact vSub (l' := [.ref (ga g 198), .null, .null, .null]) ⟨Or.inr rfl, ⟨Or.inl rfl, ⟨Or.inl rfl, ⟨Or.inl rfl, trivial⟩⟩⟩⟩ (hJ19 _)
    · refine r_icmp_ne dX12_asks_106 (fun h => eF h ?_) (fun h => eT h ?_)
      · refine r_aload_n dX12_asks_113 rfl rfl ?_
        refine r_getR (k' := 199) dX12_asks_114 fl_X12_7 kdc_198 rfl ?_
        refine r_bipush bp_29 dX12_asks_117 ?_
        refine r_iload_n dX12_asks_119 rfl rfl ?_
        refine r_iadd dX12_asks_120 ?_
        refine r_iald dX12_asks_121 kdc_199 (fun v25 => ?_)
        exact vSub (l' := [.ref (ga g 198), .null, .int p2, .null]) ⟨Or.inr rfl, ⟨Or.inl rfl, ⟨Or.inr rfl, ⟨Or.inl rfl, trivial⟩⟩⟩⟩ (hJ16 _)
      · refine r_iconst ic_0 dX12_asks_109 ?_
        refine r_goto dX12_asks_110 ?_
        exact vSub (l' := [.ref (ga g 198), .null, .int p2, .null]) ⟨Or.inr rfl, ⟨Or.inl rfl, ⟨Or.inr rfl, ⟨Or.inl rfl, trivial⟩⟩⟩⟩ (hJ16 _)
  · refine r_icmp_ne dX12_asks_7 (fun h => eF h ?_) (fun h => eT h ?_)
    · refine r_aload_n dX12_asks_14 rfl rfl ?_
      refine r_getR (k' := 199) dX12_asks_15 fl_X12_7 kdc_198 rfl ?_
      refine r_iconst ic_5 dX12_asks_18 ?_
      refine r_iload_n dX12_asks_19 rfl rfl ?_
      refine r_iadd dX12_asks_20 ?_
      refine r_iald dX12_asks_21 kdc_199 (fun v26 => ?_)
      exact hJ1 _
    · refine r_iconst ic_0 dX12_asks_10 ?_
      refine r_goto dX12_asks_11 ?_
      exact hJ1 _
theorem kX12_asks {g : G}   (p1 : Int32) (p2 : Int32) (p3 : Int32) (M : Mem) : CtrV g uX12_asks 2 rmU [.ref (ga g 198), .int p1, .int p2, .int p3] M (fX12_asks p1 p2 p3 M) := CtrV.of mX12_asks rfl (Nat.le_of_ble_eq_true rfl) rfl (vX12_asks p1 p2 p3 M)
