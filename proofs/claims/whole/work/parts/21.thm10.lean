set_option maxHeartbeats 4000000 in
set_option maxRecDepth 100000 in
theorem vX11_nine {g : G}   (p1 : Int32) (p2 : Int32) (M : Mem) : V g uX11_nine 2 rvW rmW 0 [.ref (ga g 0), .int p1, .int p2] [] M (fX11_nine p1 p2 M) := by
  unfold fX11_nine
  refine r_iload_n dX11_nine_0 rfl rfl ?_
  refine r_iconst ic_0 dX11_nine_1 ?_
  refine r_bipush bp_8 dX11_nine_2 ?_
  refine r_calliT (cl_S [.int p1, .int 0, .int 8] bX11_isWithin (by decide) dX11_nine_4 ml_X11_71 rfl (Nat.le_of_ble_eq_true rfl) rfl) (kX11_isWithin _ _ _ _) ?_
  refine r_if_eq dX11_nine_7 (fun h => eT h ?_) (fun h => eF h ?_)
  · refine r_iconst ic_0 dX11_nine_20 ?_
    exact vRet rfl rfl rfl dX11_nine_21
  · refine r_iload_n dX11_nine_10 rfl rfl ?_
    refine r_iconst ic_0 dX11_nine_11 ?_
    refine r_bipush bp_30 dX11_nine_12 ?_
    refine r_calliT (cl_S [.int p2, .int 0, .int 30] bX11_isWithin (by decide) dX11_nine_14 ml_X11_71 rfl (Nat.le_of_ble_eq_true rfl) rfl) (kX11_isWithin _ _ _ _) ?_
    refine r_if_ne dX11_nine_17 (fun h => eF h ?_) (fun h => eT h ?_)
    · refine r_aload_n dX11_nine_22 rfl rfl ?_
      refine r_getR (k' := 1) dX11_nine_23 fl_X11_12 kdc_0 rfl ?_
      refine r_getR (k' := 40) dX11_nine_26 fl_X11_262 kdc_1 rfl ?_
      refine r_getR (k' := 49) dX11_nine_29 fl_X11_328 kdc_40 rfl ?_
      refine r_iload_n dX11_nine_32 rfl rfl ?_
      refine r_iload_n dX11_nine_33 rfl rfl ?_
      refine r_iast dX11_nine_34 kdc_49 (fun M1 => ?_)
      refine r_iconst ic_1 dX11_nine_35 ?_
      exact vRet rfl rfl rfl dX11_nine_36
    · refine r_iconst ic_0 dX11_nine_20 ?_
      exact vRet rfl rfl rfl dX11_nine_21
theorem kX11_nine {g : G}   (p1 : Int32) (p2 : Int32) (M : Mem) : CtrI g uX11_nine 2 (fun r => r.1) rmW [.ref (ga g 0), .int p1, .int p2] M (fX11_nine p1 p2 M) := CtrI.of mX11_nine rfl (Nat.le_of_ble_eq_true rfl) rfl (vX11_nine p1 p2 M)
set_option maxHeartbeats 4000000 in
set_option maxRecDepth 100000 in
theorem vX12_nine {g : G}   (p1 : Int32) (p2 : Int32) (M : Mem) : V g uX12_nine 2 rvW rmW 0 [.ref (ga g 198), .int p1, .int p2] [] M (fX12_nine p1 p2 M) := by
  unfold fX12_nine
  refine r_aload_n dX12_nine_0 rfl rfl ?_
  refine r_iconst ic_0 dX12_nine_1 ?_
  refine r_put dX12_nine_2 fw_X12_122 kdc_198 (fun M1 => ?_)
  refine r_aload_n dX12_nine_5 rfl rfl ?_
  refine r_iload_n dX12_nine_6 rfl rfl ?_
  refine r_iconst ic_0 dX12_nine_7 ?_
  refine r_bipush bp_8 dX12_nine_8 ?_
  refine r_calliT (cl_V [.int p1, .int 0, .int 8] bX12_isIn (by decide) dX12_nine_10 ml_X12_140 kdc_198 rfl (Nat.le_of_ble_eq_true rfl) rfl) (kX12_isIn _ _ _ _) ?_
  refine r_if_eq dX12_nine_13 (fun h => eT h ?_) (fun h => eF h ?_)
  · refine r_iconst ic_0 dX12_nine_27 ?_
    exact vRet rfl rfl rfl dX12_nine_28
  · refine r_aload_n dX12_nine_16 rfl rfl ?_
    refine r_iload_n dX12_nine_17 rfl rfl ?_
    refine r_iconst ic_0 dX12_nine_18 ?_
    refine r_bipush bp_30 dX12_nine_19 ?_
    refine r_calliT (cl_V [.int p2, .int 0, .int 30] bX12_isIn (by decide) dX12_nine_21 ml_X12_140 kdc_198 rfl (Nat.le_of_ble_eq_true rfl) rfl) (kX12_isIn _ _ _ _) ?_
    refine r_if_ne dX12_nine_24 (fun h => eF h ?_) (fun h => eT h ?_)
    · refine r_aload_n dX12_nine_29 rfl rfl ?_
      refine r_getR (k' := 230) dX12_nine_30 fl_X12_107 kdc_198 rfl ?_
      refine r_iload_n dX12_nine_33 rfl rfl ?_
      refine r_iload_n dX12_nine_34 rfl rfl ?_
      refine r_iast dX12_nine_35 kdc_230 (fun M2 => ?_)
      refine r_iconst ic_1 dX12_nine_36 ?_
      exact vRet rfl rfl rfl dX12_nine_37
    · refine r_iconst ic_0 dX12_nine_27 ?_
      exact vRet rfl rfl rfl dX12_nine_28
theorem kX12_nine {g : G}   (p1 : Int32) (p2 : Int32) (M : Mem) : CtrI g uX12_nine 2 (fun r => r.1) rmW [.ref (ga g 198), .int p1, .int p2] M (fX12_nine p1 p2 M) := CtrI.of mX12_nine rfl (Nat.le_of_ble_eq_true rfl) rfl (vX12_nine p1 p2 M)
set_option maxHeartbeats 4000000 in
set_option maxRecDepth 100000 in
theorem vX10_sumOf {g : G}   (p1 : Int32) (M : Mem) : V g uX10_sumOf 1 rvI (rmP M) 0 [.ref (ga g 40), .int p1, .null] [] M (fX10_sumOf p1 M) := by
  unfold fX10_sumOf
  refine r_iconst ic_3 dX10_sumOf_0 ?_
  refine r_iload_n dX10_sumOf_1 rfl rfl ?_
  refine r_imul dX10_sumOf_2 ?_
  refine r_bndi (fun x1 => ?_)
  refine r_istore_n (l' := [.ref (ga g 40), .int p1, .int x1]) dX10_sumOf_3 rfl (Nat.le_of_ble_eq_true rfl) rfl rfl ?_
  refine r_aload_n dX10_sumOf_4 rfl rfl ?_
  refine r_getR (k' := 49) dX10_sumOf_5 fl_X10_29 kdc_40 rfl ?_
  refine r_straight gst_X10_73 dX10_sumOf_8 ?_
  refine r_iload_n dX10_sumOf_11 rfl rfl ?_
  refine r_stald dX10_sumOf_12 (fun v2 => ?_)
  refine r_iald dX10_sumOf_13 kdc_49 (fun v3 => ?_)
  refine r_aload_n dX10_sumOf_14 rfl rfl ?_
  refine r_getR (k' := 49) dX10_sumOf_15 fl_X10_29 kdc_40 rfl ?_
  refine r_straight gst_X10_73 dX10_sumOf_18 ?_
  refine r_iload_n dX10_sumOf_21 rfl rfl ?_
  refine r_iconst ic_1 dX10_sumOf_22 ?_
  refine r_iadd dX10_sumOf_23 ?_
  refine r_stald dX10_sumOf_24 (fun v4 => ?_)
  refine r_iald dX10_sumOf_25 kdc_49 (fun v5 => ?_)
  refine r_iadd dX10_sumOf_26 ?_
  refine r_aload_n dX10_sumOf_27 rfl rfl ?_
  refine r_getR (k' := 49) dX10_sumOf_28 fl_X10_29 kdc_40 rfl ?_
  refine r_straight gst_X10_73 dX10_sumOf_31 ?_
  refine r_iload_n dX10_sumOf_34 rfl rfl ?_
  refine r_iconst ic_2 dX10_sumOf_35 ?_
  refine r_iadd dX10_sumOf_36 ?_
  refine r_stald dX10_sumOf_37 (fun v6 => ?_)
  refine r_iald dX10_sumOf_38 kdc_49 (fun v7 => ?_)
  refine r_iadd dX10_sumOf_39 ?_
  exact vRet rfl rfl rfl dX10_sumOf_40
theorem kX10_sumOf {g : G}   (p1 : Int32) (M : Mem) : CtrI g uX10_sumOf 1 (fun r => r) (rmP M) [.ref (ga g 40), .int p1] M (fX10_sumOf p1 M) := CtrI.of mX10_sumOf rfl (Nat.le_of_ble_eq_true rfl) rfl (vX10_sumOf p1 M)
set_option maxHeartbeats 4000000 in
set_option maxRecDepth 100000 in
theorem vX10_linesOfSum_L4 {g : G}   (z1 : Int32)  (M : Mem)   : ∀ (n : Nat) (y2 : Int32) (y3 : Int32), V g uX10_linesOfSum 2 rvI (rmP M) 4 [.ref (ga g 40), .int z1, .int y2, .int y3] [] M (fX10_linesOfSum_L4 z1 M n y2 y3) := by
  intro n
  induction n with
  | zero => intro y2 y3; exact vNone
  | succ n ih =>
    intro y2 y3
    rw [fX10_linesOfSum_L4]
    refine r_iload_n dX10_linesOfSum_4 rfl rfl ?_
    refine r_bipush bp_8 dX10_linesOfSum_5 ?_
    refine r_icmp_ge dX10_linesOfSum_7 (fun h => eT h ?_) (fun h => eF h ?_)
    · refine r_iload_n dX10_linesOfSum_28 rfl rfl ?_
      exact vRet rfl rfl rfl dX10_linesOfSum_29
    · refine r_aload_n dX10_linesOfSum_10 rfl rfl ?_
      refine r_iload_n dX10_linesOfSum_11 rfl rfl ?_
      refine r_calli (cl_V [.int y3] bX10_sumOf (by decide) dX10_linesOfSum_12 ml_X10_76 kdc_40 rfl (Nat.le_of_ble_eq_true rfl) rfl) (kX10_sumOf _ _) (fun v1 _ => ?_)
      refine r_iload_n dX10_linesOfSum_15 rfl rfl ?_
      refine eJ (fun (J2 : (Int32) → Option (Int32)) => ∀ (a3 : Int32), V g uX10_linesOfSum 2 rvI (rmP M) 22 [.ref (ga g 40), .int z1, .int a3, .int y3] [] M (J2 a3)) (fun a3 => ?_) (fun J2 hJ2 => ?_)
      · refine r_iinc (l' := [.ref (ga g 40), .int z1, .int a3, .int (y3 + 1)]) dX10_linesOfSum_22 rfl (inc_1 _) (Nat.le_of_ble_eq_true rfl) rfl rfl ?_
        refine r_goto dX10_linesOfSum_25 ?_
        exact ih _ _
      · refine r_icmp_ne dX10_linesOfSum_16 (fun h => eF h ?_) (fun h => eT h ?_)
        · exact hJ2 _
        · refine r_iinc (l' := [.ref (ga g 40), .int z1, .int (y2 + 1), .int y3]) dX10_linesOfSum_19 rfl (inc_1 _) (Nat.le_of_ble_eq_true rfl) rfl rfl ?_
          exact hJ2 _
set_option maxHeartbeats 4000000 in
set_option maxRecDepth 100000 in
theorem vX10_linesOfSum {g : G}   (p1 : Int32) (M : Mem) : V g uX10_linesOfSum 2 rvI (rmP M) 0 [.ref (ga g 40), .int p1, .null, .null] [] M (fX10_linesOfSum p1 M) := by
  unfold fX10_linesOfSum
  refine r_iconst ic_0 dX10_linesOfSum_0 ?_
  refine r_istore_n (l' := [.ref (ga g 40), .int p1, .int 0, .null]) dX10_linesOfSum_1 rfl (Nat.le_of_ble_eq_true rfl) rfl rfl ?_
  refine r_iconst ic_0 dX10_linesOfSum_2 ?_
  refine r_istore_n (l' := [.ref (ga g 40), .int p1, .int 0, .int 0]) dX10_linesOfSum_3 rfl (Nat.le_of_ble_eq_true rfl) rfl rfl ?_
  refine vX10_linesOfSum_L4 _ _ FU _ _
theorem kX10_linesOfSum {g : G}   (p1 : Int32) (M : Mem) : CtrI g uX10_linesOfSum 2 (fun r => r) (rmP M) [.ref (ga g 40), .int p1] M (fX10_linesOfSum p1 M) := CtrI.of mX10_linesOfSum rfl (Nat.le_of_ble_eq_true rfl) rfl (vX10_linesOfSum p1 M)
set_option maxHeartbeats 4000000 in
set_option maxRecDepth 100000 in
theorem vX10_waysToEven_L20 {g : G}  (K64 : Int32 → Mem → Option (Int32 × Mem)) (z2 : Int32) (z3 : Int32)   (hK64 : ∀ (e1 : Int32) (M : Mem), V g uX10_waysToEven 3 rvW rmW 64 [.ref (ga g 40), .int e1, .int z2, .int z3, .null] [] M (K64 e1 M)) : ∀ (n : Nat) (y1 : Int32) (y4 : Int32) (M : Mem), V g uX10_waysToEven 3 rvW rmW 20 [.ref (ga g 40), .int y1, .int z2, .int z3, .int y4] [] M (fX10_waysToEven_L20 K64 z2 z3 n y1 y4 M) := by
  intro n
  induction n with
  | zero => intro y1 y4 M; exact vNone
  | succ n ih =>
    intro y1 y4 M
    rw [fX10_waysToEven_L20]
    refine r_iload dX10_waysToEven_20 rfl ?_
    refine r_bipush bp_30 dX10_waysToEven_22 ?_
    refine r_icmp_gt dX10_waysToEven_24 (fun h => eT h ?_) (fun h => eF h ?_)
    · exact vSub (l' := [.ref (ga g 40), .int y1, .int z2, .int z3, .null]) ⟨Or.inr rfl, ⟨Or.inr rfl, ⟨Or.inr rfl, ⟨Or.inr rfl, ⟨Or.inl rfl, trivial⟩⟩⟩⟩⟩ (hK64 _ _)
    · refine r_aload_n dX10_waysToEven_27 rfl rfl ?_
      refine r_getR (k' := 49) dX10_waysToEven_28 fl_X10_29 kdc_40 rfl ?_
      refine r_iload_n dX10_waysToEven_31 rfl rfl ?_
      refine r_iload dX10_waysToEven_32 rfl ?_
      refine r_iast dX10_waysToEven_34 kdc_49 (fun M2 => ?_)
      refine r_iload dX10_waysToEven_35 rfl ?_
      refine r_iload_n dX10_waysToEven_37 rfl rfl ?_
      refine eJ (fun (J3 : (Int32) → Option (Int32 × Mem)) => ∀ (a4 : Int32), V g uX10_waysToEven 3 rvW rmW 58 [.ref (ga g 40), .int a4, .int z2, .int z3, .int y4] [] M2 (J3 a4)) (fun a4 => ?_) (fun J3 hJ3 => ?_)
      · refine r_iinc (l' := [.ref (ga g 40), .int a4, .int z2, .int z3, .int (y4 + 1)]) dX10_waysToEven_58 rfl (inc_1 _) (Nat.le_of_ble_eq_true rfl) rfl rfl ?_
        refine r_goto dX10_waysToEven_61 ?_
        exact ih _ _ _
      · refine r_icmp_eq dX10_waysToEven_38 (fun h => eT h ?_) (fun h => eF h ?_)
        · exact hJ3 _
        · refine r_aload_n dX10_waysToEven_41 rfl rfl ?_
          refine r_aload_n dX10_waysToEven_42 rfl rfl ?_
          refine r_iconst ic_0 dX10_waysToEven_43 ?_
          refine r_calli (cl_V [.int 0] bX10_sumOf (by decide) dX10_waysToEven_44 ml_X10_76 kdc_40 rfl (Nat.le_of_ble_eq_true rfl) rfl) (kX10_sumOf _ _) (fun v5 _ => ?_)
          refine r_calli (cl_V [.int v5] bX10_linesOfSum (by decide) dX10_waysToEven_47 ml_X10_80 kdc_40 rfl (Nat.le_of_ble_eq_true rfl) rfl) (kX10_linesOfSum _ _) (fun v6 _ => ?_)
          refine r_bipush bp_8 dX10_waysToEven_50 ?_
          refine r_icmp_ne dX10_waysToEven_52 (fun h => eF h ?_) (fun h => eT h ?_)
          · exact hJ3 _
          · refine r_iinc (l' := [.ref (ga g 40), .int (y1 + 1), .int z2, .int z3, .int y4]) dX10_waysToEven_55 rfl (inc_1 _) (Nat.le_of_ble_eq_true rfl) rfl rfl ?_
            exact hJ3 _
set_option maxHeartbeats 4000000 in
set_option maxRecDepth 100000 in
theorem vX10_waysToEven_L4 {g : G}       : ∀ (n : Nat) (y1 : Int32) (y2 : Int32) (M : Mem), V g uX10_waysToEven 3 rvW rmW 4 [.ref (ga g 40), .int y1, .int y2, .null, .null] [] M (fX10_waysToEven_L4 n y1 y2 M) := by
  intro n
  induction n with
  | zero => intro y1 y2 M; exact vNone
  | succ n ih =>
    intro y1 y2 M
    rw [fX10_waysToEven_L4]
    refine r_iload_n dX10_waysToEven_4 rfl rfl ?_
    refine r_bipush bp_9 dX10_waysToEven_5 ?_
    refine r_icmp_ge dX10_waysToEven_7 (fun h => eT h ?_) (fun h => eF h ?_)
    · refine r_iload_n dX10_waysToEven_77 rfl rfl ?_
      exact vRet rfl rfl rfl dX10_waysToEven_78
    · refine r_aload_n dX10_waysToEven_10 rfl rfl ?_
      refine r_getR (k' := 49) dX10_waysToEven_11 fl_X10_29 kdc_40 rfl ?_
      refine r_iload_n dX10_waysToEven_14 rfl rfl ?_
      refine r_iald dX10_waysToEven_15 kdc_49 (fun v1 => ?_)
      refine r_istore_n (l' := [.ref (ga g 40), .int y1, .int y2, .int v1, .null]) dX10_waysToEven_16 rfl (Nat.le_of_ble_eq_true rfl) rfl rfl ?_
      refine r_iconst ic_0 dX10_waysToEven_17 ?_
      refine r_istore (l' := [.ref (ga g 40), .int y1, .int y2, .int v1, .int 0]) dX10_waysToEven_18 (Nat.le_of_ble_eq_true rfl) rfl rfl ?_
      refine vX10_waysToEven_L20 _ _ _ (fun e7 M8 => ?_) FU _ _ _
      · refine r_aload_n dX10_waysToEven_64 rfl rfl ?_
        refine r_getR (k' := 49) dX10_waysToEven_65 fl_X10_29 kdc_40 rfl ?_
        refine r_iload_n dX10_waysToEven_68 rfl rfl ?_
        refine r_iload_n dX10_waysToEven_69 rfl rfl ?_
        refine r_iast dX10_waysToEven_70 kdc_49 (fun M9 => ?_)
        refine r_iinc (l' := [.ref (ga g 40), .int e7, .int (y2 + 1), .int v1, .null]) dX10_waysToEven_71 rfl (inc_1 _) (Nat.le_of_ble_eq_true rfl) rfl rfl ?_
        refine r_goto dX10_waysToEven_74 ?_
        exact vSub (l' := [.ref (ga g 40), .int e7, .int (y2 + 1), .null, .null]) ⟨Or.inr rfl, ⟨Or.inr rfl, ⟨Or.inr rfl, ⟨Or.inl rfl, ⟨Or.inl rfl, trivial⟩⟩⟩⟩⟩ (ih _ _ _)
set_option maxHeartbeats 4000000 in
set_option maxRecDepth 100000 in
theorem vX10_waysToEven {g : G}    (M : Mem) : V g uX10_waysToEven 3 rvW rmW 0 [.ref (ga g 40), .null, .null, .null, .null] [] M (fX10_waysToEven M) := by
  unfold fX10_waysToEven
  refine r_iconst ic_0 dX10_waysToEven_0 ?_
  refine r_istore_n (l' := [.ref (ga g 40), .int 0, .null, .null, .null]) dX10_waysToEven_1 rfl (Nat.le_of_ble_eq_true rfl) rfl rfl ?_
  refine r_iconst ic_0 dX10_waysToEven_2 ?_
  refine r_istore_n (l' := [.ref (ga g 40), .int 0, .int 0, .null, .null]) dX10_waysToEven_3 rfl (Nat.le_of_ble_eq_true rfl) rfl rfl ?_
  refine vX10_waysToEven_L4  FU _ _ _
theorem kX10_waysToEven {g : G}    (M : Mem) : CtrI g uX10_waysToEven 3 (fun r => r.1) rmW [.ref (ga g 40)] M (fX10_waysToEven M) := CtrI.of mX10_waysToEven rfl (Nat.le_of_ble_eq_true rfl) rfl (vX10_waysToEven M)
set_option maxHeartbeats 4000000 in
set_option maxRecDepth 100000 in
theorem vX11_even {g : G}   (p1 : Int32) (M : Mem) : V g uX11_even 4 rvW rmW 0 [.ref (ga g 0), .int p1] [] M (fX11_even p1 M) := by
  unfold fX11_even
  refine r_iload_n dX11_even_0 rfl rfl ?_
  refine r_iconst ic_m1 dX11_even_1 ?_
  refine r_icmp_ne dX11_even_2 (fun h => eF h ?_) (fun h => eT h ?_)
  · refine r_iload_n dX11_even_16 rfl rfl ?_
    refine r_iconst ic_0 dX11_even_17 ?_
    refine r_bipush bp_90 dX11_even_18 ?_
    refine r_calliT (cl_S [.int p1, .int 0, .int 90] bX11_isWithin (by decide) dX11_even_20 ml_X11_71 rfl (Nat.le_of_ble_eq_true rfl) rfl) (kX11_isWithin _ _ _ _) ?_
    refine r_if_eq dX11_even_23 (fun h => eT h ?_) (fun h => eF h ?_)
    · refine r_iconst ic_m1 dX11_even_40 ?_
      exact vRet rfl rfl rfl dX11_even_41
    · refine r_aload_n dX11_even_26 rfl rfl ?_
      refine r_getR (k' := 1) dX11_even_27 fl_X11_12 kdc_0 rfl ?_
      refine r_getR (k' := 40) dX11_even_30 fl_X11_262 kdc_1 rfl ?_
      refine r_iload_n dX11_even_33 rfl rfl ?_
      refine r_calli (cl_V [.int p1] bX10_linesOfSum (by decide) dX11_even_34 ml_X11_334 kdc_40 rfl (Nat.le_of_ble_eq_true rfl) rfl) (kX10_linesOfSum _ _) (fun v1 _ => ?_)
      refine r_goto dX11_even_37 ?_
      exact vRet rfl rfl rfl dX11_even_41
  · refine r_aload_n dX11_even_5 rfl rfl ?_
    refine r_getR (k' := 1) dX11_even_6 fl_X11_12 kdc_0 rfl ?_
    refine r_getR (k' := 40) dX11_even_9 fl_X11_262 kdc_1 rfl ?_
    refine r_calli (cl_V [] bX10_waysToEven (by decide) dX11_even_12 ml_X11_331 kdc_40 rfl (Nat.le_of_ble_eq_true rfl) rfl) (kX10_waysToEven _) (fun r2 _ => ?_)
    exact vRet rfl rfl rfl dX11_even_15
theorem kX11_even {g : G}   (p1 : Int32) (M : Mem) : CtrI g uX11_even 4 (fun r => r.1) rmW [.ref (ga g 0), .int p1] M (fX11_even p1 M) := CtrI.of mX11_even rfl (Nat.le_of_ble_eq_true rfl) rfl (vX11_even p1 M)
set_option maxHeartbeats 4000000 in
set_option maxRecDepth 100000 in
theorem vX12_lineSum {g : G}   (p1 : Int32) (M : Mem) : V g uX12_lineSum 1 rvI (rmP M) 0 [.ref (ga g 198), .int p1, .null, .null] [] M (fX12_lineSum p1 M) := by
  unfold fX12_lineSum
  refine r_iload_n dX12_lineSum_0 rfl rfl ?_
  refine r_iconst ic_3 dX12_lineSum_1 ?_
  refine eJ (fun (J1 : (Int32) → Option (Int32)) => ∀ (t2 : Int32), V g uX12_lineSum 1 rvI (rmP M) 34 [.ref (ga g 198), .int p1, .null, .null] [.int t2] M (J1 t2)) (fun t2 => ?_) (fun J1 hJ1 => ?_)
  · refine r_istore_n (l' := [.ref (ga g 198), .int p1, .int t2, .null]) dX12_lineSum_34 rfl (Nat.le_of_ble_eq_true rfl) rfl rfl ?_
    refine r_iload_n dX12_lineSum_35 rfl rfl ?_
    refine r_iconst ic_3 dX12_lineSum_36 ?_
    refine eJ (fun (J3 : (Int32) → Option (Int32)) => ∀ (t4 : Int32), V g uX12_lineSum 1 rvI (rmP M) 65 [.ref (ga g 198), .null, .int t2, .null] [.int t4] M (J3 t4)) (fun t4 => ?_) (fun J3 hJ3 => ?_)
    · refine r_istore_n (l' := [.ref (ga g 198), .null, .int t2, .int t4]) dX12_lineSum_65 rfl (Nat.le_of_ble_eq_true rfl) rfl rfl ?_
      refine r_aload_n dX12_lineSum_66 rfl rfl ?_
      refine r_getR (k' := 230) dX12_lineSum_67 fl_X12_107 kdc_198 rfl ?_
      refine r_iload_n dX12_lineSum_70 rfl rfl ?_
      refine r_iald dX12_lineSum_71 kdc_230 (fun v5 => ?_)
      refine r_aload_n dX12_lineSum_72 rfl rfl ?_
      refine r_getR (k' := 230) dX12_lineSum_73 fl_X12_107 kdc_198 rfl ?_
      refine r_iload_n dX12_lineSum_76 rfl rfl ?_
      refine r_iload_n dX12_lineSum_77 rfl rfl ?_
      refine r_iadd dX12_lineSum_78 ?_
      refine r_iald dX12_lineSum_79 kdc_230 (fun v6 => ?_)
      refine r_iadd dX12_lineSum_80 ?_
      refine r_aload_n dX12_lineSum_81 rfl rfl ?_
      refine r_getR (k' := 230) dX12_lineSum_82 fl_X12_107 kdc_198 rfl ?_
      refine r_iload_n dX12_lineSum_85 rfl rfl ?_
      refine r_iconst ic_2 dX12_lineSum_86 ?_
      refine r_iload_n dX12_lineSum_87 rfl rfl ?_
      refine r_imul dX12_lineSum_88 ?_
      refine r_iadd dX12_lineSum_89 ?_
      refine r_iald dX12_lineSum_90 kdc_230 (fun v7 => ?_)
      refine r_iadd dX12_lineSum_91 ?_
      exact vRet rfl rfl rfl dX12_lineSum_92
    · refine r_icmp_ge dX12_lineSum_37 (fun h => eT h ?_) (fun h => eF h ?_)
      · refine r_iload_n dX12_lineSum_44 rfl rfl ?_
        refine r_bipush bp_6 dX12_lineSum_45 ?_
        refine r_icmp_ge dX12_lineSum_47 (fun h => eT h ?_) (fun h => eF h ?_)
        · refine r_iload_n dX12_lineSum_54 rfl rfl ?_
          refine r_bipush bp_6 dX12_lineSum_55 ?_
          refine r_icmp_ne dX12_lineSum_57 (fun h => eF h ?_) (fun h => eT h ?_)
          · refine r_iconst ic_2 dX12_lineSum_64 ?_
            exact vSub (l' := [.ref (ga g 198), .null, .int t2, .null]) ⟨Or.inr rfl, ⟨Or.inl rfl, ⟨Or.inr rfl, ⟨Or.inl rfl, trivial⟩⟩⟩⟩ (hJ3 _)
          · refine r_iconst ic_4 dX12_lineSum_60 ?_
            refine r_goto dX12_lineSum_61 ?_
            exact vSub (l' := [.ref (ga g 198), .null, .int t2, .null]) ⟨Or.inr rfl, ⟨Or.inl rfl, ⟨Or.inr rfl, ⟨Or.inl rfl, trivial⟩⟩⟩⟩ (hJ3 _)
        · refine r_iconst ic_3 dX12_lineSum_50 ?_
          refine r_goto dX12_lineSum_51 ?_
          exact vSub (l' := [.ref (ga g 198), .null, .int t2, .null]) ⟨Or.inr rfl, ⟨Or.inl rfl, ⟨Or.inr rfl, ⟨Or.inl rfl, trivial⟩⟩⟩⟩ (hJ3 _)
      · refine r_iconst ic_1 dX12_lineSum_40 ?_
        refine r_goto dX12_lineSum_41 ?_
        exact vSub (l' := [.ref (ga g 198), .null, .int t2, .null]) ⟨Or.inr rfl, ⟨Or.inl rfl, ⟨Or.inr rfl, ⟨Or.inl rfl, trivial⟩⟩⟩⟩ (hJ3 _)
  · refine r_icmp_ge dX12_lineSum_2 (fun h => eT h ?_) (fun h => eF h ?_)
    · refine r_iload_n dX12_lineSum_11 rfl rfl ?_
      refine r_bipush bp_6 dX12_lineSum_12 ?_
      refine r_icmp_ge dX12_lineSum_14 (fun h => eT h ?_) (fun h => eF h ?_)
      · refine r_iload_n dX12_lineSum_23 rfl rfl ?_
        refine r_bipush bp_6 dX12_lineSum_24 ?_
        refine r_icmp_ne dX12_lineSum_26 (fun h => eF h ?_) (fun h => eT h ?_)
        · refine r_iconst ic_2 dX12_lineSum_33 ?_
          exact hJ1 _
        · refine r_iconst ic_0 dX12_lineSum_29 ?_
          refine r_goto dX12_lineSum_30 ?_
          exact hJ1 _
      · refine r_iload_n dX12_lineSum_17 rfl rfl ?_
        refine r_iconst ic_3 dX12_lineSum_18 ?_
        refine r_isub dX12_lineSum_19 ?_
        refine r_goto dX12_lineSum_20 ?_
        exact hJ1 _
    · refine r_iconst ic_3 dX12_lineSum_5 ?_
      refine r_iload_n dX12_lineSum_6 rfl rfl ?_
      refine r_imul dX12_lineSum_7 ?_
      refine r_goto dX12_lineSum_8 ?_
      exact hJ1 _
theorem kX12_lineSum {g : G}   (p1 : Int32) (M : Mem) : CtrI g uX12_lineSum 1 (fun r => r) (rmP M) [.ref (ga g 198), .int p1] M (fX12_lineSum p1 M) := CtrI.of mX12_lineSum rfl (Nat.le_of_ble_eq_true rfl) rfl (vX12_lineSum p1 M)
set_option maxHeartbeats 4000000 in
set_option maxRecDepth 100000 in
theorem vX12_linesThatCome_L4 {g : G}   (z1 : Int32)  (M : Mem)   : ∀ (n : Nat) (y2 : Int32) (y3 : Int32), V g uX12_linesThatCome 2 rvI (rmP M) 4 [.ref (ga g 198), .int z1, .int y2, .int y3] [] M (fX12_linesThatCome_L4 z1 M n y2 y3) := by
  intro n
  induction n with
  | zero => intro y2 y3; exact vNone
  | succ n ih =>
    intro y2 y3
    rw [fX12_linesThatCome_L4]
    refine r_iload_n dX12_linesThatCome_4 rfl rfl ?_
    refine r_bipush bp_8 dX12_linesThatCome_5 ?_
    refine r_icmp_ge dX12_linesThatCome_7 (fun h => eT h ?_) (fun h => eF h ?_)
    · refine r_iload_n dX12_linesThatCome_29 rfl rfl ?_
      exact vRet rfl rfl rfl dX12_linesThatCome_30
    · refine r_aload_n dX12_linesThatCome_10 rfl rfl ?_
      refine r_iload_n dX12_linesThatCome_11 rfl rfl ?_
      refine r_calli (cl_V [.int y3] bX12_lineSum (by decide) dX12_linesThatCome_12 ml_X12_422 kdc_198 rfl (Nat.le_of_ble_eq_true rfl) rfl) (kX12_lineSum _ _) (fun v1 _ => ?_)
      refine r_iload_n dX12_linesThatCome_15 rfl rfl ?_
      refine eJ (fun (J2 : (Int32) → Option (Int32)) => ∀ (a3 : Int32), V g uX12_linesThatCome 2 rvI (rmP M) 23 [.ref (ga g 198), .int z1, .int a3, .int y3] [] M (J2 a3)) (fun a3 => ?_) (fun J2 hJ2 => ?_)
      · refine r_iinc (l' := [.ref (ga g 198), .int z1, .int a3, .int (y3 + 1)]) dX12_linesThatCome_23 rfl (inc_1 _) (Nat.le_of_ble_eq_true rfl) rfl rfl ?_
        refine r_goto dX12_linesThatCome_26 ?_
        exact ih _ _
      · refine r_icmp_ne dX12_linesThatCome_16 (fun h => eF h ?_) (fun h => eT h ?_)
        · exact hJ2 _
        · refine r_iload_n dX12_linesThatCome_19 rfl rfl ?_
          refine r_iconst ic_1 dX12_linesThatCome_20 ?_
          refine r_iadd dX12_linesThatCome_21 ?_
          refine r_bndi (fun x4 => ?_)
          refine r_istore_n (l' := [.ref (ga g 198), .int z1, .int x4, .int y3]) dX12_linesThatCome_22 rfl (Nat.le_of_ble_eq_true rfl) rfl rfl ?_
          exact hJ2 _
set_option maxHeartbeats 4000000 in
set_option maxRecDepth 100000 in
theorem vX12_linesThatCome {g : G}   (p1 : Int32) (M : Mem) : V g uX12_linesThatCome 2 rvI (rmP M) 0 [.ref (ga g 198), .int p1, .null, .null] [] M (fX12_linesThatCome p1 M) := by
  unfold fX12_linesThatCome
  refine r_iconst ic_0 dX12_linesThatCome_0 ?_
  refine r_istore_n (l' := [.ref (ga g 198), .int p1, .int 0, .null]) dX12_linesThatCome_1 rfl (Nat.le_of_ble_eq_true rfl) rfl rfl ?_
  refine r_iconst ic_0 dX12_linesThatCome_2 ?_
  refine r_istore_n (l' := [.ref (ga g 198), .int p1, .int 0, .int 0]) dX12_linesThatCome_3 rfl (Nat.le_of_ble_eq_true rfl) rfl rfl ?_
  refine vX12_linesThatCome_L4 _ _ FU _ _
theorem kX12_linesThatCome {g : G}   (p1 : Int32) (M : Mem) : CtrI g uX12_linesThatCome 2 (fun r => r) (rmP M) [.ref (ga g 198), .int p1] M (fX12_linesThatCome p1 M) := CtrI.of mX12_linesThatCome rfl (Nat.le_of_ble_eq_true rfl) rfl (vX12_linesThatCome p1 M)
set_option maxHeartbeats 4000000 in
set_option maxRecDepth 100000 in
theorem vX12_even_L52 {g : G}  (K98 : Int32 → Mem → Option (Int32 × Mem)) (z3 : Int32) (z4 : Int32)   (hK98 : ∀ (e2 : Int32) (M : Mem), V g uX12_even 3 rvW rmW 98 [.ref (ga g 198), .null, .int e2, .int z3, .int z4, .null] [] M (K98 e2 M)) : ∀ (n : Nat) (y2 : Int32) (y5 : Int32) (M : Mem), V g uX12_even 3 rvW rmW 52 [.ref (ga g 198), .null, .int y2, .int z3, .int z4, .int y5] [] M (fX12_even_L52 K98 z3 z4 n y2 y5 M) := by
  intro n
  induction n with
  | zero => intro y2 y5 M; exact vNone
  | succ n ih =>
    intro y2 y5 M
    rw [fX12_even_L52]
    refine r_iload dX12_even_52 rfl ?_
    refine r_bipush bp_31 dX12_even_54 ?_
    refine r_icmp_ge dX12_even_56 (fun h => eT h ?_) (fun h => eF h ?_)
    · exact vSub (l' := [.ref (ga g 198), .null, .int y2, .int z3, .int z4, .null]) ⟨Or.inr rfl, ⟨Or.inl rfl, ⟨Or.inr rfl, ⟨Or.inr rfl, ⟨Or.inr rfl, ⟨Or.inl rfl, trivial⟩⟩⟩⟩⟩⟩ (hK98 _ _)
    · refine r_aload_n dX12_even_59 rfl rfl ?_
      refine r_getR (k' := 230) dX12_even_60 fl_X12_107 kdc_198 rfl ?_
      refine r_iload_n dX12_even_63 rfl rfl ?_
      refine r_iload dX12_even_64 rfl ?_
      refine r_iast dX12_even_66 kdc_230 (fun M3 => ?_)
      refine r_iload dX12_even_67 rfl ?_
      refine r_iload dX12_even_69 rfl ?_
      refine eJ (fun (J4 : (Int32) → Option (Int32 × Mem)) => ∀ (a5 : Int32), V g uX12_even 3 rvW rmW 92 [.ref (ga g 198), .null, .int a5, .int z3, .int z4, .int y5] [] M3 (J4 a5)) (fun a5 => ?_) (fun J4 hJ4 => ?_)
      · refine r_iinc (l' := [.ref (ga g 198), .null, .int a5, .int z3, .int z4, .int (y5 + 1)]) dX12_even_92 rfl (inc_1 _) (Nat.le_of_ble_eq_true rfl) rfl rfl ?_
        refine r_goto dX12_even_95 ?_
        exact ih _ _ _
      · refine r_icmp_eq dX12_even_71 (fun h => eT h ?_) (fun h => eF h ?_)
        · exact hJ4 _
        · refine r_aload_n dX12_even_74 rfl rfl ?_
          refine r_aload_n dX12_even_75 rfl rfl ?_
          refine r_iconst ic_0 dX12_even_76 ?_
          refine r_calli (cl_V [.int 0] bX12_lineSum (by decide) dX12_even_77 ml_X12_422 kdc_198 rfl (Nat.le_of_ble_eq_true rfl) rfl) (kX12_lineSum _ _) (fun v6 _ => ?_)
          refine r_calli (cl_V [.int v6] bX12_linesThatCome (by decide) dX12_even_80 ml_X12_425 kdc_198 rfl (Nat.le_of_ble_eq_true rfl) rfl) (kX12_linesThatCome _ _) (fun v7 _ => ?_)
          refine r_bipush bp_8 dX12_even_83 ?_
          refine r_icmp_ne dX12_even_85 (fun h => eF h ?_) (fun h => eT h ?_)
          · exact hJ4 _
          · refine r_iload_n dX12_even_88 rfl rfl ?_
            refine r_iconst ic_1 dX12_even_89 ?_
            refine r_iadd dX12_even_90 ?_
            refine r_bndi (fun x8 => ?_)
            refine r_istore_n (l' := [.ref (ga g 198), .null, .int x8, .int z3, .int z4, .int y5]) dX12_even_91 rfl (Nat.le_of_ble_eq_true rfl) rfl rfl ?_
            exact hJ4 _
set_option maxHeartbeats 4000000 in
set_option maxRecDepth 100000 in
theorem vX12_even_L35 {g : G}       : ∀ (n : Nat) (y2 : Int32) (y3 : Int32) (M : Mem), V g uX12_even 3 rvW rmW 35 [.ref (ga g 198), .null, .int y2, .int y3, .null, .null] [] M (fX12_even_L35 n y2 y3 M) := by
  intro n
  induction n with
  | zero => intro y2 y3 M; exact vNone
  | succ n ih =>
    intro y2 y3 M
    rw [fX12_even_L35]
    refine r_iload_n dX12_even_35 rfl rfl ?_
    refine r_bipush bp_9 dX12_even_36 ?_
    refine r_icmp_ge dX12_even_38 (fun h => eT h ?_) (fun h => eF h ?_)
    · refine r_iload_n dX12_even_112 rfl rfl ?_
      exact vRet rfl rfl rfl dX12_even_113
    · refine r_aload_n dX12_even_41 rfl rfl ?_
      refine r_getR (k' := 230) dX12_even_42 fl_X12_107 kdc_198 rfl ?_
      refine r_iload_n dX12_even_45 rfl rfl ?_
      refine r_iald dX12_even_46 kdc_230 (fun v2 => ?_)
      refine r_istore (l' := [.ref (ga g 198), .null, .int y2, .int y3, .int v2, .null]) dX12_even_47 (Nat.le_of_ble_eq_true rfl) rfl rfl ?_
      refine r_iconst ic_0 dX12_even_49 ?_
      refine r_istore (l' := [.ref (ga g 198), .null, .int y2, .int y3, .int v2, .int 0]) dX12_even_50 (Nat.le_of_ble_eq_true rfl) rfl rfl ?_
      refine vX12_even_L52 _ _ _ (fun e9 M10 => ?_) FU _ _ _
      · refine r_aload_n dX12_even_98 rfl rfl ?_
        refine r_getR (k' := 230) dX12_even_99 fl_X12_107 kdc_198 rfl ?_
        refine r_iload_n dX12_even_102 rfl rfl ?_
        refine r_iload dX12_even_103 rfl ?_
        refine r_iast dX12_even_105 kdc_230 (fun M11 => ?_)
        refine r_iinc (l' := [.ref (ga g 198), .null, .int e9, .int (y3 + 1), .int v2, .null]) dX12_even_106 rfl (inc_1 _) (Nat.le_of_ble_eq_true rfl) rfl rfl ?_
        refine r_goto dX12_even_109 ?_
        exact vSub (l' := [.ref (ga g 198), .null, .int e9, .int (y3 + 1), .null, .null]) ⟨Or.inr rfl, ⟨Or.inl rfl, ⟨Or.inr rfl, ⟨Or.inr rfl, ⟨Or.inl rfl, ⟨Or.inl rfl, trivial⟩⟩⟩⟩⟩⟩ (ih _ _ _)
set_option maxHeartbeats 4000000 in
set_option maxRecDepth 100000 in
theorem vX12_even {g : G}   (p1 : Int32) (M : Mem) : V g uX12_even 3 rvW rmW 0 [.ref (ga g 198), .int p1, .null, .null, .null, .null] [] M (fX12_even p1 M) := by
  unfold fX12_even
  refine r_aload_n dX12_even_0 rfl rfl ?_
  refine r_iconst ic_0 dX12_even_1 ?_
  refine r_put dX12_even_2 fw_X12_122 kdc_198 (fun M1 => ?_)
  refine r_iload_n dX12_even_5 rfl rfl ?_
  refine r_iconst ic_m1 dX12_even_6 ?_
  refine r_icmp_eq dX12_even_7 (fun h => eT h ?_) (fun h => eF h ?_)
  · refine r_iconst ic_0 dX12_even_31 ?_
    refine r_istore_n (l' := [.ref (ga g 198), .int p1, .int 0, .null, .null, .null]) dX12_even_32 rfl (Nat.le_of_ble_eq_true rfl) rfl rfl ?_
    refine r_iconst ic_0 dX12_even_33 ?_
    refine r_istore_n (l' := [.ref (ga g 198), .int p1, .int 0, .int 0, .null, .null]) dX12_even_34 rfl (Nat.le_of_ble_eq_true rfl) rfl rfl ?_
    refine vSub (l' := [.ref (ga g 198), .null, .int 0, .int 0, .null, .null]) ⟨Or.inr rfl, ⟨Or.inl rfl, ⟨Or.inr rfl, ⟨Or.inr rfl, ⟨Or.inl rfl, ⟨Or.inl rfl, trivial⟩⟩⟩⟩⟩⟩ ?_
    refine vX12_even_L35  FU _ _ _
  · refine r_aload_n dX12_even_10 rfl rfl ?_
    refine r_iload_n dX12_even_11 rfl rfl ?_
    refine r_iconst ic_0 dX12_even_12 ?_
    refine r_bipush bp_90 dX12_even_13 ?_
    refine r_calliT (cl_V [.int p1, .int 0, .int 90] bX12_isIn (by decide) dX12_even_15 ml_X12_140 kdc_198 rfl (Nat.le_of_ble_eq_true rfl) rfl) (kX12_isIn _ _ _ _) ?_
    refine r_if_eq dX12_even_18 (fun h => eT h ?_) (fun h => eF h ?_)
    · refine r_iconst ic_m1 dX12_even_29 ?_
      exact vRet rfl rfl rfl dX12_even_30
    · refine r_aload_n dX12_even_21 rfl rfl ?_
      refine r_iload_n dX12_even_22 rfl rfl ?_
      refine r_calli (cl_V [.int p1] bX12_linesThatCome (by decide) dX12_even_23 ml_X12_425 kdc_198 rfl (Nat.le_of_ble_eq_true rfl) rfl) (kX12_linesThatCome _ _) (fun v12 _ => ?_)
      refine r_goto dX12_even_26 ?_
      exact vRet rfl rfl rfl dX12_even_30
theorem kX12_even {g : G}   (p1 : Int32) (M : Mem) : CtrI g uX12_even 3 (fun r => r.1) rmW [.ref (ga g 198), .int p1] M (fX12_even p1 M) := CtrI.of mX12_even rfl (Nat.le_of_ble_eq_true rfl) rfl (vX12_even p1 M)
set_option maxHeartbeats 4000000 in
set_option maxRecDepth 100000 in
theorem vX11_rule {g : G}   (p1 : Int32) (p2 : Int32) (M : Mem) : V g uX11_rule 3 rvW rmW 0 [.ref (ga g 0), .int p1, .int p2] [] M (fX11_rule p1 p2 M) := by
  unfold fX11_rule
  refine r_iload_n dX11_rule_0 rfl rfl ?_
  refine r_if_ne dX11_rule_1 (fun h => eF h ?_) (fun h => eT h ?_)
  · refine r_iload_n dX11_rule_19 rfl rfl ?_
    refine r_iconst ic_1 dX11_rule_20 ?_
    refine r_icmp_ne dX11_rule_21 (fun h => eF h ?_) (fun h => eT h ?_)
    · refine r_iconst ic_m1 dX11_rule_41 ?_
      exact vRet rfl rfl rfl dX11_rule_42
    · refine r_aload_n dX11_rule_24 rfl rfl ?_
      refine r_getR (k' := 1) dX11_rule_25 fl_X11_12 kdc_0 rfl ?_
      refine r_getR (k' := 40) dX11_rule_28 fl_X11_262 kdc_1 rfl ?_
      refine r_getR (k' := 47) dX11_rule_31 fl_X11_340 kdc_40 rfl ?_
      refine r_iload_n dX11_rule_34 rfl rfl ?_
      refine r_calli (cl_V [.int p2] bX7_tell (by decide) dX11_rule_35 ml_X11_272 kdc_47 rfl (Nat.le_of_ble_eq_true rfl) rfl) (kX7_tell kdc_47 _ _) (fun r1 _ => ?_)
      refine r_goto dX11_rule_38 ?_
      exact vRet rfl rfl rfl dX11_rule_42
  · refine r_aload_n dX11_rule_4 rfl rfl ?_
    refine r_getR (k' := 1) dX11_rule_5 fl_X11_12 kdc_0 rfl ?_
    refine r_getR (k' := 40) dX11_rule_8 fl_X11_262 kdc_1 rfl ?_
    refine r_getR (k' := 45) dX11_rule_11 fl_X11_337 kdc_40 rfl ?_
    refine r_iload_n dX11_rule_14 rfl rfl ?_
    refine r_calli (cl_V [.int p2] bX7_tell (by decide) dX11_rule_15 ml_X11_272 kdc_45 rfl (Nat.le_of_ble_eq_true rfl) rfl) (kX7_tell kdc_45 _ _) (fun r2 _ => ?_)
    exact vRet rfl rfl rfl dX11_rule_18
theorem kX11_rule {g : G}   (p1 : Int32) (p2 : Int32) (M : Mem) : CtrI g uX11_rule 3 (fun r => r.1) rmW [.ref (ga g 0), .int p1, .int p2] M (fX11_rule p1 p2 M) := CtrI.of mX11_rule rfl (Nat.le_of_ble_eq_true rfl) rfl (vX11_rule p1 p2 M)
set_option maxHeartbeats 4000000 in
set_option maxRecDepth 100000 in
theorem vX12_rule_L77 {g : G}  (K110 : Option (Int32 × Mem)) (z1 : Int32) (z2 : Int32)  (M : Mem)  (hK110 : V g uX12_rule 2 rvW rmW 110 [.ref (ga g 198), .int z1, .int z2, .null] [] M (K110)) : ∀ (n : Nat) (y3 : Int32), V g uX12_rule 2 rvW rmW 77 [.ref (ga g 198), .int z1, .int z2, .int y3] [] M (fX12_rule_L77 K110 z1 z2 M n y3) := by
  intro n
  induction n with
  | zero => intro y3; exact vNone
  | succ n ih =>
    intro y3
    rw [fX12_rule_L77]
    refine r_iload_n dX12_rule_77 rfl rfl ?_
    refine r_aload_n dX12_rule_78 rfl rfl ?_
    refine r_getR (k' := 231) dX12_rule_79 fl_X12_110 kdc_198 rfl ?_
    refine r_iload_n dX12_rule_82 rfl rfl ?_
    refine r_iald dX12_rule_83 kdc_231 (fun v7 => ?_)
    refine r_icmp_ge dX12_rule_84 (fun h => eT h ?_) (fun h => eF h ?_)
    · exact vSub (l' := [.ref (ga g 198), .int z1, .int z2, .null]) ⟨Or.inr rfl, ⟨Or.inr rfl, ⟨Or.inr rfl, ⟨Or.inl rfl, trivial⟩⟩⟩⟩ (hK110 )
    · refine r_aload_n dX12_rule_87 rfl rfl ?_
      refine r_getR (k' := 232) dX12_rule_88 fl_X12_113 kdc_198 rfl ?_
      refine r_bipush bp_8 dX12_rule_91 ?_
      refine r_iload_n dX12_rule_93 rfl rfl ?_
      refine r_imul dX12_rule_94 ?_
      refine r_iload_n dX12_rule_95 rfl rfl ?_
      refine r_iadd dX12_rule_96 ?_
      refine r_iald dX12_rule_97 kdc_232 (fun v8 => ?_)
      refine r_iload_n dX12_rule_98 rfl rfl ?_
      refine r_icmp_ne dX12_rule_99 (fun h => eF h ?_) (fun h => eT h ?_)
      · refine r_iinc (l' := [.ref (ga g 198), .int z1, .int z2, .int (y3 + 1)]) dX12_rule_104 rfl (inc_1 _) (Nat.le_of_ble_eq_true rfl) rfl rfl ?_
        refine r_goto dX12_rule_107 ?_
        exact ih _
      · refine r_iconst ic_m1 dX12_rule_102 ?_
        exact vRet rfl rfl rfl dX12_rule_103
set_option maxHeartbeats 4000000 in
set_option maxRecDepth 100000 in
theorem vX12_rule {g : G}   (p1 : Int32) (p2 : Int32) (M : Mem) : V g uX12_rule 2 rvW rmW 0 [.ref (ga g 198), .int p1, .int p2, .null] [] M (fX12_rule p1 p2 M) := by
  unfold fX12_rule
  refine r_aload_n dX12_rule_0 rfl rfl ?_
  refine r_iconst ic_0 dX12_rule_1 ?_
  refine r_put dX12_rule_2 fw_X12_122 kdc_198 (fun M1 => ?_)
  refine r_aload_n dX12_rule_5 rfl rfl ?_
  refine r_iload_n dX12_rule_6 rfl rfl ?_
  refine r_iconst ic_0 dX12_rule_7 ?_
  refine r_iconst ic_1 dX12_rule_8 ?_
  refine r_calliT (cl_V [.int p1, .int 0, .int 1] bX12_isIn (by decide) dX12_rule_9 ml_X12_140 kdc_198 rfl (Nat.le_of_ble_eq_true rfl) rfl) (kX12_isIn _ _ _ _) ?_
  refine r_if_ne dX12_rule_12 (fun h => eF h ?_) (fun h => eT h ?_)
  · refine r_iload_n dX12_rule_17 rfl rfl ?_
    refine r_iconst ic_m1 dX12_rule_18 ?_
    refine r_icmp_ne dX12_rule_19 (fun h => eF h ?_) (fun h => eT h ?_)
    · refine r_aload_n dX12_rule_31 rfl rfl ?_
      refine r_iload_n dX12_rule_32 rfl rfl ?_
      refine r_iconst ic_1 dX12_rule_33 ?_
      refine r_iload_n dX12_rule_34 rfl rfl ?_
      refine r_isub dX12_rule_35 ?_
      refine r_iload_n dX12_rule_36 rfl rfl ?_
      refine eJ (fun (J2 : (Int32) → Option (Int32 × Mem)) => ∀ (t3 : Int32), V g uX12_rule 2 rvW rmW 48 [.ref (ga g 198), .int p1, .int p2, .null] [.int t3, .int (1 - p1), .int p2, .ref (ga g 198)] M1 (J2 t3)) (fun t3 => ?_) (fun J2 hJ2 => ?_)
      · refine r_calliT (cl_V [.int p2, .int (1 - p1), .int t3] bX12_isIn (by decide) dX12_rule_48 ml_X12_140 kdc_198 rfl (Nat.le_of_ble_eq_true rfl) rfl) (kX12_isIn _ _ _ _) ?_
        refine r_if_eq dX12_rule_51 (fun h => eT h ?_) (fun h => eF h ?_)
        · refine r_iconst ic_m1 dX12_rule_73 ?_
          exact vRet rfl rfl rfl dX12_rule_74
        · refine r_aload_n dX12_rule_54 rfl rfl ?_
          refine r_getR (k' := 231) dX12_rule_55 fl_X12_110 kdc_198 rfl ?_
          refine r_iload_n dX12_rule_58 rfl rfl ?_
          refine r_iald dX12_rule_59 kdc_231 (fun v4 => ?_)
          refine r_iload_n dX12_rule_60 rfl rfl ?_
          refine eJ (fun (J5 : (Int32) → Option (Int32 × Mem)) => ∀ (t6 : Int32), V g uX12_rule 2 rvW rmW 70 [.ref (ga g 198), .int p1, .int p2, .null] [.int t6, .int v4] M1 (J5 t6)) (fun t6 => ?_) (fun J5 hJ5 => ?_)
          · refine r_icmp_ne dX12_rule_70 (fun h => eF h ?_) (fun h => eT h ?_)
            · refine r_iconst ic_0 dX12_rule_75 ?_
              refine r_istore_n (l' := [.ref (ga g 198), .int p1, .int p2, .int 0]) dX12_rule_76 rfl (Nat.le_of_ble_eq_true rfl) rfl rfl ?_
              refine vX12_rule_L77 _ _ _ _ (?_) FU _
              · refine r_aload_n dX12_rule_110 rfl rfl ?_
                refine r_getR (k' := 232) dX12_rule_111 fl_X12_113 kdc_198 rfl ?_
                refine r_bipush bp_8 dX12_rule_114 ?_
                refine r_iload_n dX12_rule_116 rfl rfl ?_
                refine r_imul dX12_rule_117 ?_
                refine r_aload_n dX12_rule_118 rfl rfl ?_
                refine r_getR (k' := 231) dX12_rule_119 fl_X12_110 kdc_198 rfl ?_
                refine r_iload_n dX12_rule_122 rfl rfl ?_
                refine r_iald dX12_rule_123 kdc_231 (fun v9 => ?_)
                refine r_iadd dX12_rule_124 ?_
                refine r_iload_n dX12_rule_125 rfl rfl ?_
                refine r_iast dX12_rule_126 kdc_232 (fun M10 => ?_)
                refine r_aload_n dX12_rule_127 rfl rfl ?_
                refine r_getR (k' := 231) dX12_rule_128 fl_X12_110 kdc_198 rfl ?_
                refine r_iload_n dX12_rule_131 rfl rfl ?_
                refine r_aload_n dX12_rule_132 rfl rfl ?_
                refine r_getR (k' := 231) dX12_rule_133 fl_X12_110 kdc_198 rfl ?_
                refine r_iload_n dX12_rule_136 rfl rfl ?_
                refine r_iald dX12_rule_137 kdc_231 (fun v11 => ?_)
                refine r_iconst ic_1 dX12_rule_138 ?_
                refine r_iadd dX12_rule_139 ?_
                refine r_iast dX12_rule_140 kdc_231 (fun M12 => ?_)
                refine r_aload_n dX12_rule_141 rfl rfl ?_
                refine r_getR (k' := 231) dX12_rule_142 fl_X12_110 kdc_198 rfl ?_
                refine r_iload_n dX12_rule_145 rfl rfl ?_
                refine r_iald dX12_rule_146 kdc_231 (fun v13 => ?_)
                exact vRet rfl rfl rfl dX12_rule_147
            · refine r_iconst ic_m1 dX12_rule_73 ?_
              exact vRet rfl rfl rfl dX12_rule_74
          · refine r_if_ne dX12_rule_61 (fun h => eF h ?_) (fun h => eT h ?_)
            · refine r_bipush bp_8 dX12_rule_68 ?_
              exact hJ5 _
            · refine r_iconst ic_5 dX12_rule_64 ?_
              refine r_goto dX12_rule_65 ?_
              exact hJ5 _
      · refine r_if_ne dX12_rule_37 (fun h => eF h ?_) (fun h => eT h ?_)
        · refine r_sipush sp_200 dX12_rule_45 ?_
          exact hJ2 _
        · refine r_bipush bp_9 dX12_rule_40 ?_
          refine r_goto dX12_rule_42 ?_
          exact hJ2 _
    · refine r_aload_n dX12_rule_22 rfl rfl ?_
      refine r_getR (k' := 231) dX12_rule_23 fl_X12_110 kdc_198 rfl ?_
      refine r_iload_n dX12_rule_26 rfl rfl ?_
      refine r_iconst ic_0 dX12_rule_27 ?_
      refine r_iast dX12_rule_28 kdc_231 (fun M14 => ?_)
      refine r_iconst ic_0 dX12_rule_29 ?_
      exact vRet rfl rfl rfl dX12_rule_30
  · refine r_iconst ic_m1 dX12_rule_15 ?_
    exact vRet rfl rfl rfl dX12_rule_16
theorem kX12_rule {g : G}   (p1 : Int32) (p2 : Int32) (M : Mem) : CtrI g uX12_rule 2 (fun r => r.1) rmW [.ref (ga g 198), .int p1, .int p2] M (fX12_rule p1 p2 M) := CtrI.of mX12_rule rfl (Nat.le_of_ble_eq_true rfl) rfl (vX12_rule p1 p2 M)
set_option maxHeartbeats 4000000 in
set_option maxRecDepth 100000 in
theorem vX10_leastStep_L4 {g : G}   (z1 : Int32)  (M : Mem)   : ∀ (n : Nat) (y2 : Int32) (y3 : Int32), V g uX10_leastStep 2 rvI (rmP M) 4 [.ref (ga g 40), .int z1, .int y2, .int y3, .null, .null] [] M (fX10_leastStep_L4 z1 M n y2 y3) := by
  intro n
  induction n with
  | zero => intro y2 y3; exact vNone
  | succ n ih =>
    intro y2 y3
    rw [fX10_leastStep_L4]
    refine r_iload_n dX10_leastStep_4 rfl rfl ?_
    refine r_aload_n dX10_leastStep_5 rfl rfl ?_
    refine r_getR (k' := 45) dX10_leastStep_6 fl_X10_23 kdc_40 rfl ?_
    refine r_getI dX10_leastStep_9 fl_X10_53 kdc_45 ?_
    refine r_icmp_ge dX10_leastStep_12 (fun h => eT h ?_) (fun h => eF h ?_)
    · refine r_iload_n dX10_leastStep_87 rfl rfl ?_
      exact vRet rfl rfl rfl dX10_leastStep_88
    · refine r_aload_n dX10_leastStep_15 rfl rfl ?_
      refine r_getR (k' := 45) dX10_leastStep_16 fl_X10_23 kdc_40 rfl ?_
      refine r_getR (k' := 46) dX10_leastStep_19 fl_X10_57 kdc_45 rfl ?_
      refine r_iload_n dX10_leastStep_22 rfl rfl ?_
      refine r_iald dX10_leastStep_23 kdc_46 (fun v1 => ?_)
      refine r_istore (l' := [.ref (ga g 40), .int z1, .int y2, .int y3, .int v1, .null]) dX10_leastStep_24 (Nat.le_of_ble_eq_true rfl) rfl rfl ?_
      refine r_iload_n dX10_leastStep_26 rfl rfl ?_
      refine r_iload dX10_leastStep_27 rfl ?_
      refine r_isub dX10_leastStep_29 ?_
      refine r_bndi (fun x2 => ?_)
      refine r_istore (l' := [.ref (ga g 40), .int z1, .int y2, .int y3, .int v1, .int x2]) dX10_leastStep_30 (Nat.le_of_ble_eq_true rfl) rfl rfl ?_
      refine r_iload dX10_leastStep_32 rfl ?_
      refine eJ (fun (J3 : (Int32) → Option (Int32)) => ∀ (a4 : Int32), V g uX10_leastStep 2 rvI (rmP M) 81 [.ref (ga g 40), .int z1, .int a4, .int y3, .null, .null] [] M (J3 a4)) (fun a4 => ?_) (fun J3 hJ3 => ?_)
      · refine r_iinc (l' := [.ref (ga g 40), .int z1, .int a4, .int (y3 + 1), .null, .null]) dX10_leastStep_81 rfl (inc_1 _) (Nat.le_of_ble_eq_true rfl) rfl rfl ?_
        refine r_goto dX10_leastStep_84 ?_
        exact ih _ _
      · refine r_if_lt dX10_leastStep_34 (fun h => eT h ?_) (fun h => eF h ?_)
        · exact vSub (l' := [.ref (ga g 40), .int z1, .int y2, .int y3, .null, .null]) ⟨Or.inr rfl, ⟨Or.inr rfl, ⟨Or.inr rfl, ⟨Or.inr rfl, ⟨Or.inl rfl, ⟨Or.inl rfl, trivial⟩⟩⟩⟩⟩⟩ (hJ3 _)
        · refine r_iload dX10_leastStep_37 rfl ?_
          refine r_sipush sp_200 dX10_leastStep_39 ?_
          refine r_icmp_gt dX10_leastStep_42 (fun h => eT h ?_) (fun h => eF h ?_)
          · exact vSub (l' := [.ref (ga g 40), .int z1, .int y2, .int y3, .null, .null]) ⟨Or.inr rfl, ⟨Or.inr rfl, ⟨Or.inr rfl, ⟨Or.inr rfl, ⟨Or.inl rfl, ⟨Or.inl rfl, trivial⟩⟩⟩⟩⟩⟩ (hJ3 _)
          · refine r_aload_n dX10_leastStep_45 rfl rfl ?_
            refine r_getR (k' := 47) dX10_leastStep_46 fl_X10_26 kdc_40 rfl ?_
            refine r_iload dX10_leastStep_49 rfl ?_
            refine r_calli (cl_V [.int x2] bX7_has (by decide) dX10_leastStep_51 ml_X10_87 kdc_47 rfl (Nat.le_of_ble_eq_true rfl) rfl) (kX7_has kdc_47 _ _) (fun v5 _ => ?_)
            refine r_if_ne dX10_leastStep_54 (fun h => eF h ?_) (fun h => eT h ?_)
            · exact vSub (l' := [.ref (ga g 40), .int z1, .int y2, .int y3, .null, .null]) ⟨Or.inr rfl, ⟨Or.inr rfl, ⟨Or.inr rfl, ⟨Or.inr rfl, ⟨Or.inl rfl, ⟨Or.inl rfl, trivial⟩⟩⟩⟩⟩⟩ (hJ3 _)
            · refine r_aload_n dX10_leastStep_57 rfl rfl ?_
              refine r_getR (k' := 52) dX10_leastStep_58 fl_X10_39 kdc_40 rfl ?_
              refine r_iload dX10_leastStep_61 rfl ?_
              refine r_zald dX10_leastStep_63 kdc_52 (fun v6 => ?_)
              refine r_if_ne dX10_leastStep_64 (fun h => eF h ?_) (fun h => eT h ?_)
              · exact vSub (l' := [.ref (ga g 40), .int z1, .int y2, .int y3, .null, .null]) ⟨Or.inr rfl, ⟨Or.inr rfl, ⟨Or.inr rfl, ⟨Or.inr rfl, ⟨Or.inl rfl, ⟨Or.inl rfl, trivial⟩⟩⟩⟩⟩⟩ (hJ3 _)
              · refine r_iload_n dX10_leastStep_67 rfl rfl ?_
                refine r_iconst ic_m1 dX10_leastStep_68 ?_
                refine eJ (fun (J7 : Option (Int32)) => V g uX10_leastStep 2 rvI (rmP M) 78 [.ref (ga g 40), .int z1, .null, .int y3, .int v1, .null] [] M (J7)) ( ?_) (fun J7 hJ7 => ?_)
                · refine r_iload dX10_leastStep_78 rfl ?_
                  refine r_istore_n (l' := [.ref (ga g 40), .int z1, .int v1, .int y3, .int v1, .null]) dX10_leastStep_80 rfl (Nat.le_of_ble_eq_true rfl) rfl rfl ?_
                  exact vSub (l' := [.ref (ga g 40), .int z1, .int v1, .int y3, .null, .null]) ⟨Or.inr rfl, ⟨Or.inr rfl, ⟨Or.inr rfl, ⟨Or.inr rfl, ⟨Or.inl rfl, ⟨Or.inl rfl, trivial⟩⟩⟩⟩⟩⟩ (hJ3 _)
                · refine r_icmp_eq dX10_leastStep_69 (fun h => eT h ?_) (fun h => eF h ?_)
                  · exact vSub (l' := [.ref (ga g 40), .int z1, .null, .int y3, .int v1, .null]) ⟨Or.inr rfl, ⟨Or.inr rfl, ⟨Or.inl rfl, ⟨Or.inr rfl, ⟨Or.inr rfl, ⟨Or.inl rfl, trivial⟩⟩⟩⟩⟩⟩ (hJ7 )
                  · refine r_iload dX10_leastStep_72 rfl ?_
                    refine r_iload_n dX10_leastStep_74 rfl rfl ?_
                    refine r_icmp_ge dX10_leastStep_75 (fun h => eT h ?_) (fun h => eF h ?_)
                    · exact vSub (l' := [.ref (ga g 40), .int z1, .int y2, .int y3, .null, .null]) ⟨Or.inr rfl, ⟨Or.inr rfl, ⟨Or.inr rfl, ⟨Or.inr rfl, ⟨Or.inl rfl, ⟨Or.inl rfl, trivial⟩⟩⟩⟩⟩⟩ (hJ3 _)
                    · exact vSub (l' := [.ref (ga g 40), .int z1, .null, .int y3, .int v1, .null]) ⟨Or.inr rfl, ⟨Or.inr rfl, ⟨Or.inl rfl, ⟨Or.inr rfl, ⟨Or.inr rfl, ⟨Or.inl rfl, trivial⟩⟩⟩⟩⟩⟩ (hJ7 )
set_option maxHeartbeats 4000000 in
set_option maxRecDepth 100000 in
theorem vX10_leastStep {g : G}   (p1 : Int32) (M : Mem) : V g uX10_leastStep 2 rvI (rmP M) 0 [.ref (ga g 40), .int p1, .null, .null, .null, .null] [] M (fX10_leastStep p1 M) := by
  unfold fX10_leastStep
  refine r_iconst ic_m1 dX10_leastStep_0 ?_
  refine r_istore_n (l' := [.ref (ga g 40), .int p1, .int (-1), .null, .null, .null]) dX10_leastStep_1 rfl (Nat.le_of_ble_eq_true rfl) rfl rfl ?_
  refine r_iconst ic_0 dX10_leastStep_2 ?_
  refine r_istore_n (l' := [.ref (ga g 40), .int p1, .int (-1), .int 0, .null, .null]) dX10_leastStep_3 rfl (Nat.le_of_ble_eq_true rfl) rfl rfl ?_
  refine vX10_leastStep_L4 _ _ FU _ _
theorem kX10_leastStep {g : G}   (p1 : Int32) (M : Mem) : CtrI g uX10_leastStep 2 (fun r => r) (rmP M) [.ref (ga g 40), .int p1] M (fX10_leastStep p1 M) := CtrI.of mX10_leastStep rfl (Nat.le_of_ble_eq_true rfl) rfl (vX10_leastStep p1 M)
set_option maxHeartbeats 4000000 in
set_option maxRecDepth 100000 in
theorem vX10_workWins_L2 {g : G}  (K51 : Mem → Option (Mem)) (z1 : Int32)   (hK51 : ∀ (M : Mem), V g uX10_workWins 3 rvU rmU 51 [.null, .null, .null] [] M (K51 M)) : ∀ (n : Nat) (y2 : Int32) (M : Mem), V g uX10_workWins 3 rvU rmU 2 [.ref (ga g 40), .int z1, .int y2] [] M (fX10_workWins_L2 K51 z1 n y2 M) := by
  intro n
  induction n with
  | zero => intro y2 M; exact vNone
  | succ n ih =>
    intro y2 M
    rw [fX10_workWins_L2]
    refine r_iload_n dX10_workWins_2 rfl rfl ?_
    refine r_iload_n dX10_workWins_3 rfl rfl ?_
    refine r_icmp_gt dX10_workWins_4 (fun h => eT h ?_) (fun h => eF h ?_)
    · exact vSub (l' := [.null, .null, .null]) ⟨Or.inl rfl, ⟨Or.inl rfl, ⟨Or.inl rfl, trivial⟩⟩⟩ (hK51 _)
    · refine r_iload_n dX10_workWins_7 rfl rfl ?_
      refine r_sipush sp_200 dX10_workWins_8 ?_
      refine r_icmp_gt dX10_workWins_11 (fun h => eT h ?_) (fun h => eF h ?_)
      · exact vSub (l' := [.null, .null, .null]) ⟨Or.inl rfl, ⟨Or.inl rfl, ⟨Or.inl rfl, trivial⟩⟩⟩ (hK51 _)
      · refine r_aload_n dX10_workWins_14 rfl rfl ?_
        refine r_getR (k' := 52) dX10_workWins_15 fl_X10_39 kdc_40 rfl ?_
        refine r_iload_n dX10_workWins_18 rfl rfl ?_
        refine r_aload_n dX10_workWins_19 rfl rfl ?_
        refine r_getR (k' := 47) dX10_workWins_20 fl_X10_26 kdc_40 rfl ?_
        refine r_iload_n dX10_workWins_23 rfl rfl ?_
        refine r_calli (cl_V [.int y2] bX7_has (by decide) dX10_workWins_24 ml_X10_87 kdc_47 rfl (Nat.le_of_ble_eq_true rfl) rfl) (kX7_has kdc_47 _ _) (fun v1 _ => ?_)
        refine eJ (fun (J2 : (Int32) → Option (Mem)) => ∀ (t3 : Int32), V g uX10_workWins 3 rvU rmU 44 [.ref (ga g 40), .int z1, .int y2] [.int t3, .int y2, .ref (ga g 52)] M (J2 t3)) (fun t3 => ?_) (fun J2 hJ2 => ?_)
        · refine r_zast dX10_workWins_44 kdc_52 (fun M4 => ?_)
          refine r_iinc (l' := [.ref (ga g 40), .int z1, .int (y2 + 1)]) dX10_workWins_45 rfl (inc_1 _) (Nat.le_of_ble_eq_true rfl) rfl rfl ?_
          refine r_goto dX10_workWins_48 ?_
          exact ih _ _
        · refine eJ (fun (J5 : Option (Mem)) => V g uX10_workWins 3 rvU rmU 43 [.ref (ga g 40), .int z1, .int y2] [.int y2, .ref (ga g 52)] M (J5)) ( ?_) (fun J5 hJ5 => ?_)
          · refine r_iconst ic_0 dX10_workWins_43 ?_
            exact hJ2 _
          · refine r_if_ne dX10_workWins_27 (fun h => eF h ?_) (fun h => eT h ?_)
            · exact hJ5
            · refine r_aload_n dX10_workWins_30 rfl rfl ?_
              refine r_iload_n dX10_workWins_31 rfl rfl ?_
              refine r_calli (cl_V [.int y2] bX10_leastStep (by decide) dX10_workWins_32 ml_X10_91 kdc_40 rfl (Nat.le_of_ble_eq_true rfl) rfl) (kX10_leastStep _ _) (fun v6 _ => ?_)
              refine r_iconst ic_m1 dX10_workWins_35 ?_
              refine r_icmp_eq dX10_workWins_36 (fun h => eT h ?_) (fun h => eF h ?_)
              · exact hJ5
              · refine r_iconst ic_1 dX10_workWins_39 ?_
                refine r_goto dX10_workWins_40 ?_
                exact hJ2 _
set_option maxHeartbeats 4000000 in
set_option maxRecDepth 100000 in
theorem vX10_workWins {g : G}   (p1 : Int32) (M : Mem) : V g uX10_workWins 3 rvU rmU 0 [.ref (ga g 40), .int p1, .null] [] M (fX10_workWins p1 M) := by
  unfold fX10_workWins
  refine r_iconst ic_0 dX10_workWins_0 ?_
  refine r_istore_n (l' := [.ref (ga g 40), .int p1, .int 0]) dX10_workWins_1 rfl (Nat.le_of_ble_eq_true rfl) rfl rfl ?_
  refine vX10_workWins_L2 _ _ (fun M7 => ?_) FU _ _
  · exact vRet rfl rfl trivial dX10_workWins_51
theorem kX10_workWins {g : G}   (p1 : Int32) (M : Mem) : CtrV g uX10_workWins 3 rmU [.ref (ga g 40), .int p1] M (fX10_workWins p1 M) := CtrV.of mX10_workWins rfl (Nat.le_of_ble_eq_true rfl) rfl (vX10_workWins p1 M)
set_option maxHeartbeats 4000000 in
set_option maxRecDepth 100000 in
theorem vX10_winningStep {g : G}   (p1 : Int32) (M : Mem) : V g uX10_winningStep 4 rvW rmW 0 [.ref (ga g 40), .int p1] [] M (fX10_winningStep p1 M) := by
  unfold fX10_winningStep
  refine r_aload_n dX10_winningStep_0 rfl rfl ?_
  refine r_iload_n dX10_winningStep_1 rfl rfl ?_
  refine r_callv (cl_V [.int p1] bX10_workWins (by decide) dX10_winningStep_2 ml_X10_83 kdc_40 rfl (Nat.le_of_ble_eq_true rfl) rfl) (kX10_workWins _ _) (fun M1 _ => ?_)
  refine r_aload_n dX10_winningStep_5 rfl rfl ?_
  refine r_getR (k' := 47) dX10_winningStep_6 fl_X10_26 kdc_40 rfl ?_
  refine r_iload_n dX10_winningStep_9 rfl rfl ?_
  refine r_calli (cl_V [.int p1] bX7_has (by decide) dX10_winningStep_10 ml_X10_87 kdc_47 rfl (Nat.le_of_ble_eq_true rfl) rfl) (kX7_has kdc_47 _ _) (fun v2 _ => ?_)
  refine r_if_eq dX10_winningStep_13 (fun h => eT h ?_) (fun h => eF h ?_)
  · refine r_aload_n dX10_winningStep_20 rfl rfl ?_
    refine r_iload_n dX10_winningStep_21 rfl rfl ?_
    refine r_calli (cl_V [.int p1] bX10_leastStep (by decide) dX10_winningStep_22 ml_X10_91 kdc_40 rfl (Nat.le_of_ble_eq_true rfl) rfl) (kX10_leastStep _ _) (fun v3 _ => ?_)
    exact vRet rfl rfl rfl dX10_winningStep_25
  · refine r_iconst ic_m1 dX10_winningStep_16 ?_
    refine r_goto dX10_winningStep_17 ?_
    exact vRet rfl rfl rfl dX10_winningStep_25
theorem kX10_winningStep {g : G}   (p1 : Int32) (M : Mem) : CtrI g uX10_winningStep 4 (fun r => r.1) rmW [.ref (ga g 40), .int p1] M (fX10_winningStep p1 M) := CtrI.of mX10_winningStep rfl (Nat.le_of_ble_eq_true rfl) rfl (vX10_winningStep p1 M)
set_option maxHeartbeats 4000000 in
set_option maxRecDepth 100000 in
theorem vX10_winningSquares_L9 {g : G}  (K39 : Int32 → Option (Int32 × Mem)) (z1 : Int32)  (M : Mem)  (hK39 : ∀ (e2 : Int32), V g uX10_winningSquares 4 rvW rmW 39 [.null, .null, .int e2, .null] [] M (K39 e2)) : ∀ (n : Nat) (y2 : Int32) (y3 : Int32), V g uX10_winningSquares 4 rvW rmW 9 [.ref (ga g 40), .int z1, .int y2, .int y3] [] M (fX10_winningSquares_L9 K39 z1 M n y2 y3) := by
  intro n
  induction n with
  | zero => intro y2 y3; exact vNone
  | succ n ih =>
    intro y2 y3
    rw [fX10_winningSquares_L9]
    refine r_iload_n dX10_winningSquares_9 rfl rfl ?_
    refine r_iload_n dX10_winningSquares_10 rfl rfl ?_
    refine r_icmp_gt dX10_winningSquares_11 (fun h => eT h ?_) (fun h => eF h ?_)
    · exact vSub (l' := [.null, .null, .int y2, .null]) ⟨Or.inl rfl, ⟨Or.inl rfl, ⟨Or.inr rfl, ⟨Or.inl rfl, trivial⟩⟩⟩⟩ (hK39 _)
    · refine r_iload_n dX10_winningSquares_14 rfl rfl ?_
      refine r_sipush sp_200 dX10_winningSquares_15 ?_
      refine r_icmp_gt dX10_winningSquares_18 (fun h => eT h ?_) (fun h => eF h ?_)
      · exact vSub (l' := [.null, .null, .int y2, .null]) ⟨Or.inl rfl, ⟨Or.inl rfl, ⟨Or.inr rfl, ⟨Or.inl rfl, trivial⟩⟩⟩⟩ (hK39 _)
      · refine r_aload_n dX10_winningSquares_21 rfl rfl ?_
        refine r_getR (k' := 52) dX10_winningSquares_22 fl_X10_39 kdc_40 rfl ?_
        refine r_iload_n dX10_winningSquares_25 rfl rfl ?_
        refine r_zald dX10_winningSquares_26 kdc_52 (fun v2 => ?_)
        refine eJ (fun (J3 : (Int32) → Option (Int32 × Mem)) => ∀ (a4 : Int32), V g uX10_winningSquares 4 rvW rmW 33 [.ref (ga g 40), .int z1, .int a4, .int y3] [] M (J3 a4)) (fun a4 => ?_) (fun J3 hJ3 => ?_)
        · refine r_iinc (l' := [.ref (ga g 40), .int z1, .int a4, .int (y3 + 1)]) dX10_winningSquares_33 rfl (inc_1 _) (Nat.le_of_ble_eq_true rfl) rfl rfl ?_
          refine r_goto dX10_winningSquares_36 ?_
          exact ih _ _
        · refine r_if_eq dX10_winningSquares_27 (fun h => eT h ?_) (fun h => eF h ?_)
          · exact hJ3 _
          · refine r_iinc (l' := [.ref (ga g 40), .int z1, .int (y2 + 1), .int y3]) dX10_winningSquares_30 rfl (inc_1 _) (Nat.le_of_ble_eq_true rfl) rfl rfl ?_
            exact hJ3 _
set_option maxHeartbeats 4000000 in
set_option maxRecDepth 100000 in
theorem vX10_winningSquares {g : G}   (p1 : Int32) (M : Mem) : V g uX10_winningSquares 4 rvW rmW 0 [.ref (ga g 40), .int p1, .null, .null] [] M (fX10_winningSquares p1 M) := by
  unfold fX10_winningSquares
  refine r_aload_n dX10_winningSquares_0 rfl rfl ?_
  refine r_iload_n dX10_winningSquares_1 rfl rfl ?_
  refine r_callv (cl_V [.int p1] bX10_workWins (by decide) dX10_winningSquares_2 ml_X10_83 kdc_40 rfl (Nat.le_of_ble_eq_true rfl) rfl) (kX10_workWins _ _) (fun M1 _ => ?_)
  refine r_iconst ic_0 dX10_winningSquares_5 ?_
  refine r_istore_n (l' := [.ref (ga g 40), .int p1, .int 0, .null]) dX10_winningSquares_6 rfl (Nat.le_of_ble_eq_true rfl) rfl rfl ?_
  refine r_iconst ic_0 dX10_winningSquares_7 ?_
  refine r_istore_n (l' := [.ref (ga g 40), .int p1, .int 0, .int 0]) dX10_winningSquares_8 rfl (Nat.le_of_ble_eq_true rfl) rfl rfl ?_
  refine vX10_winningSquares_L9 _ _ _ (fun e5 => ?_) FU _ _
  · refine r_iload_n dX10_winningSquares_39 rfl rfl ?_
    exact vRet rfl rfl rfl dX10_winningSquares_40
theorem kX10_winningSquares {g : G}   (p1 : Int32) (M : Mem) : CtrI g uX10_winningSquares 4 (fun r => r.1) rmW [.ref (ga g 40), .int p1] M (fX10_winningSquares p1 M) := CtrI.of mX10_winningSquares rfl (Nat.le_of_ble_eq_true rfl) rfl (vX10_winningSquares p1 M)
set_option maxHeartbeats 4000000 in
set_option maxRecDepth 100000 in
theorem vX11_game {g : G}   (p1 : Int32) (p2 : Int32) (M : Mem) : V g uX11_game 5 rvW rmW 0 [.ref (ga g 0), .int p1, .int p2] [] M (fX11_game p1 p2 M) := by
  unfold fX11_game
  refine r_iload_n dX11_game_0 rfl rfl ?_
  refine r_iconst ic_0 dX11_game_1 ?_
  refine r_sipush sp_200 dX11_game_2 ?_
  refine r_calliT (cl_S [.int p1, .int 0, .int 200] bX11_isWithin (by decide) dX11_game_5 ml_X11_71 rfl (Nat.le_of_ble_eq_true rfl) rfl) (kX11_isWithin _ _ _ _) ?_
  refine r_if_ne dX11_game_8 (fun h => eF h ?_) (fun h => eT h ?_)
  · refine r_iload_n dX11_game_13 rfl rfl ?_
    refine r_if_ne dX11_game_14 (fun h => eF h ?_) (fun h => eT h ?_)
    · refine r_iload_n dX11_game_29 rfl rfl ?_
      refine r_iconst ic_1 dX11_game_30 ?_
      refine r_icmp_ne dX11_game_31 (fun h => eF h ?_) (fun h => eT h ?_)
      · refine r_iconst ic_m1 dX11_game_48 ?_
        exact vRet rfl rfl rfl dX11_game_49
      · refine r_aload_n dX11_game_34 rfl rfl ?_
        refine r_getR (k' := 1) dX11_game_35 fl_X11_12 kdc_0 rfl ?_
        refine r_getR (k' := 40) dX11_game_38 fl_X11_262 kdc_1 rfl ?_
        refine r_iload_n dX11_game_41 rfl rfl ?_
        refine r_calli (cl_V [.int p1] bX10_winningSquares (by decide) dX11_game_42 ml_X11_346 kdc_40 rfl (Nat.le_of_ble_eq_true rfl) rfl) (kX10_winningSquares _ _) (fun r1 _ => ?_)
        refine r_goto dX11_game_45 ?_
        exact vRet rfl rfl rfl dX11_game_49
    · refine r_aload_n dX11_game_17 rfl rfl ?_
      refine r_getR (k' := 1) dX11_game_18 fl_X11_12 kdc_0 rfl ?_
      refine r_getR (k' := 40) dX11_game_21 fl_X11_262 kdc_1 rfl ?_
      refine r_iload_n dX11_game_24 rfl rfl ?_
      refine r_calli (cl_V [.int p1] bX10_winningStep (by decide) dX11_game_25 ml_X11_343 kdc_40 rfl (Nat.le_of_ble_eq_true rfl) rfl) (kX10_winningStep _ _) (fun r2 _ => ?_)
      exact vRet rfl rfl rfl dX11_game_28
  · refine r_iconst ic_m1 dX11_game_11 ?_
    exact vRet rfl rfl rfl dX11_game_12
theorem kX11_game {g : G}   (p1 : Int32) (p2 : Int32) (M : Mem) : CtrI g uX11_game 5 (fun r => r.1) rmW [.ref (ga g 0), .int p1, .int p2] M (fX11_game p1 p2 M) := CtrI.of mX11_game rfl (Nat.le_of_ble_eq_true rfl) rfl (vX11_game p1 p2 M)
set_option maxHeartbeats 4000000 in
set_option maxRecDepth 100000 in
theorem vX12_isBarred_L2 {g : G}   (z1 : Int32)  (M : Mem)   : ∀ (n : Nat) (y2 : Int32), V g uX12_isBarred 1 rvI (rmP M) 2 [.ref (ga g 198), .int z1, .int y2] [] M (fX12_isBarred_L2 z1 M n y2) := by
  intro n
  induction n with
  | zero => intro y2; exact vNone
  | succ n ih =>
    intro y2
    rw [fX12_isBarred_L2]
    refine r_iload_n dX12_isBarred_2 rfl rfl ?_
    refine r_aload_n dX12_isBarred_3 rfl rfl ?_
    refine r_getR (k' := 231) dX12_isBarred_4 fl_X12_110 kdc_198 rfl ?_
    refine r_iconst ic_1 dX12_isBarred_7 ?_
    refine r_iald dX12_isBarred_8 kdc_231 (fun v1 => ?_)
    refine r_icmp_ge dX12_isBarred_9 (fun h => eT h ?_) (fun h => eF h ?_)
    · refine r_iconst ic_0 dX12_isBarred_33 ?_
      exact vRet rfl rfl rfl dX12_isBarred_34
    · refine r_aload_n dX12_isBarred_12 rfl rfl ?_
      refine r_getR (k' := 232) dX12_isBarred_13 fl_X12_113 kdc_198 rfl ?_
      refine r_bipush bp_8 dX12_isBarred_16 ?_
      refine r_iload_n dX12_isBarred_18 rfl rfl ?_
      refine r_iadd dX12_isBarred_19 ?_
      refine r_iald dX12_isBarred_20 kdc_232 (fun v2 => ?_)
      refine r_iload_n dX12_isBarred_21 rfl rfl ?_
      refine r_icmp_ne dX12_isBarred_22 (fun h => eF h ?_) (fun h => eT h ?_)
      · refine r_iinc (l' := [.ref (ga g 198), .int z1, .int (y2 + 1)]) dX12_isBarred_27 rfl (inc_1 _) (Nat.le_of_ble_eq_true rfl) rfl rfl ?_
        refine r_goto dX12_isBarred_30 ?_
        exact ih _
      · refine r_iconst ic_1 dX12_isBarred_25 ?_
        exact vRet rfl rfl rfl dX12_isBarred_26
set_option maxHeartbeats 4000000 in
set_option maxRecDepth 100000 in
theorem vX12_isBarred {g : G}   (p1 : Int32) (M : Mem) : V g uX12_isBarred 1 rvI (rmP M) 0 [.ref (ga g 198), .int p1, .null] [] M (fX12_isBarred p1 M) := by
  unfold fX12_isBarred
  refine r_iconst ic_0 dX12_isBarred_0 ?_
  refine r_istore_n (l' := [.ref (ga g 198), .int p1, .int 0]) dX12_isBarred_1 rfl (Nat.le_of_ble_eq_true rfl) rfl rfl ?_
  refine vX12_isBarred_L2 _ _ FU _
theorem kX12_isBarred {g : G}   (p1 : Int32) (M : Mem) : CtrI g uX12_isBarred 1 (fun r => r) (rmP M) [.ref (ga g 198), .int p1] M (fX12_isBarred p1 M) := CtrI.of mX12_isBarred rfl (Nat.le_of_ble_eq_true rfl) rfl (vX12_isBarred p1 M)
set_option maxHeartbeats 4000000 in
set_option maxRecDepth 100000 in
theorem vX12_goodStep_L4 {g : G}   (z1 : Int32)  (M : Mem)   : ∀ (n : Nat) (y2 : Int32) (y3 : Int32), V g uX12_goodStep 2 rvI (rmP M) 4 [.ref (ga g 198), .int z1, .int y2, .int y3, .null] [] M (fX12_goodStep_L4 z1 M n y2 y3) := by
  intro n
  induction n with
  | zero => intro y2 y3; exact vNone
  | succ n ih =>
    intro y2 y3
    rw [fX12_goodStep_L4]
    refine r_iload_n dX12_goodStep_4 rfl rfl ?_
    refine r_aload_n dX12_goodStep_5 rfl rfl ?_
    refine r_getR (k' := 231) dX12_goodStep_6 fl_X12_110 kdc_198 rfl ?_
    refine r_iconst ic_0 dX12_goodStep_9 ?_
    refine r_iald dX12_goodStep_10 kdc_231 (fun v1 => ?_)
    refine r_icmp_ge dX12_goodStep_11 (fun h => eT h ?_) (fun h => eF h ?_)
    · refine r_iload_n dX12_goodStep_80 rfl rfl ?_
      exact vRet rfl rfl rfl dX12_goodStep_81
    · refine r_iload_n dX12_goodStep_14 rfl rfl ?_
      refine r_aload_n dX12_goodStep_15 rfl rfl ?_
      refine r_getR (k' := 232) dX12_goodStep_16 fl_X12_113 kdc_198 rfl ?_
      refine r_iload_n dX12_goodStep_19 rfl rfl ?_
      refine r_iald dX12_goodStep_20 kdc_232 (fun v2 => ?_)
      refine r_isub dX12_goodStep_21 ?_
      refine r_bndi (fun x3 => ?_)
      refine r_istore (l' := [.ref (ga g 198), .int z1, .int y2, .int y3, .int x3]) dX12_goodStep_22 (Nat.le_of_ble_eq_true rfl) rfl rfl ?_
      refine r_iload dX12_goodStep_24 rfl ?_
      refine eJ (fun (J4 : (Int32) → Option (Int32)) => ∀ (a5 : Int32), V g uX12_goodStep 2 rvI (rmP M) 74 [.ref (ga g 198), .int z1, .int a5, .int y3, .null] [] M (J4 a5)) (fun a5 => ?_) (fun J4 hJ4 => ?_)
      · refine r_iinc (l' := [.ref (ga g 198), .int z1, .int a5, .int (y3 + 1), .null]) dX12_goodStep_74 rfl (inc_1 _) (Nat.le_of_ble_eq_true rfl) rfl rfl ?_
        refine r_goto dX12_goodStep_77 ?_
        exact ih _ _
      · refine r_if_lt dX12_goodStep_26 (fun h => eT h ?_) (fun h => eF h ?_)
        · exact vSub (l' := [.ref (ga g 198), .int z1, .int y2, .int y3, .null]) ⟨Or.inr rfl, ⟨Or.inr rfl, ⟨Or.inr rfl, ⟨Or.inr rfl, ⟨Or.inl rfl, trivial⟩⟩⟩⟩⟩ (hJ4 _)
        · refine r_aload_n dX12_goodStep_29 rfl rfl ?_
          refine r_iload dX12_goodStep_30 rfl ?_
          refine r_calli (cl_V [.int x3] bX12_isBarred (by decide) dX12_goodStep_32 ml_X12_428 kdc_198 rfl (Nat.le_of_ble_eq_true rfl) rfl) (kX12_isBarred _ _) (fun v6 _ => ?_)
          refine r_if_ne dX12_goodStep_35 (fun h => eF h ?_) (fun h => eT h ?_)
          · exact vSub (l' := [.ref (ga g 198), .int z1, .int y2, .int y3, .null]) ⟨Or.inr rfl, ⟨Or.inr rfl, ⟨Or.inr rfl, ⟨Or.inr rfl, ⟨Or.inl rfl, trivial⟩⟩⟩⟩⟩ (hJ4 _)
          · refine r_aload_n dX12_goodStep_38 rfl rfl ?_
            refine r_getR (k' := 233) dX12_goodStep_39 fl_X12_116 kdc_198 rfl ?_
            refine r_iload dX12_goodStep_42 rfl ?_
            refine r_iald dX12_goodStep_44 kdc_233 (fun v7 => ?_)
            refine r_iconst ic_1 dX12_goodStep_45 ?_
            refine r_icmp_ne dX12_goodStep_46 (fun h => eF h ?_) (fun h => eT h ?_)
            · refine r_iload_n dX12_goodStep_52 rfl rfl ?_
              refine r_iconst ic_m1 dX12_goodStep_53 ?_
              refine eJ (fun (J8 : Option (Int32)) => V g uX12_goodStep 2 rvI (rmP M) 67 [.ref (ga g 198), .int z1, .null, .int y3, .null] [] M (J8)) ( ?_) (fun J8 hJ8 => ?_)
              · refine r_aload_n dX12_goodStep_67 rfl rfl ?_
                refine r_getR (k' := 232) dX12_goodStep_68 fl_X12_113 kdc_198 rfl ?_
                refine r_iload_n dX12_goodStep_71 rfl rfl ?_
                refine r_iald dX12_goodStep_72 kdc_232 (fun v9 => ?_)
                refine r_istore_n (l' := [.ref (ga g 198), .int z1, .int v9, .int y3, .null]) dX12_goodStep_73 rfl (Nat.le_of_ble_eq_true rfl) rfl rfl ?_
                exact hJ4 _
              · refine r_icmp_eq dX12_goodStep_54 (fun h => eT h ?_) (fun h => eF h ?_)
                · exact vSub (l' := [.ref (ga g 198), .int z1, .null, .int y3, .null]) ⟨Or.inr rfl, ⟨Or.inr rfl, ⟨Or.inl rfl, ⟨Or.inr rfl, ⟨Or.inl rfl, trivial⟩⟩⟩⟩⟩ (hJ8 )
                · refine r_aload_n dX12_goodStep_57 rfl rfl ?_
                  refine r_getR (k' := 232) dX12_goodStep_58 fl_X12_113 kdc_198 rfl ?_
                  refine r_iload_n dX12_goodStep_61 rfl rfl ?_
                  refine r_iald dX12_goodStep_62 kdc_232 (fun v10 => ?_)
                  refine r_iload_n dX12_goodStep_63 rfl rfl ?_
                  refine r_icmp_ge dX12_goodStep_64 (fun h => eT h ?_) (fun h => eF h ?_)
                  · exact vSub (l' := [.ref (ga g 198), .int z1, .int y2, .int y3, .null]) ⟨Or.inr rfl, ⟨Or.inr rfl, ⟨Or.inr rfl, ⟨Or.inr rfl, ⟨Or.inl rfl, trivial⟩⟩⟩⟩⟩ (hJ4 _)
                  · exact vSub (l' := [.ref (ga g 198), .int z1, .null, .int y3, .null]) ⟨Or.inr rfl, ⟨Or.inr rfl, ⟨Or.inl rfl, ⟨Or.inr rfl, ⟨Or.inl rfl, trivial⟩⟩⟩⟩⟩ (hJ8 )
            · refine r_goto dX12_goodStep_49 ?_
              exact vSub (l' := [.ref (ga g 198), .int z1, .int y2, .int y3, .null]) ⟨Or.inr rfl, ⟨Or.inr rfl, ⟨Or.inr rfl, ⟨Or.inr rfl, ⟨Or.inl rfl, trivial⟩⟩⟩⟩⟩ (hJ4 _)
set_option maxHeartbeats 4000000 in
set_option maxRecDepth 100000 in
theorem vX12_goodStep {g : G}   (p1 : Int32) (M : Mem) : V g uX12_goodStep 2 rvI (rmP M) 0 [.ref (ga g 198), .int p1, .null, .null, .null] [] M (fX12_goodStep p1 M) := by
  unfold fX12_goodStep
  refine r_iconst ic_m1 dX12_goodStep_0 ?_
  refine r_istore_n (l' := [.ref (ga g 198), .int p1, .int (-1), .null, .null]) dX12_goodStep_1 rfl (Nat.le_of_ble_eq_true rfl) rfl rfl ?_
  refine r_iconst ic_0 dX12_goodStep_2 ?_
  refine r_istore_n (l' := [.ref (ga g 198), .int p1, .int (-1), .int 0, .null]) dX12_goodStep_3 rfl (Nat.le_of_ble_eq_true rfl) rfl rfl ?_
  refine vX12_goodStep_L4 _ _ FU _ _
theorem kX12_goodStep {g : G}   (p1 : Int32) (M : Mem) : CtrI g uX12_goodStep 2 (fun r => r) (rmP M) [.ref (ga g 198), .int p1] M (fX12_goodStep p1 M) := CtrI.of mX12_goodStep rfl (Nat.le_of_ble_eq_true rfl) rfl (vX12_goodStep p1 M)
set_option maxHeartbeats 4000000 in
set_option maxRecDepth 100000 in
theorem vX12_game_L34 {g : G}  (K87 : Int32 → Mem → Option (Int32 × Mem)) (z1 : Int32) (c2 : Int32)  (hK87 : ∀ (e3 : Int32) (M : Mem), V g uX12_game 3 rvW rmW 87 [.ref (ga g 198), .int z1, .int c2, .int e3, .null] [] M (K87 e3 M)) : ∀ (n : Nat) (y3 : Int32) (y4 : Int32) (M : Mem), V g uX12_game 3 rvW rmW 34 [.ref (ga g 198), .int z1, .int c2, .int y3, .int y4] [] M (fX12_game_L34 K87 z1 n y3 y4 M) := by
  intro n
  induction n with
  | zero => intro y3 y4 M; exact vNone
  | succ n ih =>
    intro y3 y4 M
    rw [fX12_game_L34]
    refine r_iload dX12_game_34 rfl ?_
    refine r_iload_n dX12_game_36 rfl rfl ?_
    refine r_icmp_gt dX12_game_37 (fun h => eT h ?_) (fun h => eF h ?_)
    · exact vSub (l' := [.ref (ga g 198), .int z1, .int c2, .int y3, .null]) ⟨Or.inr rfl, ⟨Or.inr rfl, ⟨Or.inr rfl, ⟨Or.inr rfl, ⟨Or.inl rfl, trivial⟩⟩⟩⟩⟩ (hK87 _ _)
    · refine r_aload_n dX12_game_40 rfl rfl ?_
      refine r_getR (k' := 233) dX12_game_41 fl_X12_116 kdc_198 rfl ?_
      refine r_iload dX12_game_44 rfl ?_
      refine r_aload_n dX12_game_46 rfl rfl ?_
      refine r_iload dX12_game_47 rfl ?_
      refine r_calli (cl_V [.int y4] bX12_goodStep (by decide) dX12_game_49 ml_X12_431 kdc_198 rfl (Nat.le_of_ble_eq_true rfl) rfl) (kX12_goodStep _ _) (fun v2 _ => ?_)
      refine r_iconst ic_m1 dX12_game_52 ?_
      refine eJ (fun (J3 : (Int32) → Option (Int32 × Mem)) => ∀ (t4 : Int32), V g uX12_game 3 rvW rmW 61 [.ref (ga g 198), .int z1, .int c2, .int y3, .int y4] [.int t4, .int y4, .ref (ga g 233)] M (J3 t4)) (fun t4 => ?_) (fun J3 hJ3 => ?_)
      · refine r_iast dX12_game_61 kdc_233 (fun M5 => ?_)
        refine r_aload_n dX12_game_62 rfl rfl ?_
        refine r_iload dX12_game_63 rfl ?_
        refine r_calli (cl_V [.int y4] bX12_isBarred (by decide) dX12_game_65 ml_X12_428 kdc_198 rfl (Nat.le_of_ble_eq_true rfl) rfl) (kX12_isBarred _ _) (fun v6 _ => ?_)
        refine eJ (fun (J7 : (Int32) → Option (Int32 × Mem)) => ∀ (a8 : Int32), V g uX12_game 3 rvW rmW 81 [.ref (ga g 198), .int z1, .int c2, .int a8, .int y4] [] M5 (J7 a8)) (fun a8 => ?_) (fun J7 hJ7 => ?_)
        · refine r_iinc (l' := [.ref (ga g 198), .int z1, .int c2, .int a8, .int (y4 + 1)]) dX12_game_81 rfl (inc_1 _) (Nat.le_of_ble_eq_true rfl) rfl rfl ?_
          refine r_goto dX12_game_84 ?_
          exact ih _ _ _
        · refine r_if_ne dX12_game_68 (fun h => eF h ?_) (fun h => eT h ?_)
          · exact hJ7 _
          · refine r_iload_n dX12_game_71 rfl rfl ?_
            refine r_aload_n dX12_game_72 rfl rfl ?_
            refine r_getR (k' := 233) dX12_game_73 fl_X12_116 kdc_198 rfl ?_
            refine r_iload dX12_game_76 rfl ?_
            refine r_iald dX12_game_78 kdc_233 (fun v9 => ?_)
            refine r_iadd dX12_game_79 ?_
            refine r_bndi (fun x10 => ?_)
            refine r_istore_n (l' := [.ref (ga g 198), .int z1, .int c2, .int x10, .int y4]) dX12_game_80 rfl (Nat.le_of_ble_eq_true rfl) rfl rfl ?_
            exact hJ7 _
      · refine r_icmp_ne dX12_game_53 (fun h => eF h ?_) (fun h => eT h ?_)
        · refine r_iconst ic_1 dX12_game_60 ?_
          exact hJ3 _
        · refine r_iconst ic_0 dX12_game_56 ?_
          refine r_goto dX12_game_57 ?_
          exact hJ3 _
set_option maxHeartbeats 4000000 in
set_option maxRecDepth 100000 in
theorem vX12_game {g : G}   (p1 : Int32) (p2 : Int32) (M : Mem) : V g uX12_game 3 rvW rmW 0 [.ref (ga g 198), .int p1, .int p2, .null, .null] [] M (fX12_game p1 p2 M) := by
  unfold fX12_game
  refine r_aload_n dX12_game_0 rfl rfl ?_
  refine r_iconst ic_0 dX12_game_1 ?_
  refine r_put dX12_game_2 fw_X12_122 kdc_198 (fun M1 => ?_)
  refine r_aload_n dX12_game_5 rfl rfl ?_
  refine r_iload_n dX12_game_6 rfl rfl ?_
  refine r_iconst ic_0 dX12_game_7 ?_
  refine r_sipush sp_200 dX12_game_8 ?_
  refine r_calliT (cl_V [.int p1, .int 0, .int 200] bX12_isIn (by decide) dX12_game_11 ml_X12_140 kdc_198 rfl (Nat.le_of_ble_eq_true rfl) rfl) (kX12_isIn _ _ _ _) ?_
  refine r_if_eq dX12_game_14 (fun h => eT h ?_) (fun h => eF h ?_)
  · refine r_iconst ic_m1 dX12_game_27 ?_
    exact vRet rfl rfl rfl dX12_game_28
  · refine r_aload_n dX12_game_17 rfl rfl ?_
    refine r_iload_n dX12_game_18 rfl rfl ?_
    refine r_iconst ic_0 dX12_game_19 ?_
    refine r_iconst ic_1 dX12_game_20 ?_
    refine r_calliT (cl_V [.int p2, .int 0, .int 1] bX12_isIn (by decide) dX12_game_21 ml_X12_140 kdc_198 rfl (Nat.le_of_ble_eq_true rfl) rfl) (kX12_isIn _ _ _ _) ?_
    refine r_if_ne dX12_game_24 (fun h => eF h ?_) (fun h => eT h ?_)
    · refine r_iconst ic_0 dX12_game_29 ?_
      refine r_istore_n (l' := [.ref (ga g 198), .int p1, .int p2, .int 0, .null]) dX12_game_30 rfl (Nat.le_of_ble_eq_true rfl) rfl rfl ?_
      refine r_iconst ic_0 dX12_game_31 ?_
      refine r_istore (l' := [.ref (ga g 198), .int p1, .int p2, .int 0, .int 0]) dX12_game_32 (Nat.le_of_ble_eq_true rfl) rfl rfl ?_
      refine vX12_game_L34 _ _ _ (fun e11 M12 => ?_) FU _ _ _
      · refine r_iload_n dX12_game_87 rfl rfl ?_
        refine r_iconst ic_1 dX12_game_88 ?_
        refine r_icmp_ne dX12_game_89 (fun h => eF h ?_) (fun h => eT h ?_)
        · refine r_aload_n dX12_game_96 rfl rfl ?_
          refine r_iload_n dX12_game_97 rfl rfl ?_
          refine r_calli (cl_V [.int p1] bX12_isBarred (by decide) dX12_game_98 ml_X12_428 kdc_198 rfl (Nat.le_of_ble_eq_true rfl) rfl) (kX12_isBarred _ _) (fun v13 _ => ?_)
          refine r_if_eq dX12_game_101 (fun h => eT h ?_) (fun h => eF h ?_)
          · refine r_aload_n dX12_game_108 rfl rfl ?_
            refine r_iload_n dX12_game_109 rfl rfl ?_
            refine r_calli (cl_V [.int p1] bX12_goodStep (by decide) dX12_game_110 ml_X12_431 kdc_198 rfl (Nat.le_of_ble_eq_true rfl) rfl) (kX12_goodStep _ _) (fun v14 _ => ?_)
            exact vRet rfl rfl rfl dX12_game_113
          · refine r_iconst ic_m1 dX12_game_104 ?_
            refine r_goto dX12_game_105 ?_
            exact vRet rfl rfl rfl dX12_game_113
        · refine r_iload_n dX12_game_92 rfl rfl ?_
          refine r_goto dX12_game_93 ?_
          exact vRet rfl rfl rfl dX12_game_113
    · refine r_iconst ic_m1 dX12_game_27 ?_
      exact vRet rfl rfl rfl dX12_game_28
theorem kX12_game {g : G}   (p1 : Int32) (p2 : Int32) (M : Mem) : CtrI g uX12_game 3 (fun r => r.1) rmW [.ref (ga g 198), .int p1, .int p2] M (fX12_game p1 p2 M) := CtrI.of mX12_game rfl (Nat.le_of_ble_eq_true rfl) rfl (vX12_game p1 p2 M)
set_option maxHeartbeats 4000000 in
set_option maxRecDepth 100000 in
theorem vX6_goBack {g : G}    (M : Mem) : V g uX6_goBack 3 rvW rmW 0 [.ref (ga g 105), .ref (ga g 1)] [] M (fX6_goBack M) := by
  unfold fX6_goBack
  refine r_aload_n dX6_goBack_0 rfl rfl ?_
  refine r_getI dX6_goBack_1 fl_X6_22 kdc_105 ?_
  refine r_if_gt dX6_goBack_4 (fun h => eT h ?_) (fun h => eF h ?_)
  · refine r_aload_n dX6_goBack_9 rfl rfl ?_
    refine r_aload_n dX6_goBack_10 rfl rfl ?_
    refine r_getI dX6_goBack_11 fl_X6_26 kdc_105 ?_
    refine eJ (fun (J1 : (Int32) → Option (Int32 × Mem)) => ∀ (t2 : Int32), V g uX6_goBack 3 rvW rmW 27 [.ref (ga g 105), .ref (ga g 1)] [.int t2, .ref (ga g 105)] M (J1 t2)) (fun t2 => ?_) (fun J1 hJ1 => ?_)
    · refine r_put dX6_goBack_27 fw_X6_26 kdc_105 (fun M3 => ?_)
      refine r_aload_n dX6_goBack_30 rfl rfl ?_
      refine r_dup dX6_goBack_31 rfl ?_
      refine r_getI dX6_goBack_32 fl_X6_22 kdc_105 ?_
      refine r_iconst ic_1 dX6_goBack_35 ?_
      refine r_isub dX6_goBack_36 ?_
      refine r_put dX6_goBack_37 fw_X6_22 kdc_105 (fun M4 => ?_)
      refine r_aload_n dX6_goBack_40 rfl rfl ?_
      refine r_getR (k' := 2) dX6_goBack_41 fl_X6_39 kdc_1 rfl ?_
      refine r_aload_n dX6_goBack_44 rfl rfl ?_
      refine r_getR (k' := 106) dX6_goBack_45 fl_X6_11 kdc_105 rfl ?_
      refine r_aload_n dX6_goBack_48 rfl rfl ?_
      refine r_getI dX6_goBack_49 fl_X6_26 kdc_105 ?_
      refine r_aald dX6_goBack_52 kdc_106 (fun q5 => ?_)
      refine eK (fun hq5 => ?_)
      refine r_callv (cl_V [.ref (ga g q5)] bX9_copyFrom (by decide) dX6_goBack_53 ml_X6_29 kdc_2 rfl (Nat.le_of_ble_eq_true rfl) rfl) (kX9_copyFrom kdc_2 hq5 _) (fun M6 _ => ?_)
      refine r_aload_n dX6_goBack_56 rfl rfl ?_
      refine r_getR (k' := 12) dX6_goBack_57 fl_X6_45 kdc_1 rfl ?_
      refine r_aload_n dX6_goBack_60 rfl rfl ?_
      refine r_getR (k' := 107) dX6_goBack_61 fl_X6_17 kdc_105 rfl ?_
      refine r_aload_n dX6_goBack_64 rfl rfl ?_
      refine r_getI dX6_goBack_65 fl_X6_26 kdc_105 ?_
      refine r_iald dX6_goBack_68 kdc_107 (fun v7 => ?_)
      refine r_put dX6_goBack_69 fw_X6_49 kdc_12 (fun M8 => ?_)
      refine r_iconst ic_1 dX6_goBack_72 ?_
      exact vRet rfl rfl rfl dX6_goBack_73
    · refine r_if_le dX6_goBack_14 (fun h => eT h ?_) (fun h => eF h ?_)
      · refine r_iconst ic_5 dX6_goBack_26 ?_
        exact hJ1 _
      · refine r_aload_n dX6_goBack_17 rfl rfl ?_
        refine r_getI dX6_goBack_18 fl_X6_26 kdc_105 ?_
        refine r_iconst ic_1 dX6_goBack_21 ?_
        refine r_isub dX6_goBack_22 ?_
        refine r_goto dX6_goBack_23 ?_
        exact hJ1 _
  · refine r_iconst ic_0 dX6_goBack_7 ?_
    exact vRet rfl rfl rfl dX6_goBack_8
theorem kX6_goBack {g : G}    (M : Mem) : CtrI g uX6_goBack 3 (fun r => r.1) rmW [.ref (ga g 105), .ref (ga g 1)] M (fX6_goBack M) := CtrI.of mX6_goBack rfl (Nat.le_of_ble_eq_true rfl) rfl (vX6_goBack M)
set_option maxHeartbeats 4000000 in
set_option maxRecDepth 100000 in
theorem vX11_undo {g : G}    (M : Mem) : V g uX11_undo 4 rvW rmW 0 [.ref (ga g 0)] [] M (fX11_undo M) := by
  unfold fX11_undo
  refine r_aload_n dX11_undo_0 rfl rfl ?_
  refine r_getR (k' := 105) dX11_undo_1 fl_X11_22 kdc_0 rfl ?_
  refine r_aload_n dX11_undo_4 rfl rfl ?_
  refine r_getR (k' := 1) dX11_undo_5 fl_X11_12 kdc_0 rfl ?_
  refine r_calli (cl_V [.ref (ga g 1)] bX6_goBack (by decide) dX11_undo_8 ml_X11_349 kdc_105 rfl (Nat.le_of_ble_eq_true rfl) rfl) (kX6_goBack _) (fun r1 _ => ?_)
  exact vRetZ rfl rfl rfl dX11_undo_11
theorem kX11_undo {g : G}    (M : Mem) : CtrI g uX11_undo 4 (fun r => r.1) rmW [.ref (ga g 0)] M (fX11_undo M) := CtrI.of mX11_undo rfl (Nat.le_of_ble_eq_true rfl) rfl (vX11_undo M)
set_option maxHeartbeats 4000000 in
set_option maxRecDepth 100000 in
theorem vX12_undo_L26 {g : G}       : ∀ (n : Nat) (y1 : Int32) (M : Mem), V g uX12_undo 1 rvW rmW 26 [.ref (ga g 198), .int y1] [] M (fX12_undo_L26 n y1 M) := by
  intro n
  induction n with
  | zero => intro y1 M; exact vNone
  | succ n ih =>
    intro y1 M
    rw [fX12_undo_L26]
    refine r_iload_n dX12_undo_26 rfl rfl ?_
    refine r_bipush bp_83 dX12_undo_27 ?_
    refine r_icmp_ge dX12_undo_29 (fun h => eT h ?_) (fun h => eF h ?_)
    · refine r_iconst ic_1 dX12_undo_58 ?_
      exact vRet rfl rfl rfl dX12_undo_59
    · refine r_aload_n dX12_undo_32 rfl rfl ?_
      refine r_getR (k' := 199) dX12_undo_33 fl_X12_7 kdc_198 rfl ?_
      refine r_iload_n dX12_undo_36 rfl rfl ?_
      refine r_aload_n dX12_undo_37 rfl rfl ?_
      refine r_getR (k' := 200) dX12_undo_38 fl_X12_13 kdc_198 rfl ?_
      refine r_bipush bp_83 dX12_undo_41 ?_
      refine r_aload_n dX12_undo_43 rfl rfl ?_
      refine r_getI dX12_undo_44 fl_X12_125 kdc_198 ?_
      refine r_imul dX12_undo_47 ?_
      refine r_iload_n dX12_undo_48 rfl rfl ?_
      refine r_iadd dX12_undo_49 ?_
      refine r_iald dX12_undo_50 kdc_200 (fun v3 => ?_)
      refine r_iast dX12_undo_51 kdc_199 (fun M4 => ?_)
      refine r_iinc (l' := [.ref (ga g 198), .int (y1 + 1)]) dX12_undo_52 rfl (inc_1 _) (Nat.le_of_ble_eq_true rfl) rfl rfl ?_
      refine r_goto dX12_undo_55 ?_
      exact ih _ _
set_option maxHeartbeats 4000000 in
set_option maxRecDepth 100000 in
theorem vX12_undo {g : G}    (M : Mem) : V g uX12_undo 1 rvW rmW 0 [.ref (ga g 198), .null] [] M (fX12_undo M) := by
  unfold fX12_undo
  refine r_aload_n dX12_undo_0 rfl rfl ?_
  refine r_iconst ic_0 dX12_undo_1 ?_
  refine r_put dX12_undo_2 fw_X12_122 kdc_198 (fun M1 => ?_)
  refine r_aload_n dX12_undo_5 rfl rfl ?_
  refine r_getI dX12_undo_6 fl_X12_125 kdc_198 ?_
  refine r_if_ne dX12_undo_9 (fun h => eF h ?_) (fun h => eT h ?_)
  · refine r_aload_n dX12_undo_14 rfl rfl ?_
    refine r_aload_n dX12_undo_15 rfl rfl ?_
    refine r_getI dX12_undo_16 fl_X12_125 kdc_198 ?_
    refine r_iconst ic_1 dX12_undo_19 ?_
    refine r_isub dX12_undo_20 ?_
    refine r_put dX12_undo_21 fw_X12_125 kdc_198 (fun M2 => ?_)
    refine r_iconst ic_0 dX12_undo_24 ?_
    refine r_istore_n (l' := [.ref (ga g 198), .int 0]) dX12_undo_25 rfl (Nat.le_of_ble_eq_true rfl) rfl rfl ?_
    refine vX12_undo_L26  FU _ _
  · refine r_iconst ic_0 dX12_undo_12 ?_
    exact vRet rfl rfl rfl dX12_undo_13
theorem kX12_undo {g : G}    (M : Mem) : CtrI g uX12_undo 1 (fun r => r.1) rmW [.ref (ga g 198)] M (fX12_undo M) := CtrI.of mX12_undo rfl (Nat.le_of_ble_eq_true rfl) rfl (vX12_undo M)
set_option maxHeartbeats 4000000 in
set_option maxRecDepth 100000 in
theorem vX7_copyFrom {g : G} {k0 : Nat} {k1 : Nat} (hk0 : kd k0 = (7, 5)) (hk1 : kd k1 = (7, 5))  (M : Mem) : V g uX7_copyFrom 2 rvU rmU 0 [.ref (ga g k0), .ref (ga g k1)] [] M (fX7_copyFrom k0 k1 M) := by
  unfold fX7_copyFrom
  refine r_aload_n dX7_copyFrom_0 rfl rfl ?_
  refine r_aload_n dX7_copyFrom_1 rfl rfl ?_
  refine r_getR (k' := (k0 + 1)) dX7_copyFrom_2 fl_X7_15 hk0 rfl ?_
  refine r_alen dX7_copyFrom_5 (kx_7_1 hk0) (by decide) (by decide) rfl ?_
  refine r_aload_n dX7_copyFrom_6 rfl rfl ?_
  refine r_getI dX7_copyFrom_7 fl_X7_32 hk1 ?_
  refine r_min (by decide) (Nat.le_of_ble_eq_true rfl) ml_X7_43 jmin_1 j_math jmin_2 dX7_copyFrom_10 ?_
  refine r_put dX7_copyFrom_13 fw_X7_32 hk0 (fun M1 => ?_)
  refine r_aload_n dX7_copyFrom_16 rfl rfl ?_
  refine r_getR (k' := (k1 + 1)) dX7_copyFrom_17 fl_X7_15 hk1 rfl ?_
  refine r_iconst ic_0 dX7_copyFrom_20 ?_
  refine r_aload_n dX7_copyFrom_21 rfl rfl ?_
  refine r_getR (k' := (k0 + 1)) dX7_copyFrom_22 fl_X7_15 hk0 rfl ?_
  refine r_iconst ic_0 dX7_copyFrom_25 ?_
  refine r_aload_n dX7_copyFrom_26 rfl rfl ?_
  refine r_getI dX7_copyFrom_27 fl_X7_32 hk0 ?_
  refine r_cpy (by decide) (Nat.le_of_ble_eq_true rfl) ml_X7_46 j_cp1 j_cp2 j_cp3 dX7_copyFrom_30 (kx_7_1 hk1) (kx_7_1 hk0) (fun M2 => ?_)
  exact vRet rfl rfl trivial dX7_copyFrom_33
theorem kX7_copyFrom {g : G} {k0 : Nat} {k1 : Nat} (hk0 : kd k0 = (7, 5)) (hk1 : kd k1 = (7, 5))  (M : Mem) : CtrV g uX7_copyFrom 2 rmU [.ref (ga g k0), .ref (ga g k1)] M (fX7_copyFrom k0 k1 M) := CtrV.of mX7_copyFrom rfl (Nat.le_of_ble_eq_true rfl) rfl (vX7_copyFrom hk0 hk1 M)
set_option maxHeartbeats 4000000 in
set_option maxRecDepth 100000 in
theorem vX10_copyFrom {g : G} {k0 : Nat} {k1 : Nat} (hk0 : kd k0 = (10, 8)) (hk1 : kd k1 = (10, 8))  (M : Mem) : V g uX10_copyFrom 3 rvU rmU 0 [.ref (ga g k0), .ref (ga g k1)] [] M (fX10_copyFrom k0 k1 M) := by
  unfold fX10_copyFrom
  refine r_aload_n dX10_copyFrom_0 rfl rfl ?_
  refine r_getR (k' := (k0 + 1)) dX10_copyFrom_1 fl_X10_14 hk0 rfl ?_
  refine r_aload_n dX10_copyFrom_4 rfl rfl ?_
  refine r_getR (k' := (k1 + 1)) dX10_copyFrom_5 fl_X10_14 hk1 rfl ?_
  refine r_callv (cl_V [.ref (ga g (k1 + 1))] bX7_copyFrom (by decide) dX10_copyFrom_8 ml_X10_43 (kx_10_1 hk0) rfl (Nat.le_of_ble_eq_true rfl) rfl) (kX7_copyFrom (kx_10_1 hk0) (kx_10_1 hk1) _) (fun M1 _ => ?_)
  refine r_aload_n dX10_copyFrom_11 rfl rfl ?_
  refine r_getR (k' := (k0 + 3)) dX10_copyFrom_12 fl_X10_20 hk0 rfl ?_
  refine r_aload_n dX10_copyFrom_15 rfl rfl ?_
  refine r_getR (k' := (k1 + 3)) dX10_copyFrom_16 fl_X10_20 hk1 rfl ?_
  refine r_callv (cl_V [.ref (ga g (k1 + 3))] bX7_copyFrom (by decide) dX10_copyFrom_19 ml_X10_43 (kx_10_3 hk0) rfl (Nat.le_of_ble_eq_true rfl) rfl) (kX7_copyFrom (kx_10_3 hk0) (kx_10_3 hk1) _) (fun M2 _ => ?_)
  refine r_aload_n dX10_copyFrom_22 rfl rfl ?_
  refine r_getR (k' := (k0 + 5)) dX10_copyFrom_23 fl_X10_23 hk0 rfl ?_
  refine r_aload_n dX10_copyFrom_26 rfl rfl ?_
  refine r_getR (k' := (k1 + 5)) dX10_copyFrom_27 fl_X10_23 hk1 rfl ?_
  refine r_callv (cl_V [.ref (ga g (k1 + 5))] bX7_copyFrom (by decide) dX10_copyFrom_30 ml_X10_43 (kx_10_5 hk0) rfl (Nat.le_of_ble_eq_true rfl) rfl) (kX7_copyFrom (kx_10_5 hk0) (kx_10_5 hk1) _) (fun M3 _ => ?_)
  refine r_aload_n dX10_copyFrom_33 rfl rfl ?_
  refine r_getR (k' := (k0 + 7)) dX10_copyFrom_34 fl_X10_26 hk0 rfl ?_
  refine r_aload_n dX10_copyFrom_37 rfl rfl ?_
  refine r_getR (k' := (k1 + 7)) dX10_copyFrom_38 fl_X10_26 hk1 rfl ?_
  refine r_callv (cl_V [.ref (ga g (k1 + 7))] bX7_copyFrom (by decide) dX10_copyFrom_41 ml_X10_43 (kx_10_7 hk0) rfl (Nat.le_of_ble_eq_true rfl) rfl) (kX7_copyFrom (kx_10_7 hk0) (kx_10_7 hk1) _) (fun M4 _ => ?_)
  refine r_aload_n dX10_copyFrom_44 rfl rfl ?_
  refine r_getR (k' := (k1 + 9)) dX10_copyFrom_45 fl_X10_29 hk1 rfl ?_
  refine r_iconst ic_0 dX10_copyFrom_48 ?_
  refine r_aload_n dX10_copyFrom_49 rfl rfl ?_
  refine r_getR (k' := (k0 + 9)) dX10_copyFrom_50 fl_X10_29 hk0 rfl ?_
  refine r_iconst ic_0 dX10_copyFrom_53 ?_
  refine r_bipush bp_9 dX10_copyFrom_54 ?_
  refine r_cpy (by decide) (Nat.le_of_ble_eq_true rfl) ml_X10_47 j_cp1 j_cp2 j_cp3 dX10_copyFrom_56 (kx_10_9 hk1) (kx_10_9 hk0) (fun M5 => ?_)
  exact vRet rfl rfl trivial dX10_copyFrom_59
theorem kX10_copyFrom {g : G} {k0 : Nat} {k1 : Nat} (hk0 : kd k0 = (10, 8)) (hk1 : kd k1 = (10, 8))  (M : Mem) : CtrV g uX10_copyFrom 3 rmU [.ref (ga g k0), .ref (ga g k1)] M (fX10_copyFrom k0 k1 M) := CtrV.of mX10_copyFrom rfl (Nat.le_of_ble_eq_true rfl) rfl (vX10_copyFrom hk0 hk1 M)
set_option maxHeartbeats 4000000 in
set_option maxRecDepth 100000 in
theorem vX0_copyFrom {g : G} {k0 : Nat} {k1 : Nat} (hk0 : kd k0 = (0, 7)) (hk1 : kd k1 = (0, 7))  (M : Mem) : V g uX0_copyFrom 4 rvU rmU 0 [.ref (ga g k0), .ref (ga g k1)] [] M (fX0_copyFrom k0 k1 M) := by
  unfold fX0_copyFrom
  refine r_aload_n dX0_copyFrom_0 rfl rfl ?_
  refine r_getR (k' := (k0 + 1)) dX0_copyFrom_1 fl_X0_12 hk0 rfl ?_
  refine r_aload_n dX0_copyFrom_4 rfl rfl ?_
  refine r_getR (k' := (k1 + 1)) dX0_copyFrom_5 fl_X0_12 hk1 rfl ?_
  refine r_callv (cl_V [.ref (ga g (k1 + 1))] bX9_copyFrom (by decide) dX0_copyFrom_8 ml_X0_50 (kx_0_1 hk0) rfl (Nat.le_of_ble_eq_true rfl) rfl) (kX9_copyFrom (kx_0_1 hk0) (kx_0_1 hk1) _) (fun M1 _ => ?_)
  refine r_aload_n dX0_copyFrom_11 rfl rfl ?_
  refine r_getR (k' := (k0 + 11)) dX0_copyFrom_12 fl_X0_23 hk0 rfl ?_
  refine r_aload_n dX0_copyFrom_15 rfl rfl ?_
  refine r_getR (k' := (k1 + 11)) dX0_copyFrom_16 fl_X0_23 hk1 rfl ?_
  refine r_callv (cl_V [.ref (ga g (k1 + 11))] bX3_copyFrom (by decide) dX0_copyFrom_19 ml_X0_54 (kx_0_11 hk0) rfl (Nat.le_of_ble_eq_true rfl) rfl) (kX3_copyFrom (kx_0_11 hk0) (kx_0_11 hk1) _) (fun M2 _ => ?_)
  refine r_aload_n dX0_copyFrom_22 rfl rfl ?_
  refine r_getR (k' := (k0 + 16)) dX0_copyFrom_23 fl_X0_30 hk0 rfl ?_
  refine r_aload_n dX0_copyFrom_26 rfl rfl ?_
  refine r_getR (k' := (k1 + 16)) dX0_copyFrom_27 fl_X0_30 hk1 rfl ?_
  refine r_callv (cl_V [.ref (ga g (k1 + 16))] bX1_copyFrom (by decide) dX0_copyFrom_30 ml_X0_57 (kx_0_16 hk0) rfl (Nat.le_of_ble_eq_true rfl) rfl) (kX1_copyFrom (kx_0_16 hk0) (kx_0_16 hk1) _) (fun M3 _ => ?_)
  refine r_aload_n dX0_copyFrom_33 rfl rfl ?_
  refine r_getR (k' := (k0 + 24)) dX0_copyFrom_34 fl_X0_34 hk0 rfl ?_
  refine r_aload_n dX0_copyFrom_37 rfl rfl ?_
  refine r_getR (k' := (k1 + 24)) dX0_copyFrom_38 fl_X0_34 hk1 rfl ?_
  refine r_callv (cl_V [.ref (ga g (k1 + 24))] bX3_copyFrom (by decide) dX0_copyFrom_41 ml_X0_54 (kx_0_24 hk0) rfl (Nat.le_of_ble_eq_true rfl) rfl) (kX3_copyFrom (kx_0_24 hk0) (kx_0_24 hk1) _) (fun M4 _ => ?_)
  refine r_aload_n dX0_copyFrom_44 rfl rfl ?_
  refine r_getR (k' := (k0 + 29)) dX0_copyFrom_45 fl_X0_37 hk0 rfl ?_
  refine r_aload_n dX0_copyFrom_48 rfl rfl ?_
  refine r_getR (k' := (k1 + 29)) dX0_copyFrom_49 fl_X0_37 hk1 rfl ?_
  refine r_callv (cl_V [.ref (ga g (k1 + 29))] bX3_copyFrom (by decide) dX0_copyFrom_52 ml_X0_54 (kx_0_29 hk0) rfl (Nat.le_of_ble_eq_true rfl) rfl) (kX3_copyFrom (kx_0_29 hk0) (kx_0_29 hk1) _) (fun M5 _ => ?_)
  refine r_aload_n dX0_copyFrom_55 rfl rfl ?_
  refine r_getR (k' := (k0 + 34)) dX0_copyFrom_56 fl_X0_40 hk0 rfl ?_
  refine r_aload_n dX0_copyFrom_59 rfl rfl ?_
  refine r_getR (k' := (k1 + 34)) dX0_copyFrom_60 fl_X0_40 hk1 rfl ?_
  refine r_callv (cl_V [.ref (ga g (k1 + 34))] bX3_copyFrom (by decide) dX0_copyFrom_63 ml_X0_54 (kx_0_34 hk0) rfl (Nat.le_of_ble_eq_true rfl) rfl) (kX3_copyFrom (kx_0_34 hk0) (kx_0_34 hk1) _) (fun M6 _ => ?_)
  refine r_aload_n dX0_copyFrom_66 rfl rfl ?_
  refine r_getR (k' := (k0 + 39)) dX0_copyFrom_67 fl_X0_46 hk0 rfl ?_
  refine r_aload_n dX0_copyFrom_70 rfl rfl ?_
  refine r_getR (k' := (k1 + 39)) dX0_copyFrom_71 fl_X0_46 hk1 rfl ?_
  refine r_callv (cl_V [.ref (ga g (k1 + 39))] bX10_copyFrom (by decide) dX0_copyFrom_74 ml_X0_60 (kx_0_39 hk0) rfl (Nat.le_of_ble_eq_true rfl) rfl) (kX10_copyFrom (kx_0_39 hk0) (kx_0_39 hk1) _) (fun M7 _ => ?_)
  exact vRet rfl rfl trivial dX0_copyFrom_77
theorem kX0_copyFrom {g : G} {k0 : Nat} {k1 : Nat} (hk0 : kd k0 = (0, 7)) (hk1 : kd k1 = (0, 7))  (M : Mem) : CtrV g uX0_copyFrom 4 rmU [.ref (ga g k0), .ref (ga g k1)] M (fX0_copyFrom k0 k1 M) := CtrV.of mX0_copyFrom rfl (Nat.le_of_ble_eq_true rfl) rfl (vX0_copyFrom hk0 hk1 M)
set_option maxHeartbeats 4000000 in
set_option maxRecDepth 100000 in
theorem vX11_image {g : G}   (p1 : Int32) (M : Mem) : V g uX11_image 5 rvW rmW 0 [.ref (ga g 0), .int p1] [] M (fX11_image p1 M) := by
  unfold fX11_image
  refine r_iload_n dX11_image_0 rfl rfl ?_
  refine r_if_eq dX11_image_1 (fun h => eT h ?_) (fun h => eF h ?_)
  · refine r_aload_n dX11_image_23 rfl rfl ?_
    refine r_getI dX11_image_24 fl_X11_356 kdc_0 ?_
    refine r_if_eq dX11_image_27 (fun h => eT h ?_) (fun h => eF h ?_)
    · refine r_aload_n dX11_image_48 rfl rfl ?_
      refine r_getI dX11_image_49 fl_X11_356 kdc_0 ?_
      exact vRetZ rfl rfl rfl dX11_image_52
    · refine r_aload_n dX11_image_30 rfl rfl ?_
      refine r_getR (k' := 1) dX11_image_31 fl_X11_12 kdc_0 rfl ?_
      refine r_aload_n dX11_image_34 rfl rfl ?_
      refine r_getR (k' := 53) dX11_image_35 fl_X11_16 kdc_0 rfl ?_
      refine r_callv (cl_V [.ref (ga g 53)] bX0_copyFrom (by decide) dX11_image_38 ml_X11_353 kdc_1 rfl (Nat.le_of_ble_eq_true rfl) rfl) (kX0_copyFrom kdc_1 kdc_53 _) (fun M1 _ => ?_)
      refine r_aload_n dX11_image_41 rfl rfl ?_
      refine r_getR (k' := 105) dX11_image_42 fl_X11_22 kdc_0 rfl ?_
      refine r_callv (cl_V [] bX6_forget (by decide) dX11_image_45 ml_X11_68 kdc_105 rfl (Nat.le_of_ble_eq_true rfl) rfl) (kX6_forget _) (fun M2 _ => ?_)
      refine r_aload_n dX11_image_48 rfl rfl ?_
      refine r_getI dX11_image_49 fl_X11_356 kdc_0 ?_
      exact vRetZ rfl rfl rfl dX11_image_52
  · refine r_aload_n dX11_image_4 rfl rfl ?_
    refine r_getR (k' := 53) dX11_image_5 fl_X11_16 kdc_0 rfl ?_
    refine r_aload_n dX11_image_8 rfl rfl ?_
    refine r_getR (k' := 1) dX11_image_9 fl_X11_12 kdc_0 rfl ?_
    refine r_callv (cl_V [.ref (ga g 1)] bX0_copyFrom (by decide) dX11_image_12 ml_X11_353 kdc_53 rfl (Nat.le_of_ble_eq_true rfl) rfl) (kX0_copyFrom kdc_53 kdc_1 _) (fun M3 _ => ?_)
    refine r_aload_n dX11_image_15 rfl rfl ?_
    refine r_iconst ic_1 dX11_image_16 ?_
    refine r_putL dX11_image_17 fw_X11_356 kdc_0 rfl rfl (fun M4 => ?_)
    refine r_goto dX11_image_20 ?_
    refine r_aload_n dX11_image_48 rfl rfl ?_
    refine r_getI dX11_image_49 fl_X11_356 kdc_0 ?_
    exact vRetZ rfl rfl rfl dX11_image_52
theorem kX11_image {g : G}   (p1 : Int32) (M : Mem) : CtrI g uX11_image 5 (fun r => r.1) rmW [.ref (ga g 0), .int p1] M (fX11_image p1 M) := CtrI.of mX11_image rfl (Nat.le_of_ble_eq_true rfl) rfl (vX11_image p1 M)
set_option maxHeartbeats 4000000 in
set_option maxRecDepth 100000 in
theorem vX12_keeps {g : G}   (p1 : Int32) (M : Mem) : V g uX12_keeps 1 rvW rmW 0 [.ref (ga g 198), .int p1] [] M (fX12_keeps p1 M) := by
  unfold fX12_keeps
  refine r_aload_n dX12_keeps_0 rfl rfl ?_
  refine r_aload_n dX12_keeps_1 rfl rfl ?_
  refine r_getI dX12_keeps_2 fl_X12_434 kdc_198 ?_
  refine r_iconst ic_1 dX12_keeps_5 ?_
  refine r_iadd dX12_keeps_6 ?_
  refine r_put dX12_keeps_7 fw_X12_434 kdc_198 (fun M1 => ?_)
  refine r_aload_n dX12_keeps_10 rfl rfl ?_
  refine r_getI dX12_keeps_11 fl_X12_437 kdc_198 ?_
  refine r_if_ne dX12_keeps_14 (fun h => eF h ?_) (fun h => eT h ?_)
  · refine r_aload_n dX12_keeps_29 rfl rfl ?_
    refine r_getR (k' := 234) dX12_keeps_30 fl_X12_119 kdc_198 rfl ?_
    refine r_aload_n dX12_keeps_33 rfl rfl ?_
    refine r_getI dX12_keeps_34 fl_X12_434 kdc_198 ?_
    refine r_iconst ic_1 dX12_keeps_37 ?_
    refine r_isub dX12_keeps_38 ?_
    refine r_iload_n dX12_keeps_39 rfl rfl ?_
    refine r_iast dX12_keeps_40 kdc_234 (fun M2 => ?_)
    refine r_iload_n dX12_keeps_41 rfl rfl ?_
    exact vRet rfl rfl rfl dX12_keeps_42
  · refine r_aload_n dX12_keeps_17 rfl rfl ?_
    refine r_getR (k' := 234) dX12_keeps_18 fl_X12_119 kdc_198 rfl ?_
    refine r_aload_n dX12_keeps_21 rfl rfl ?_
    refine r_getI dX12_keeps_22 fl_X12_434 kdc_198 ?_
    refine r_iconst ic_1 dX12_keeps_25 ?_
    refine r_isub dX12_keeps_26 ?_
    refine r_iald dX12_keeps_27 kdc_234 (fun v3 => ?_)
    exact vRet rfl rfl rfl dX12_keeps_28
theorem kX12_keeps {g : G}   (p1 : Int32) (M : Mem) : CtrI g uX12_keeps 1 (fun r => r.1) rmW [.ref (ga g 198), .int p1] M (fX12_keeps p1 M) := CtrI.of mX12_keeps rfl (Nat.le_of_ble_eq_true rfl) rfl (vX12_keeps p1 M)
