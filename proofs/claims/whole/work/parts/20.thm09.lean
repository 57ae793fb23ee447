set_option maxHeartbeats 4000000 in
set_option maxRecDepth 100000 in
theorem vJ13_bitCount_95d88 {g : G}   (p0 : Int64) (M : Mem) : V g uJ13_bitCount_95d88 1 rvI (rmP M) 0 [.long p0, .null] [] M (some (fJ13_bitCount_95d88 p0)) := by
  unfold fJ13_bitCount_95d88
  refine r_lload_n dJ13_bitCount_95d88_0 rfl rfl ?_
  refine r_lload_n dJ13_bitCount_95d88_1 rfl rfl ?_
  refine r_iconst ic_1 dJ13_bitCount_95d88_2 ?_
  refine r_lushr dJ13_bitCount_95d88_3 ?_
  refine r_ldc2 lc_J13_314 dJ13_bitCount_95d88_4 ?_
  refine r_land dJ13_bitCount_95d88_7 ?_
  refine r_lsub dJ13_bitCount_95d88_8 ?_
  refine r_bndlT (fun x1 => ?_)
  refine r_lstore_n (l' := [.long x1, .null]) dJ13_bitCount_95d88_9 rfl (Nat.le_of_ble_eq_true rfl) rfl rfl ?_
  refine r_lload_n dJ13_bitCount_95d88_10 rfl rfl ?_
  refine r_ldc2 lc_J13_316 dJ13_bitCount_95d88_11 ?_
  refine r_land dJ13_bitCount_95d88_14 ?_
  refine r_lload_n dJ13_bitCount_95d88_15 rfl rfl ?_
  refine r_iconst ic_2 dJ13_bitCount_95d88_16 ?_
  refine r_lushr dJ13_bitCount_95d88_17 ?_
  refine r_ldc2 lc_J13_316 dJ13_bitCount_95d88_18 ?_
  refine r_land dJ13_bitCount_95d88_21 ?_
  refine r_ladd dJ13_bitCount_95d88_22 ?_
  refine r_bndlT (fun x2 => ?_)
  refine r_lstore_n (l' := [.long x2, .null]) dJ13_bitCount_95d88_23 rfl (Nat.le_of_ble_eq_true rfl) rfl rfl ?_
  refine r_lload_n dJ13_bitCount_95d88_24 rfl rfl ?_
  refine r_lload_n dJ13_bitCount_95d88_25 rfl rfl ?_
  refine r_iconst ic_4 dJ13_bitCount_95d88_26 ?_
  refine r_lushr dJ13_bitCount_95d88_27 ?_
  refine r_ladd dJ13_bitCount_95d88_28 ?_
  refine r_ldc2 lc_J13_318 dJ13_bitCount_95d88_29 ?_
  refine r_land dJ13_bitCount_95d88_32 ?_
  refine r_bndlT (fun x3 => ?_)
  refine r_lstore_n (l' := [.long x3, .null]) dJ13_bitCount_95d88_33 rfl (Nat.le_of_ble_eq_true rfl) rfl rfl ?_
  refine r_lload_n dJ13_bitCount_95d88_34 rfl rfl ?_
  refine r_lload_n dJ13_bitCount_95d88_35 rfl rfl ?_
  refine r_bipush bp_8 dJ13_bitCount_95d88_36 ?_
  refine r_lushr dJ13_bitCount_95d88_38 ?_
  refine r_ladd dJ13_bitCount_95d88_39 ?_
  refine r_bndlT (fun x4 => ?_)
  refine r_lstore_n (l' := [.long x4, .null]) dJ13_bitCount_95d88_40 rfl (Nat.le_of_ble_eq_true rfl) rfl rfl ?_
  refine r_lload_n dJ13_bitCount_95d88_41 rfl rfl ?_
  refine r_lload_n dJ13_bitCount_95d88_42 rfl rfl ?_
  refine r_bipush bp_16 dJ13_bitCount_95d88_43 ?_
  refine r_lushr dJ13_bitCount_95d88_45 ?_
  refine r_ladd dJ13_bitCount_95d88_46 ?_
  refine r_bndlT (fun x5 => ?_)
  refine r_lstore_n (l' := [.long x5, .null]) dJ13_bitCount_95d88_47 rfl (Nat.le_of_ble_eq_true rfl) rfl rfl ?_
  refine r_lload_n dJ13_bitCount_95d88_48 rfl rfl ?_
  refine r_lload_n dJ13_bitCount_95d88_49 rfl rfl ?_
  refine r_bipush bp_32 dJ13_bitCount_95d88_50 ?_
  refine r_lushr dJ13_bitCount_95d88_52 ?_
  refine r_ladd dJ13_bitCount_95d88_53 ?_
  refine r_bndlT (fun x6 => ?_)
  refine r_lstore_n (l' := [.long x6, .null]) dJ13_bitCount_95d88_54 rfl (Nat.le_of_ble_eq_true rfl) rfl rfl ?_
  refine r_lload_n dJ13_bitCount_95d88_55 rfl rfl ?_
  refine r_l2i dJ13_bitCount_95d88_56 ?_
  refine r_bipush bp_127 dJ13_bitCount_95d88_57 ?_
  refine r_iand dJ13_bitCount_95d88_59 ?_
  exact vRet rfl rfl rfl dJ13_bitCount_95d88_60
theorem kJ13_bitCount_95d88 {g : G}   (p0 : Int64) (M : Mem) : CtrI g uJ13_bitCount_95d88 1 (fun r => r) (rmP M) [.long p0] M (some (fJ13_bitCount_95d88 p0)) := CtrI.of mJ13_bitCount_95d88 rfl (Nat.le_of_ble_eq_true rfl) rfl (vJ13_bitCount_95d88 p0 M)
set_option maxHeartbeats 4000000 in
set_option maxRecDepth 100000 in
theorem vX5_antWalk_L17 {g : G}  (K103 : Int64 → Int32 → Int32 → Option (Int32)) (z0 : Int32) (c1 : Int32) (M : Mem)  (hK103 : ∀ (e2 : Int64) (e4 : Int32) (e5 : Int32), V g uX5_antWalk 2 rvI (rmP M) 103 [.null, .int c1, .long e2, .null, .int e4, .int e5, .null, .null, .null, .null, .null, .null] [] M (K103 e2 e4 e5)) : ∀ (n : Nat) (y2 : Int64) (y4 : Int32) (y5 : Int32) (y6 : Int32) (y7 : Int32) (y8 : Int32), V g uX5_antWalk 2 rvI (rmP M) 17 [.int z0, .int c1, .long y2, .null, .int y4, .int y5, .int y6, .int y7, .int y8, .null, .null, .null] [] M (fX5_antWalk_L17 K103 z0 n y2 y4 y5 y6 y7 y8) := by
  intro n
  induction n with
  | zero => intro y2 y4 y5 y6 y7 y8; exact vNone
  | succ n ih =>
    intro y2 y4 y5 y6 y7 y8
    rw [fX5_antWalk_L17]
    refine r_iload dX5_antWalk_17 rfl ?_
    refine r_iload_n dX5_antWalk_19 rfl rfl ?_
    refine r_icmp_ge dX5_antWalk_20 (fun h => eT h ?_) (fun h => eF h ?_)
    · exact vSub (l' := [.null, .int c1, .long y2, .null, .int y4, .int y5, .null, .null, .null, .null, .null, .null]) ⟨Or.inl rfl, ⟨Or.inr rfl, ⟨Or.inr rfl, ⟨Or.inl rfl, ⟨Or.inr rfl, ⟨Or.inr rfl, ⟨Or.inl rfl, ⟨Or.inl rfl, ⟨Or.inl rfl, ⟨Or.inl rfl, ⟨Or.inl rfl, ⟨Or.inl rfl, trivial⟩⟩⟩⟩⟩⟩⟩⟩⟩⟩⟩⟩ (hK103 _ _ _)
    · refine r_bipush bp_8 dX5_antWalk_23 ?_
      refine r_iload dX5_antWalk_25 rfl ?_
      refine r_imul dX5_antWalk_27 ?_
      refine r_iload dX5_antWalk_28 rfl ?_
      refine r_iadd dX5_antWalk_30 ?_
      refine r_bndi (fun x1 => ?_)
      refine r_istore (l' := [.int z0, .int c1, .long y2, .null, .int y4, .int y5, .int y6, .int y7, .int y8, .int x1, .null, .null]) dX5_antWalk_31 (Nat.le_of_ble_eq_true rfl) rfl rfl ?_
      refine r_lload_n dX5_antWalk_33 rfl rfl ?_
      refine r_iload dX5_antWalk_34 rfl ?_
      refine r_lushr dX5_antWalk_36 ?_
      refine r_lconst (v := 1) (by decide) dX5_antWalk_37 ?_
      refine r_land dX5_antWalk_38 ?_
      refine r_lconst (v := 0) (by decide) dX5_antWalk_39 ?_
      refine r_lcmp dX5_antWalk_40 ?_
      refine eJ (fun (J2 : (Int32) → Option (Int32)) => ∀ (t3 : Int32), V g uX5_antWalk 2 rvI (rmP M) 49 [.int z0, .int c1, .long y2, .null, .int y4, .int y5, .int y6, .int y7, .int y8, .int x1, .null, .null] [.int t3] M (J2 t3)) (fun t3 => ?_) (fun J2 hJ2 => ?_)
      · refine r_istore (l' := [.int z0, .int c1, .long y2, .null, .int y4, .int y5, .int y6, .int y7, .int y8, .int x1, .int t3, .null]) dX5_antWalk_49 (Nat.le_of_ble_eq_true rfl) rfl rfl ?_
        refine r_iload dX5_antWalk_51 rfl ?_
        refine r_istore (l' := [.int z0, .int c1, .long y2, .null, .int y4, .int y5, .int y6, .int y7, .int y8, .int x1, .int t3, .int y6]) dX5_antWalk_53 (Nat.le_of_ble_eq_true rfl) rfl rfl ?_
        refine r_iload dX5_antWalk_55 rfl ?_
        refine r_ineg dX5_antWalk_57 ?_
        refine r_iload dX5_antWalk_58 rfl ?_
        refine r_imul dX5_antWalk_60 ?_
        refine r_bndi (fun x4 => ?_)
        refine r_istore (l' := [.int z0, .int c1, .long y2, .null, .int y4, .int y5, .int x4, .int y7, .int y8, .int x1, .int t3, .int y6]) dX5_antWalk_61 (Nat.le_of_ble_eq_true rfl) rfl rfl ?_
        refine r_iload dX5_antWalk_63 rfl ?_
        refine r_iload dX5_antWalk_65 rfl ?_
        refine r_imul dX5_antWalk_67 ?_
        refine r_bndi (fun x5 => ?_)
        refine r_istore (l' := [.int z0, .int c1, .long y2, .null, .int y4, .int y5, .int x4, .int x5, .int y8, .int x1, .int t3, .int y6]) dX5_antWalk_68 (Nat.le_of_ble_eq_true rfl) rfl rfl ?_
        refine r_lload_n dX5_antWalk_70 rfl rfl ?_
        refine r_lconst (v := 1) (by decide) dX5_antWalk_71 ?_
        refine r_iload dX5_antWalk_72 rfl ?_
        refine r_lshl dX5_antWalk_74 ?_
        refine r_lxor dX5_antWalk_75 ?_
        refine r_bndl (fun x6 => ?_)
        refine r_lstore_n (l' := [.int z0, .int c1, .long x6, .null, .int y4, .int y5, .int x4, .int x5, .int y8, .int x1, .int t3, .int y6]) dX5_antWalk_76 rfl (Nat.le_of_ble_eq_true rfl) rfl rfl ?_
        refine r_iload dX5_antWalk_77 rfl ?_
        refine r_iload dX5_antWalk_79 rfl ?_
        refine r_iadd dX5_antWalk_81 ?_
        refine r_bipush bp_7 dX5_antWalk_82 ?_
        refine r_iand dX5_antWalk_84 ?_
        refine r_bndi (fun x7 => ?_)
        refine r_istore (l' := [.int z0, .int c1, .long x6, .null, .int x7, .int y5, .int x4, .int x5, .int y8, .int x1, .int t3, .int y6]) dX5_antWalk_85 (Nat.le_of_ble_eq_true rfl) rfl rfl ?_
        refine r_iload dX5_antWalk_87 rfl ?_
        refine r_iload dX5_antWalk_89 rfl ?_
        refine r_iadd dX5_antWalk_91 ?_
        refine r_bipush bp_7 dX5_antWalk_92 ?_
        refine r_iand dX5_antWalk_94 ?_
        refine r_bndi (fun x8 => ?_)
        refine r_istore (l' := [.int z0, .int c1, .long x6, .null, .int x7, .int x8, .int x4, .int x5, .int y8, .int x1, .int t3, .int y6]) dX5_antWalk_95 (Nat.le_of_ble_eq_true rfl) rfl rfl ?_
        refine r_iinc (l' := [.int z0, .int c1, .long x6, .null, .int x7, .int x8, .int x4, .int x5, .int (y8 + 1), .int x1, .int t3, .int y6]) dX5_antWalk_97 rfl (inc_1 _) (Nat.le_of_ble_eq_true rfl) rfl rfl ?_
        refine r_goto dX5_antWalk_100 ?_
        exact vSub (l' := [.int z0, .int c1, .long x6, .null, .int x7, .int x8, .int x4, .int x5, .int (y8 + 1), .null, .null, .null]) ⟨Or.inr rfl, ⟨Or.inr rfl, ⟨Or.inr rfl, ⟨Or.inl rfl, ⟨Or.inr rfl, ⟨Or.inr rfl, ⟨Or.inr rfl, ⟨Or.inr rfl, ⟨Or.inr rfl, ⟨Or.inl rfl, ⟨Or.inl rfl, ⟨Or.inl rfl, trivial⟩⟩⟩⟩⟩⟩⟩⟩⟩⟩⟩⟩ (ih _ _ _ _ _ _)
      · refine r_if_ne dX5_antWalk_41 (fun h => eF h ?_) (fun h => eT h ?_)
        · refine r_iconst ic_m1 dX5_antWalk_48 ?_
          exact hJ2 _
        · refine r_iconst ic_1 dX5_antWalk_44 ?_
          refine r_goto dX5_antWalk_45 ?_
          exact hJ2 _
set_option maxHeartbeats 4000000 in
set_option maxRecDepth 100000 in
theorem vX5_antWalk {g : G}   (p0 : Int32) (p1 : Int32) (M : Mem) : V g uX5_antWalk 2 rvI (rmP M) 0 [.int p0, .int p1, .null, .null, .null, .null, .null, .null, .null, .null, .null, .null] [] M (fX5_antWalk p0 p1) := by
  unfold fX5_antWalk
  refine r_lconst (v := 0) (by decide) dX5_antWalk_0 ?_
  refine r_lstore_n (l' := [.int p0, .int p1, .long 0, .null, .null, .null, .null, .null, .null, .null, .null, .null]) dX5_antWalk_1 rfl (Nat.le_of_ble_eq_true rfl) rfl rfl ?_
  refine r_iconst ic_3 dX5_antWalk_2 ?_
  refine r_istore (l' := [.int p0, .int p1, .long 0, .null, .int 3, .null, .null, .null, .null, .null, .null, .null]) dX5_antWalk_3 (Nat.le_of_ble_eq_true rfl) rfl rfl ?_
  refine r_iconst ic_3 dX5_antWalk_5 ?_
  refine r_istore (l' := [.int p0, .int p1, .long 0, .null, .int 3, .int 3, .null, .null, .null, .null, .null, .null]) dX5_antWalk_6 (Nat.le_of_ble_eq_true rfl) rfl rfl ?_
  refine r_iconst ic_0 dX5_antWalk_8 ?_
  refine r_istore (l' := [.int p0, .int p1, .long 0, .null, .int 3, .int 3, .int 0, .null, .null, .null, .null, .null]) dX5_antWalk_9 (Nat.le_of_ble_eq_true rfl) rfl rfl ?_
  refine r_iconst ic_m1 dX5_antWalk_11 ?_
  refine r_istore (l' := [.int p0, .int p1, .long 0, .null, .int 3, .int 3, .int 0, .int (-1), .null, .null, .null, .null]) dX5_antWalk_12 (Nat.le_of_ble_eq_true rfl) rfl rfl ?_
  refine r_iconst ic_0 dX5_antWalk_14 ?_
  refine r_istore (l' := [.int p0, .int p1, .long 0, .null, .int 3, .int 3, .int 0, .int (-1), .int 0, .null, .null, .null]) dX5_antWalk_15 (Nat.le_of_ble_eq_true rfl) rfl rfl ?_
  refine vX5_antWalk_L17 _ _ _ _ (fun e9 e10 e11 => ?_) FU _ _ _ _ _ _
  · refine r_iload_n dX5_antWalk_103 rfl rfl ?_
    refine r_if_eq dX5_antWalk_104 (fun h => eT h ?_) (fun h => eF h ?_)
    · refine r_lload_n dX5_antWalk_118 rfl rfl ?_
      refine r_calliT (cl_S [.long e9] bJ13_bitCount_95d88 (by decide) dX5_antWalk_119 ml_X5_31 rfl (Nat.le_of_ble_eq_true rfl) rfl) (kJ13_bitCount_95d88 _ _) ?_
      exact vRet rfl rfl rfl dX5_antWalk_122
    · refine r_bipush bp_8 dX5_antWalk_107 ?_
      refine r_iload dX5_antWalk_109 rfl ?_
      refine r_imul dX5_antWalk_111 ?_
      refine r_iload dX5_antWalk_112 rfl ?_
      refine r_iadd dX5_antWalk_114 ?_
      refine r_goto dX5_antWalk_115 ?_
      exact vRet rfl rfl rfl dX5_antWalk_122
theorem kX5_antWalk {g : G}   (p0 : Int32) (p1 : Int32) (M : Mem) : CtrI g uX5_antWalk 2 (fun r => r) (rmP M) [.int p0, .int p1] M (fX5_antWalk p0 p1) := CtrI.of mX5_antWalk rfl (Nat.le_of_ble_eq_true rfl) rfl (vX5_antWalk p0 p1 M)
set_option maxHeartbeats 4000000 in
set_option maxRecDepth 100000 in
theorem vX11_ant {g : G}   (p1 : Int32) (p2 : Int32) (M : Mem) : V g uX11_ant 3 rvI (rmP M) 0 [.ref (ga g 0), .int p1, .int p2] [] M (fX11_ant p1 p2) := by
  unfold fX11_ant
  refine r_iload_n dX11_ant_0 rfl rfl ?_
  refine r_iconst ic_0 dX11_ant_1 ?_
  refine r_sipush sp_300 dX11_ant_2 ?_
  refine r_calliT (cl_S [.int p1, .int 0, .int 300] bX11_isWithin (by decide) dX11_ant_5 ml_X11_71 rfl (Nat.le_of_ble_eq_true rfl) rfl) (kX11_isWithin _ _ _ _) ?_
  refine r_if_eq dX11_ant_8 (fun h => eT h ?_) (fun h => eF h ?_)
  · refine r_iconst ic_m1 dX11_ant_20 ?_
    exact vRet rfl rfl rfl dX11_ant_21
  · refine r_iload_n dX11_ant_11 rfl rfl ?_
    refine r_iconst ic_0 dX11_ant_12 ?_
    refine r_iconst ic_1 dX11_ant_13 ?_
    refine r_calliT (cl_S [.int p2, .int 0, .int 1] bX11_isWithin (by decide) dX11_ant_14 ml_X11_71 rfl (Nat.le_of_ble_eq_true rfl) rfl) (kX11_isWithin _ _ _ _) ?_
    refine r_if_ne dX11_ant_17 (fun h => eF h ?_) (fun h => eT h ?_)
    · refine r_iload_n dX11_ant_22 rfl rfl ?_
      refine r_iload_n dX11_ant_23 rfl rfl ?_
      refine eJ (fun (J1 : (Int32) → Option (Int32)) => ∀ (t2 : Int32), V g uX11_ant 3 rvI (rmP M) 32 [.null, .null, .null] [.int t2, .int p1] M (J1 t2)) (fun t2 => ?_) (fun J1 hJ1 => ?_)
      · refine r_calli (cl_S [.int p1, .int t2] bX5_antWalk (by decide) dX11_ant_32 ml_X11_310 rfl (Nat.le_of_ble_eq_true rfl) rfl) (kX5_antWalk _ _ _) (fun v3 _ => ?_)
        exact vRet rfl rfl rfl dX11_ant_35
      · refine r_if_ne dX11_ant_24 (fun h => eF h ?_) (fun h => eT h ?_)
        · refine r_iconst ic_0 dX11_ant_31 ?_
          exact vSub (l' := [.null, .null, .null]) ⟨Or.inl rfl, ⟨Or.inl rfl, ⟨Or.inl rfl, trivial⟩⟩⟩ (hJ1 _)
        · refine r_iconst ic_1 dX11_ant_27 ?_
          refine r_goto dX11_ant_28 ?_
          exact vSub (l' := [.null, .null, .null]) ⟨Or.inl rfl, ⟨Or.inl rfl, ⟨Or.inl rfl, trivial⟩⟩⟩ (hJ1 _)
    · refine r_iconst ic_m1 dX11_ant_20 ?_
      exact vRet rfl rfl rfl dX11_ant_21
theorem kX11_ant {g : G}   (p1 : Int32) (p2 : Int32) (M : Mem) : CtrI g uX11_ant 3 (fun r => r) (rmP M) [.ref (ga g 0), .int p1, .int p2] M (fX11_ant p1 p2) := CtrI.of mX11_ant rfl (Nat.le_of_ble_eq_true rfl) rfl (vX11_ant p1 p2 M)
set_option maxHeartbeats 4000000 in
set_option maxRecDepth 100000 in
theorem vX12_ant_L31 {g : G}  (K50 : Mem → Option (Int32 × Mem))  (c1 : Int32) (c2 : Int32)  (hK50 : ∀ (M : Mem), V g uX12_ant 2 rvW rmW 50 [.ref (ga g 198), .int c1, .int c2, .null, .null, .null, .null, .null, .null] [] M (K50 M)) : ∀ (n : Nat) (y3 : Int32) (M : Mem), V g uX12_ant 2 rvW rmW 31 [.ref (ga g 198), .int c1, .int c2, .int y3, .null, .null, .null, .null, .null] [] M (fX12_ant_L31 K50 n y3 M) := by
  intro n
  induction n with
  | zero => intro y3 M; exact vNone
  | succ n ih =>
    intro y3 M
    rw [fX12_ant_L31]
    refine r_iload_n dX12_ant_31 rfl rfl ?_
    refine r_bipush bp_64 dX12_ant_32 ?_
    refine r_icmp_ge dX12_ant_34 (fun h => eT h ?_) (fun h => eF h ?_)
    · exact vSub (l' := [.ref (ga g 198), .int c1, .int c2, .null, .null, .null, .null, .null, .null]) ⟨Or.inr rfl, ⟨Or.inr rfl, ⟨Or.inr rfl, ⟨Or.inl rfl, ⟨Or.inl rfl, ⟨Or.inl rfl, ⟨Or.inl rfl, ⟨Or.inl rfl, ⟨Or.inl rfl, trivial⟩⟩⟩⟩⟩⟩⟩⟩⟩ (hK50 _)
    · refine r_aload_n dX12_ant_37 rfl rfl ?_
      refine r_getR (k' := 228) dX12_ant_38 fl_X12_101 kdc_198 rfl ?_
      refine r_iload_n dX12_ant_41 rfl rfl ?_
      refine r_iconst ic_0 dX12_ant_42 ?_
      refine r_iast dX12_ant_43 kdc_228 (fun M2 => ?_)
      refine r_iinc (l' := [.ref (ga g 198), .int c1, .int c2, .int (y3 + 1), .null, .null, .null, .null, .null]) dX12_ant_44 rfl (inc_1 _) (Nat.le_of_ble_eq_true rfl) rfl rfl ?_
      refine r_goto dX12_ant_47 ?_
      exact ih _ _
set_option maxHeartbeats 4000000 in
set_option maxRecDepth 100000 in
theorem vX12_ant_L64 {g : G}  (K196 : Int32 → Int32 → Int32 → Mem → Option (Int32 × Mem)) (z1 : Int32) (c2 : Int32)  (hK196 : ∀ (e3 : Int32) (e4 : Int32) (e6 : Int32) (M : Mem), V g uX12_ant 2 rvW rmW 196 [.null, .null, .int c2, .int e3, .int e4, .null, .int e6, .null, .null] [] M (K196 e3 e4 e6 M)) : ∀ (n : Nat) (y3 : Int32) (y4 : Int32) (y5 : Int32) (y6 : Int32) (y7 : Int32) (M : Mem), V g uX12_ant 2 rvW rmW 64 [.ref (ga g 198), .int z1, .int c2, .int y3, .int y4, .int y5, .int y6, .int y7, .null] [] M (fX12_ant_L64 K196 z1 n y3 y4 y5 y6 y7 M) := by
  intro n
  induction n with
  | zero => intro y3 y4 y5 y6 y7 M; exact vNone
  | succ n ih =>
    intro y3 y4 y5 y6 y7 M
    rw [fX12_ant_L64]
    refine r_iload dX12_ant_64 rfl ?_
    refine r_iload_n dX12_ant_66 rfl rfl ?_
    refine r_icmp_ge dX12_ant_67 (fun h => eT h ?_) (fun h => eF h ?_)
    · exact vSub (l' := [.null, .null, .int c2, .int y3, .int y4, .null, .int y6, .null, .null]) ⟨Or.inl rfl, ⟨Or.inl rfl, ⟨Or.inr rfl, ⟨Or.inr rfl, ⟨Or.inr rfl, ⟨Or.inl rfl, ⟨Or.inr rfl, ⟨Or.inl rfl, ⟨Or.inl rfl, trivial⟩⟩⟩⟩⟩⟩⟩⟩⟩ (hK196 _ _ _ _)
    · refine r_bipush bp_8 dX12_ant_70 ?_
      refine r_iload dX12_ant_72 rfl ?_
      refine r_imul dX12_ant_74 ?_
      refine r_iload_n dX12_ant_75 rfl rfl ?_
      refine r_iadd dX12_ant_76 ?_
      refine r_bndi (fun x4 => ?_)
      refine r_istore (l' := [.ref (ga g 198), .int z1, .int c2, .int y3, .int y4, .int y5, .int y6, .int y7, .int x4]) dX12_ant_77 (Nat.le_of_ble_eq_true rfl) rfl rfl ?_
      refine r_iload dX12_ant_79 rfl ?_
      refine r_aload_n dX12_ant_81 rfl rfl ?_
      refine r_getR (k' := 228) dX12_ant_82 fl_X12_101 kdc_198 rfl ?_
      refine r_iload dX12_ant_85 rfl ?_
      refine r_iald dX12_ant_87 kdc_228 (fun v5 => ?_)
      refine eJ (fun (J6 : (Int32) → Option (Int32 × Mem)) => ∀ (t7 : Int32), V g uX12_ant 2 rvW rmW 96 [.ref (ga g 198), .int z1, .int c2, .int y3, .int y4, .null, .int y6, .int y7, .int x4] [.int t7, .int y5] M (J6 t7)) (fun t7 => ?_) (fun J6 hJ6 => ?_)
      · refine r_iadd dX12_ant_96 ?_
        refine r_iconst ic_4 dX12_ant_97 ?_
        refine r_irem dX12_ant_98 (by decide) ?_
        refine r_bndi (fun x8 => ?_)
        refine r_istore (l' := [.ref (ga g 198), .int z1, .int c2, .int y3, .int y4, .int x8, .int y6, .int y7, .int x4]) dX12_ant_99 (Nat.le_of_ble_eq_true rfl) rfl rfl ?_
        refine r_aload_n dX12_ant_101 rfl rfl ?_
        refine r_getR (k' := 228) dX12_ant_102 fl_X12_101 kdc_198 rfl ?_
        refine r_iload dX12_ant_105 rfl ?_
        refine r_iconst ic_1 dX12_ant_107 ?_
        refine r_aload_n dX12_ant_108 rfl rfl ?_
        refine r_getR (k' := 228) dX12_ant_109 fl_X12_101 kdc_198 rfl ?_
        refine r_iload dX12_ant_112 rfl ?_
        refine r_iald dX12_ant_114 kdc_228 (fun v9 => ?_)
        refine r_isub dX12_ant_115 ?_
        refine r_iast dX12_ant_116 kdc_228 (fun M10 => ?_)
        refine r_iload dX12_ant_117 rfl ?_
        refine r_iconst ic_2 dX12_ant_119 ?_
        refine r_aload_n dX12_ant_120 rfl rfl ?_
        refine r_getR (k' := 228) dX12_ant_121 fl_X12_101 kdc_198 rfl ?_
        refine r_iload dX12_ant_124 rfl ?_
        refine r_iald dX12_ant_126 kdc_228 (fun v11 => ?_)
        refine r_imul dX12_ant_127 ?_
        refine r_iadd dX12_ant_128 ?_
        refine r_iconst ic_1 dX12_ant_129 ?_
        refine r_isub dX12_ant_130 ?_
        refine r_bndi (fun x12 => ?_)
        refine r_istore (l' := [.ref (ga g 198), .int z1, .int c2, .int y3, .int y4, .int x8, .int x12, .int y7, .int x4]) dX12_ant_131 (Nat.le_of_ble_eq_true rfl) rfl rfl ?_
        refine r_iload_n dX12_ant_133 rfl rfl ?_
        refine r_iload dX12_ant_134 rfl ?_
        refine r_iconst ic_1 dX12_ant_136 ?_
        refine eJ (fun (J13 : (Int32) → Option (Int32 × Mem)) => ∀ (t14 : Int32), V g uX12_ant 2 rvW rmW 156 [.ref (ga g 198), .int z1, .int c2, .null, .int y4, .int x8, .int x12, .int y7, .null] [.int t14, .int y3] M10 (J13 t14)) (fun t14 => ?_) (fun J13 hJ13 => ?_)
        · refine r_iadd dX12_ant_156 ?_
          refine r_bipush bp_8 dX12_ant_157 ?_
          refine r_irem dX12_ant_159 (by decide) ?_
          refine r_bndi (fun x15 => ?_)
          refine r_istore_n (l' := [.ref (ga g 198), .int z1, .int c2, .int x15, .int y4, .int x8, .int x12, .int y7, .null]) dX12_ant_160 rfl (Nat.le_of_ble_eq_true rfl) rfl rfl ?_
          refine r_iload dX12_ant_161 rfl ?_
          refine r_iload dX12_ant_163 rfl ?_
          refine r_iconst ic_2 dX12_ant_165 ?_
          refine eJ (fun (J16 : (Int32) → Option (Int32 × Mem)) => ∀ (t17 : Int32), V g uX12_ant 2 rvW rmW 184 [.ref (ga g 198), .int z1, .int c2, .int x15, .null, .int x8, .int x12, .int y7, .null] [.int t17, .int y4] M10 (J16 t17)) (fun t17 => ?_) (fun J16 hJ16 => ?_)
          · refine r_iadd dX12_ant_184 ?_
            refine r_bipush bp_8 dX12_ant_185 ?_
            refine r_irem dX12_ant_187 (by decide) ?_
            refine r_bndi (fun x18 => ?_)
            refine r_istore (l' := [.ref (ga g 198), .int z1, .int c2, .int x15, .int x18, .int x8, .int x12, .int y7, .null]) dX12_ant_188 (Nat.le_of_ble_eq_true rfl) rfl rfl ?_
            refine r_iinc (l' := [.ref (ga g 198), .int z1, .int c2, .int x15, .int x18, .int x8, .int x12, .int (y7 + 1), .null]) dX12_ant_190 rfl (inc_1 _) (Nat.le_of_ble_eq_true rfl) rfl rfl ?_
            refine r_goto dX12_ant_193 ?_
            exact ih _ _ _ _ _ _
          · refine r_icmp_ne dX12_ant_166 (fun h => eF h ?_) (fun h => eT h ?_)
            · refine r_iload dX12_ant_173 rfl ?_
              refine r_if_ne dX12_ant_175 (fun h => eF h ?_) (fun h => eT h ?_)
              · refine r_iconst ic_0 dX12_ant_183 ?_
                exact vSub (l' := [.ref (ga g 198), .int z1, .int c2, .int x15, .null, .int x8, .int x12, .int y7, .null]) ⟨Or.inr rfl, ⟨Or.inr rfl, ⟨Or.inr rfl, ⟨Or.inr rfl, ⟨Or.inl rfl, ⟨Or.inr rfl, ⟨Or.inr rfl, ⟨Or.inr rfl, ⟨Or.inl rfl, trivial⟩⟩⟩⟩⟩⟩⟩⟩⟩ (hJ16 _)
              · refine r_bipush bp_7 dX12_ant_178 ?_
                refine r_goto dX12_ant_180 ?_
                exact vSub (l' := [.ref (ga g 198), .int z1, .int c2, .int x15, .null, .int x8, .int x12, .int y7, .null]) ⟨Or.inr rfl, ⟨Or.inr rfl, ⟨Or.inr rfl, ⟨Or.inr rfl, ⟨Or.inl rfl, ⟨Or.inr rfl, ⟨Or.inr rfl, ⟨Or.inr rfl, ⟨Or.inl rfl, trivial⟩⟩⟩⟩⟩⟩⟩⟩⟩ (hJ16 _)
            · refine r_iconst ic_1 dX12_ant_169 ?_
              refine r_goto dX12_ant_170 ?_
              exact vSub (l' := [.ref (ga g 198), .int z1, .int c2, .int x15, .null, .int x8, .int x12, .int y7, .null]) ⟨Or.inr rfl, ⟨Or.inr rfl, ⟨Or.inr rfl, ⟨Or.inr rfl, ⟨Or.inl rfl, ⟨Or.inr rfl, ⟨Or.inr rfl, ⟨Or.inr rfl, ⟨Or.inl rfl, trivial⟩⟩⟩⟩⟩⟩⟩⟩⟩ (hJ16 _)
        · refine r_icmp_ne dX12_ant_137 (fun h => eF h ?_) (fun h => eT h ?_)
          · refine r_iload dX12_ant_144 rfl ?_
            refine r_iconst ic_3 dX12_ant_146 ?_
            refine r_icmp_ne dX12_ant_147 (fun h => eF h ?_) (fun h => eT h ?_)
            · refine r_iconst ic_0 dX12_ant_155 ?_
              exact vSub (l' := [.ref (ga g 198), .int z1, .int c2, .null, .int y4, .int x8, .int x12, .int y7, .null]) ⟨Or.inr rfl, ⟨Or.inr rfl, ⟨Or.inr rfl, ⟨Or.inl rfl, ⟨Or.inr rfl, ⟨Or.inr rfl, ⟨Or.inr rfl, ⟨Or.inr rfl, ⟨Or.inl rfl, trivial⟩⟩⟩⟩⟩⟩⟩⟩⟩ (hJ13 _)
            · refine r_bipush bp_7 dX12_ant_150 ?_
              refine r_goto dX12_ant_152 ?_
              exact vSub (l' := [.ref (ga g 198), .int z1, .int c2, .null, .int y4, .int x8, .int x12, .int y7, .null]) ⟨Or.inr rfl, ⟨Or.inr rfl, ⟨Or.inr rfl, ⟨Or.inl rfl, ⟨Or.inr rfl, ⟨Or.inr rfl, ⟨Or.inr rfl, ⟨Or.inr rfl, ⟨Or.inl rfl, trivial⟩⟩⟩⟩⟩⟩⟩⟩⟩ (hJ13 _)
          · refine r_iconst ic_1 dX12_ant_140 ?_
            refine r_goto dX12_ant_141 ?_
            exact vSub (l' := [.ref (ga g 198), .int z1, .int c2, .null, .int y4, .int x8, .int x12, .int y7, .null]) ⟨Or.inr rfl, ⟨Or.inr rfl, ⟨Or.inr rfl, ⟨Or.inl rfl, ⟨Or.inr rfl, ⟨Or.inr rfl, ⟨Or.inr rfl, ⟨Or.inr rfl, ⟨Or.inl rfl, trivial⟩⟩⟩⟩⟩⟩⟩⟩⟩ (hJ13 _)
      · refine r_if_ne dX12_ant_88 (fun h => eF h ?_) (fun h => eT h ?_)
        · refine r_iconst ic_3 dX12_ant_95 ?_
          exact vSub (l' := [.ref (ga g 198), .int z1, .int c2, .int y3, .int y4, .null, .int y6, .int y7, .int x4]) ⟨Or.inr rfl, ⟨Or.inr rfl, ⟨Or.inr rfl, ⟨Or.inr rfl, ⟨Or.inr rfl, ⟨Or.inl rfl, ⟨Or.inr rfl, ⟨Or.inr rfl, ⟨Or.inr rfl, trivial⟩⟩⟩⟩⟩⟩⟩⟩⟩ (hJ6 _)
        · refine r_iconst ic_1 dX12_ant_91 ?_
          refine r_goto dX12_ant_92 ?_
          exact vSub (l' := [.ref (ga g 198), .int z1, .int c2, .int y3, .int y4, .null, .int y6, .int y7, .int x4]) ⟨Or.inr rfl, ⟨Or.inr rfl, ⟨Or.inr rfl, ⟨Or.inr rfl, ⟨Or.inr rfl, ⟨Or.inl rfl, ⟨Or.inr rfl, ⟨Or.inr rfl, ⟨Or.inr rfl, trivial⟩⟩⟩⟩⟩⟩⟩⟩⟩ (hJ6 _)
set_option maxHeartbeats 4000000 in
set_option maxRecDepth 100000 in
theorem vX12_ant {g : G}   (p1 : Int32) (p2 : Int32) (M : Mem) : V g uX12_ant 2 rvW rmW 0 [.ref (ga g 198), .int p1, .int p2, .null, .null, .null, .null, .null, .null] [] M (fX12_ant p1 p2 M) := by
  unfold fX12_ant
  refine r_aload_n dX12_ant_0 rfl rfl ?_
  refine r_iconst ic_0 dX12_ant_1 ?_
  refine r_put dX12_ant_2 fw_X12_122 kdc_198 (fun M1 => ?_)
  refine r_aload_n dX12_ant_5 rfl rfl ?_
  refine r_iload_n dX12_ant_6 rfl rfl ?_
  refine r_iconst ic_0 dX12_ant_7 ?_
  refine r_sipush sp_300 dX12_ant_8 ?_
  refine r_calliT (cl_V [.int p1, .int 0, .int 300] bX12_isIn (by decide) dX12_ant_11 ml_X12_140 kdc_198 rfl (Nat.le_of_ble_eq_true rfl) rfl) (kX12_isIn _ _ _ _) ?_
  refine r_if_eq dX12_ant_14 (fun h => eT h ?_) (fun h => eF h ?_)
  · refine r_iconst ic_m1 dX12_ant_27 ?_
    exact vRet rfl rfl rfl dX12_ant_28
  · refine r_aload_n dX12_ant_17 rfl rfl ?_
    refine r_iload_n dX12_ant_18 rfl rfl ?_
    refine r_iconst ic_0 dX12_ant_19 ?_
    refine r_iconst ic_1 dX12_ant_20 ?_
    refine r_calliT (cl_V [.int p2, .int 0, .int 1] bX12_isIn (by decide) dX12_ant_21 ml_X12_140 kdc_198 rfl (Nat.le_of_ble_eq_true rfl) rfl) (kX12_isIn _ _ _ _) ?_
    refine r_if_ne dX12_ant_24 (fun h => eF h ?_) (fun h => eT h ?_)
    · refine r_iconst ic_0 dX12_ant_29 ?_
      refine r_istore_n (l' := [.ref (ga g 198), .int p1, .int p2, .int 0, .null, .null, .null, .null, .null]) dX12_ant_30 rfl (Nat.le_of_ble_eq_true rfl) rfl rfl ?_
      refine vX12_ant_L31 _ _ _ (fun M3 => ?_) FU _ _
      · refine r_iconst ic_3 dX12_ant_50 ?_
        refine r_istore_n (l' := [.ref (ga g 198), .int p1, .int p2, .int 3, .null, .null, .null, .null, .null]) dX12_ant_51 rfl (Nat.le_of_ble_eq_true rfl) rfl rfl ?_
        refine r_iconst ic_3 dX12_ant_52 ?_
        refine r_istore (l' := [.ref (ga g 198), .int p1, .int p2, .int 3, .int 3, .null, .null, .null, .null]) dX12_ant_53 (Nat.le_of_ble_eq_true rfl) rfl rfl ?_
        refine r_iconst ic_0 dX12_ant_55 ?_
        refine r_istore (l' := [.ref (ga g 198), .int p1, .int p2, .int 3, .int 3, .int 0, .null, .null, .null]) dX12_ant_56 (Nat.le_of_ble_eq_true rfl) rfl rfl ?_
        refine r_iconst ic_0 dX12_ant_58 ?_
        refine r_istore (l' := [.ref (ga g 198), .int p1, .int p2, .int 3, .int 3, .int 0, .int 0, .null, .null]) dX12_ant_59 (Nat.le_of_ble_eq_true rfl) rfl rfl ?_
        refine r_iconst ic_0 dX12_ant_61 ?_
        refine r_istore (l' := [.ref (ga g 198), .int p1, .int p2, .int 3, .int 3, .int 0, .int 0, .int 0, .null]) dX12_ant_62 (Nat.le_of_ble_eq_true rfl) rfl rfl ?_
        refine vX12_ant_L64 _ _ _ (fun e19 e20 e21 M22 => ?_) FU _ _ _ _ _ _
        · refine r_iload_n dX12_ant_196 rfl rfl ?_
          refine r_if_ne dX12_ant_197 (fun h => eF h ?_) (fun h => eT h ?_)
          · refine r_iload dX12_ant_210 rfl ?_
            exact vRet rfl rfl rfl dX12_ant_212
          · refine r_bipush bp_8 dX12_ant_200 ?_
            refine r_iload dX12_ant_202 rfl ?_
            refine r_imul dX12_ant_204 ?_
            refine r_iload_n dX12_ant_205 rfl rfl ?_
            refine r_iadd dX12_ant_206 ?_
            refine r_goto dX12_ant_207 ?_
            exact vRet rfl rfl rfl dX12_ant_212
    · refine r_iconst ic_m1 dX12_ant_27 ?_
      exact vRet rfl rfl rfl dX12_ant_28
theorem kX12_ant {g : G}   (p1 : Int32) (p2 : Int32) (M : Mem) : CtrI g uX12_ant 2 (fun r => r.1) rmW [.ref (ga g 198), .int p1, .int p2] M (fX12_ant p1 p2 M) := CtrI.of mX12_ant rfl (Nat.le_of_ble_eq_true rfl) rfl (vX12_ant p1 p2 M)
set_option maxHeartbeats 4000000 in
set_option maxRecDepth 100000 in
theorem vX5_nextRow_L4 {g : G}   (z0 : Int32) (z1 : Int32)  (M : Mem)   : ∀ (n : Nat) (y2 : Int32) (y3 : Int32), V g uX5_nextRow 1 rvI (rmP M) 4 [.int z0, .int z1, .int y2, .int y3, .null, .null, .null] [] M (fX5_nextRow_L4 z0 z1 n y2 y3) := by
  intro n
  induction n with
  | zero => intro y2 y3; exact vNone
  | succ n ih =>
    intro y2 y3
    rw [fX5_nextRow_L4]
    refine r_iload_n dX5_nextRow_4 rfl rfl ?_
    refine r_bipush bp_16 dX5_nextRow_5 ?_
    refine r_icmp_ge dX5_nextRow_7 (fun h => eT h ?_) (fun h => eF h ?_)
    · refine r_iload_n dX5_nextRow_71 rfl rfl ?_
      exact vRet rfl rfl rfl dX5_nextRow_72
    · refine r_iload_n dX5_nextRow_10 rfl rfl ?_
      refine r_iload_n dX5_nextRow_11 rfl rfl ?_
      refine r_iconst ic_1 dX5_nextRow_12 ?_
      refine r_iadd dX5_nextRow_13 ?_
      refine r_bipush bp_16 dX5_nextRow_14 ?_
      refine r_irem dX5_nextRow_16 (by decide) ?_
      refine r_ishr dX5_nextRow_17 ?_
      refine r_iconst ic_1 dX5_nextRow_18 ?_
      refine r_iand dX5_nextRow_19 ?_
      refine r_bndi (fun x1 => ?_)
      refine r_istore (l' := [.int z0, .int z1, .int y2, .int y3, .int x1, .null, .null]) dX5_nextRow_20 (Nat.le_of_ble_eq_true rfl) rfl rfl ?_
      refine r_iload_n dX5_nextRow_22 rfl rfl ?_
      refine r_iload_n dX5_nextRow_23 rfl rfl ?_
      refine r_bipush bp_16 dX5_nextRow_24 ?_
      refine r_iadd dX5_nextRow_26 ?_
      refine r_iconst ic_1 dX5_nextRow_27 ?_
      refine r_isub dX5_nextRow_28 ?_
      refine r_bipush bp_16 dX5_nextRow_29 ?_
      refine r_irem dX5_nextRow_31 (by decide) ?_
      refine r_ishr dX5_nextRow_32 ?_
      refine r_iconst ic_1 dX5_nextRow_33 ?_
      refine r_iand dX5_nextRow_34 ?_
      refine r_bndi (fun x2 => ?_)
      refine r_istore (l' := [.int z0, .int z1, .int y2, .int y3, .int x1, .int x2, .null]) dX5_nextRow_35 (Nat.le_of_ble_eq_true rfl) rfl rfl ?_
      refine r_iconst ic_4 dX5_nextRow_37 ?_
      refine r_iload dX5_nextRow_38 rfl ?_
      refine r_imul dX5_nextRow_40 ?_
      refine r_iconst ic_2 dX5_nextRow_41 ?_
      refine r_iload_n dX5_nextRow_42 rfl rfl ?_
      refine r_iload_n dX5_nextRow_43 rfl rfl ?_
      refine r_ishr dX5_nextRow_44 ?_
      refine r_iconst ic_1 dX5_nextRow_45 ?_
      refine r_iand dX5_nextRow_46 ?_
      refine r_imul dX5_nextRow_47 ?_
      refine r_iadd dX5_nextRow_48 ?_
      refine r_iload dX5_nextRow_49 rfl ?_
      refine r_iadd dX5_nextRow_51 ?_
      refine r_bndi (fun x3 => ?_)
      refine r_istore (l' := [.int z0, .int z1, .int y2, .int y3, .int x1, .int x2, .int x3]) dX5_nextRow_52 (Nat.le_of_ble_eq_true rfl) rfl rfl ?_
      refine r_iload_n dX5_nextRow_54 rfl rfl ?_
      refine r_iload_n dX5_nextRow_55 rfl rfl ?_
      refine r_iload dX5_nextRow_56 rfl ?_
      refine r_ishr dX5_nextRow_58 ?_
      refine r_iconst ic_1 dX5_nextRow_59 ?_
      refine r_iand dX5_nextRow_60 ?_
      refine r_iload_n dX5_nextRow_61 rfl rfl ?_
      refine r_ishl dX5_nextRow_62 ?_
      refine r_ior dX5_nextRow_63 ?_
      refine r_bndi (fun x4 => ?_)
      refine r_istore_n (l' := [.int z0, .int z1, .int x4, .int y3, .int x1, .int x2, .int x3]) dX5_nextRow_64 rfl (Nat.le_of_ble_eq_true rfl) rfl rfl ?_
      refine r_iinc (l' := [.int z0, .int z1, .int x4, .int (y3 + 1), .int x1, .int x2, .int x3]) dX5_nextRow_65 rfl (inc_1 _) (Nat.le_of_ble_eq_true rfl) rfl rfl ?_
      refine r_goto dX5_nextRow_68 ?_
      exact vSub (l' := [.int z0, .int z1, .int x4, .int (y3 + 1), .null, .null, .null]) ⟨Or.inr rfl, ⟨Or.inr rfl, ⟨Or.inr rfl, ⟨Or.inr rfl, ⟨Or.inl rfl, ⟨Or.inl rfl, ⟨Or.inl rfl, trivial⟩⟩⟩⟩⟩⟩⟩ (ih _ _)
set_option maxHeartbeats 4000000 in
set_option maxRecDepth 100000 in
theorem vX5_nextRow {g : G}   (p0 : Int32) (p1 : Int32) (M : Mem) : V g uX5_nextRow 1 rvI (rmP M) 0 [.int p0, .int p1, .null, .null, .null, .null, .null] [] M (fX5_nextRow p0 p1) := by
  unfold fX5_nextRow
  refine r_iconst ic_0 dX5_nextRow_0 ?_
  refine r_istore_n (l' := [.int p0, .int p1, .int 0, .null, .null, .null, .null]) dX5_nextRow_1 rfl (Nat.le_of_ble_eq_true rfl) rfl rfl ?_
  refine r_iconst ic_0 dX5_nextRow_2 ?_
  refine r_istore_n (l' := [.int p0, .int p1, .int 0, .int 0, .null, .null, .null]) dX5_nextRow_3 rfl (Nat.le_of_ble_eq_true rfl) rfl rfl ?_
  refine vX5_nextRow_L4 _ _ _ FU _ _
theorem kX5_nextRow {g : G}   (p0 : Int32) (p1 : Int32) (M : Mem) : CtrI g uX5_nextRow 1 (fun r => r) (rmP M) [.int p0, .int p1] M (fX5_nextRow p0 p1) := CtrI.of mX5_nextRow rfl (Nat.le_of_ble_eq_true rfl) rfl (vX5_nextRow p0 p1 M)
set_option maxHeartbeats 4000000 in
set_option maxRecDepth 100000 in
theorem vX11_row_L39 {g : G}  (K67 : Int32 → Option (Int32)) (z2 : Int32) (c3 : Int32) (M : Mem)  (hK67 : ∀ (e4 : Int32), V g uX11_row 2 rvI (rmP M) 67 [.null, .null, .null, .int c3, .int e4, .null] [] M (K67 e4)) : ∀ (n : Nat) (y4 : Int32) (y5 : Int32), V g uX11_row 2 rvI (rmP M) 39 [.null, .null, .int z2, .int c3, .int y4, .int y5] [] M (fX11_row_L39 K67 z2 n y4 y5) := by
  intro n
  induction n with
  | zero => intro y4 y5; exact vNone
  | succ n ih =>
    intro y4 y5
    rw [fX11_row_L39]
    refine r_iload dX11_row_39 rfl ?_
    refine r_iload_n dX11_row_41 rfl rfl ?_
    refine r_sipush sp_256 dX11_row_42 ?_
    refine r_idiv dX11_row_45 (by decide) ?_
    refine r_icmp_ge dX11_row_46 (fun h => eT h ?_) (fun h => eF h ?_)
    · exact vSub (l' := [.null, .null, .null, .int c3, .int y4, .null]) ⟨Or.inl rfl, ⟨Or.inl rfl, ⟨Or.inl rfl, ⟨Or.inr rfl, ⟨Or.inr rfl, ⟨Or.inl rfl, trivial⟩⟩⟩⟩⟩⟩ (hK67 _)
    · refine r_iload dX11_row_49 rfl ?_
      refine r_iload_n dX11_row_51 rfl rfl ?_
      refine r_sipush sp_256 dX11_row_52 ?_
      refine r_irem dX11_row_55 (by decide) ?_
      refine r_calli (cl_S [.int y4, .int (jrem z2 256)] bX5_nextRow (by decide) dX11_row_56 ml_X11_314 rfl (Nat.le_of_ble_eq_true rfl) rfl) (kX5_nextRow _ _ _) (fun v1 _ => ?_)
      refine r_istore (l' := [.null, .null, .int z2, .int c3, .int v1, .int y5]) dX11_row_59 (Nat.le_of_ble_eq_true rfl) rfl rfl ?_
      refine r_iinc (l' := [.null, .null, .int z2, .int c3, .int v1, .int (y5 + 1)]) dX11_row_61 rfl (inc_1 _) (Nat.le_of_ble_eq_true rfl) rfl rfl ?_
      refine r_goto dX11_row_64 ?_
      exact ih _ _
set_option maxHeartbeats 4000000 in
set_option maxRecDepth 100000 in
theorem vX11_row {g : G}   (p1 : Int32) (p2 : Int32) (p3 : Int32) (M : Mem) : V g uX11_row 2 rvI (rmP M) 0 [.ref (ga g 0), .int p1, .int p2, .int p3, .null, .null] [] M (fX11_row p1 p2 p3) := by
  unfold fX11_row
  refine r_iload_n dX11_row_0 rfl rfl ?_
  refine r_iconst ic_0 dX11_row_1 ?_
  refine r_ldcw lc_X11_313 dX11_row_2 ?_
  refine r_calliT (cl_S [.int p1, .int 0, .int 65535] bX11_isWithin (by decide) dX11_row_5 ml_X11_71 rfl (Nat.le_of_ble_eq_true rfl) rfl) (kX11_isWithin _ _ _ _) ?_
  refine r_if_eq dX11_row_8 (fun h => eT h ?_) (fun h => eF h ?_)
  · refine r_iconst ic_m1 dX11_row_31 ?_
    exact vRet rfl rfl rfl dX11_row_32
  · refine r_iload_n dX11_row_11 rfl rfl ?_
    refine r_iconst ic_0 dX11_row_12 ?_
    refine r_sipush sp_7935 dX11_row_13 ?_
    refine r_calliT (cl_S [.int p2, .int 0, .int 7935] bX11_isWithin (by decide) dX11_row_16 ml_X11_71 rfl (Nat.le_of_ble_eq_true rfl) rfl) (kX11_isWithin _ _ _ _) ?_
    refine r_if_eq dX11_row_19 (fun h => eT h ?_) (fun h => eF h ?_)
    · refine r_iconst ic_m1 dX11_row_31 ?_
      exact vRet rfl rfl rfl dX11_row_32
    · refine r_iload_n dX11_row_22 rfl rfl ?_
      refine r_iconst ic_0 dX11_row_23 ?_
      refine r_iconst ic_1 dX11_row_24 ?_
      refine r_calliT (cl_S [.int p3, .int 0, .int 1] bX11_isWithin (by decide) dX11_row_25 ml_X11_71 rfl (Nat.le_of_ble_eq_true rfl) rfl) (kX11_isWithin _ _ _ _) ?_
      refine r_if_ne dX11_row_28 (fun h => eF h ?_) (fun h => eT h ?_)
      · refine r_iload_n dX11_row_33 rfl rfl ?_
        refine r_istore (l' := [.ref (ga g 0), .int p1, .int p2, .int p3, .int p1, .null]) dX11_row_34 (Nat.le_of_ble_eq_true rfl) rfl rfl ?_
        refine r_iconst ic_0 dX11_row_36 ?_
        refine r_istore (l' := [.ref (ga g 0), .int p1, .int p2, .int p3, .int p1, .int 0]) dX11_row_37 (Nat.le_of_ble_eq_true rfl) rfl rfl ?_
        refine vSub (l' := [.null, .null, .int p2, .int p3, .int p1, .int 0]) ⟨Or.inl rfl, ⟨Or.inl rfl, ⟨Or.inr rfl, ⟨Or.inr rfl, ⟨Or.inr rfl, ⟨Or.inr rfl, trivial⟩⟩⟩⟩⟩⟩ ?_
        refine vX11_row_L39 _ _ _ _ (fun e2 => ?_) FU _ _
        · refine r_iload_n dX11_row_67 rfl rfl ?_
          refine r_if_ne dX11_row_68 (fun h => eF h ?_) (fun h => eT h ?_)
          · refine r_iload dX11_row_76 rfl ?_
            refine r_calliT (cl_S [.int e2] bJ6_bitCount_0f7a4 (by decide) dX11_row_78 ml_X11_229 rfl (Nat.le_of_ble_eq_true rfl) rfl) (kJ6_bitCount_0f7a4 _ _) ?_
            exact vRet rfl rfl rfl dX11_row_81
          · refine r_iload dX11_row_71 rfl ?_
            refine r_goto dX11_row_73 ?_
            exact vRet rfl rfl rfl dX11_row_81
      · refine r_iconst ic_m1 dX11_row_31 ?_
        exact vRet rfl rfl rfl dX11_row_32
theorem kX11_row {g : G}   (p1 : Int32) (p2 : Int32) (p3 : Int32) (M : Mem) : CtrI g uX11_row 2 (fun r => r) (rmP M) [.ref (ga g 0), .int p1, .int p2, .int p3] M (fX11_row p1 p2 p3) := CtrI.of mX11_row rfl (Nat.le_of_ble_eq_true rfl) rfl (vX11_row p1 p2 p3 M)
set_option maxHeartbeats 4000000 in
set_option maxRecDepth 100000 in
theorem vX12_row_L63 {g : G}  (K139 : Int32 → Option (Int32 × Mem)) (z2 : Int32) (z4 : Int32) (c3 : Int32) (c5 : Int32) (M : Mem)  (hK139 : ∀ (e6 : Int32), V g uX12_row 2 rvW rmW 139 [.ref (ga g 198), .null, .int z2, .int c3, .null, .int c5, .int e6, .null, .null] [] M (K139 e6)) : ∀ (n : Nat) (y6 : Int32) (y7 : Int32), V g uX12_row 2 rvW rmW 63 [.ref (ga g 198), .null, .int z2, .int c3, .int z4, .int c5, .int y6, .int y7, .null] [] M (fX12_row_L63 K139 z2 z4 M n y6 y7) := by
  intro n
  induction n with
  | zero => intro y6 y7; exact vNone
  | succ n ih =>
    intro y6 y7
    rw [fX12_row_L63]
    refine r_iload dX12_row_63 rfl ?_
    refine r_bipush bp_16 dX12_row_65 ?_
    refine r_icmp_ge dX12_row_67 (fun h => eT h ?_) (fun h => eF h ?_)
    · exact vSub (l' := [.ref (ga g 198), .null, .int z2, .int c3, .null, .int c5, .int y6, .null, .null]) ⟨Or.inr rfl, ⟨Or.inl rfl, ⟨Or.inr rfl, ⟨Or.inr rfl, ⟨Or.inl rfl, ⟨Or.inr rfl, ⟨Or.inr rfl, ⟨Or.inl rfl, ⟨Or.inl rfl, trivial⟩⟩⟩⟩⟩⟩⟩⟩⟩ (hK139 _)
    · refine r_iconst ic_4 dX12_row_70 ?_
      refine r_iload dX12_row_71 rfl ?_
      refine r_iload dX12_row_73 rfl ?_
      refine r_iconst ic_1 dX12_row_75 ?_
      refine r_iadd dX12_row_76 ?_
      refine r_bipush bp_16 dX12_row_77 ?_
      refine r_irem dX12_row_79 (by decide) ?_
      refine r_ishr dX12_row_80 ?_
      refine r_iconst ic_1 dX12_row_81 ?_
      refine r_iand dX12_row_82 ?_
      refine r_imul dX12_row_83 ?_
      refine r_iconst ic_2 dX12_row_84 ?_
      refine r_iload dX12_row_85 rfl ?_
      refine r_iload dX12_row_87 rfl ?_
      refine r_ishr dX12_row_89 ?_
      refine r_iconst ic_1 dX12_row_90 ?_
      refine r_iand dX12_row_91 ?_
      refine r_imul dX12_row_92 ?_
      refine r_iadd dX12_row_93 ?_
      refine r_iload dX12_row_94 rfl ?_
      refine r_iload dX12_row_96 rfl ?_
      refine r_bipush bp_15 dX12_row_98 ?_
      refine r_iadd dX12_row_100 ?_
      refine r_bipush bp_16 dX12_row_101 ?_
      refine r_irem dX12_row_103 (by decide) ?_
      refine r_ishr dX12_row_104 ?_
      refine r_iconst ic_1 dX12_row_105 ?_
      refine r_iand dX12_row_106 ?_
      refine r_iadd dX12_row_107 ?_
      refine r_bndi (fun x2 => ?_)
      refine r_istore (l' := [.ref (ga g 198), .null, .int z2, .int c3, .int z4, .int c5, .int y6, .int y7, .int x2]) dX12_row_108 (Nat.le_of_ble_eq_true rfl) rfl rfl ?_
      refine r_aload_n dX12_row_110 rfl rfl ?_
      refine r_iload_n dX12_row_111 rfl rfl ?_
      refine r_sipush sp_256 dX12_row_112 ?_
      refine r_irem dX12_row_115 (by decide) ?_
      refine r_iload dX12_row_116 rfl ?_
      refine r_calliT (cl_V [.int (jrem z2 256), .int x2] bX12_has (by decide) dX12_row_118 ml_X12_330 kdc_198 rfl (Nat.le_of_ble_eq_true rfl) rfl) (kX12_has _ _ _) ?_
      refine eJ (fun (J3 : (Int32) → Option (Int32 × Mem)) => ∀ (a4 : Int32), V g uX12_row 2 rvW rmW 133 [.ref (ga g 198), .null, .int z2, .int c3, .int z4, .int c5, .int a4, .int y7, .null] [] M (J3 a4)) (fun a4 => ?_) (fun J3 hJ3 => ?_)
      · refine r_iinc (l' := [.ref (ga g 198), .null, .int z2, .int c3, .int z4, .int c5, .int a4, .int (y7 + 1), .null]) dX12_row_133 rfl (inc_1 _) (Nat.le_of_ble_eq_true rfl) rfl rfl ?_
        refine r_goto dX12_row_136 ?_
        exact ih _ _
      · refine r_if_eq dX12_row_121 (fun h => eT h ?_) (fun h => eF h ?_)
        · exact vSub (l' := [.ref (ga g 198), .null, .int z2, .int c3, .int z4, .int c5, .int y6, .int y7, .null]) ⟨Or.inr rfl, ⟨Or.inl rfl, ⟨Or.inr rfl, ⟨Or.inr rfl, ⟨Or.inr rfl, ⟨Or.inr rfl, ⟨Or.inr rfl, ⟨Or.inr rfl, ⟨Or.inl rfl, trivial⟩⟩⟩⟩⟩⟩⟩⟩⟩ (hJ3 _)
        · refine r_iload dX12_row_124 rfl ?_
          refine r_iconst ic_1 dX12_row_126 ?_
          refine r_iload dX12_row_127 rfl ?_
          refine r_ishl dX12_row_129 ?_
          refine r_ior dX12_row_130 ?_
          refine r_bndi (fun x5 => ?_)
          refine r_istore (l' := [.ref (ga g 198), .null, .int z2, .int c3, .int z4, .int c5, .int x5, .int y7, .int x2]) dX12_row_131 (Nat.le_of_ble_eq_true rfl) rfl rfl ?_
          exact vSub (l' := [.ref (ga g 198), .null, .int z2, .int c3, .int z4, .int c5, .int x5, .int y7, .null]) ⟨Or.inr rfl, ⟨Or.inl rfl, ⟨Or.inr rfl, ⟨Or.inr rfl, ⟨Or.inr rfl, ⟨Or.inr rfl, ⟨Or.inr rfl, ⟨Or.inr rfl, ⟨Or.inl rfl, trivial⟩⟩⟩⟩⟩⟩⟩⟩⟩ (hJ3 _)
set_option maxHeartbeats 4000000 in
set_option maxRecDepth 100000 in
theorem vX12_row_L47 {g : G}  (K149 : Int32 → Option (Int32 × Mem)) (z2 : Int32) (c3 : Int32) (M : Mem)  (hK149 : ∀ (e4 : Int32), V g uX12_row 2 rvW rmW 149 [.ref (ga g 198), .null, .null, .int c3, .int e4, .null, .null, .null, .null] [] M (K149 e4)) : ∀ (n : Nat) (y4 : Int32) (y5 : Int32), V g uX12_row 2 rvW rmW 47 [.ref (ga g 198), .null, .int z2, .int c3, .int y4, .int y5, .null, .null, .null] [] M (fX12_row_L47 K149 z2 M n y4 y5) := by
  intro n
  induction n with
  | zero => intro y4 y5; exact vNone
  | succ n ih =>
    intro y4 y5
    rw [fX12_row_L47]
    refine r_iload dX12_row_47 rfl ?_
    refine r_iload_n dX12_row_49 rfl rfl ?_
    refine r_sipush sp_256 dX12_row_50 ?_
    refine r_idiv dX12_row_53 (by decide) ?_
    refine r_icmp_ge dX12_row_54 (fun h => eT h ?_) (fun h => eF h ?_)
    · exact vSub (l' := [.ref (ga g 198), .null, .null, .int c3, .int y4, .null, .null, .null, .null]) ⟨Or.inr rfl, ⟨Or.inl rfl, ⟨Or.inl rfl, ⟨Or.inr rfl, ⟨Or.inr rfl, ⟨Or.inl rfl, ⟨Or.inl rfl, ⟨Or.inl rfl, ⟨Or.inl rfl, trivial⟩⟩⟩⟩⟩⟩⟩⟩⟩ (hK149 _)
    · refine r_iconst ic_0 dX12_row_57 ?_
      refine r_istore (l' := [.ref (ga g 198), .null, .int z2, .int c3, .int y4, .int y5, .int 0, .null, .null]) dX12_row_58 (Nat.le_of_ble_eq_true rfl) rfl rfl ?_
      refine r_iconst ic_0 dX12_row_60 ?_
      refine r_istore (l' := [.ref (ga g 198), .null, .int z2, .int c3, .int y4, .int y5, .int 0, .int 0, .null]) dX12_row_61 (Nat.le_of_ble_eq_true rfl) rfl rfl ?_
      refine vX12_row_L63 _ _ _ _ _ _ (fun e6 => ?_) FU _ _
      · refine r_iload dX12_row_139 rfl ?_
        refine r_istore (l' := [.ref (ga g 198), .null, .int z2, .int c3, .int e6, .int y5, .int e6, .null, .null]) dX12_row_141 (Nat.le_of_ble_eq_true rfl) rfl rfl ?_
        refine r_iinc (l' := [.ref (ga g 198), .null, .int z2, .int c3, .int e6, .int (y5 + 1), .int e6, .null, .null]) dX12_row_143 rfl (inc_1 _) (Nat.le_of_ble_eq_true rfl) rfl rfl ?_
        refine r_goto dX12_row_146 ?_
        exact vSub (l' := [.ref (ga g 198), .null, .int z2, .int c3, .int e6, .int (y5 + 1), .null, .null, .null]) ⟨Or.inr rfl, ⟨Or.inl rfl, ⟨Or.inr rfl, ⟨Or.inr rfl, ⟨Or.inr rfl, ⟨Or.inr rfl, ⟨Or.inl rfl, ⟨Or.inl rfl, ⟨Or.inl rfl, trivial⟩⟩⟩⟩⟩⟩⟩⟩⟩ (ih _ _)
set_option maxHeartbeats 4000000 in
set_option maxRecDepth 100000 in
theorem vX12_row {g : G}   (p1 : Int32) (p2 : Int32) (p3 : Int32) (M : Mem) : V g uX12_row 2 rvW rmW 0 [.ref (ga g 198), .int p1, .int p2, .int p3, .null, .null, .null, .null, .null] [] M (fX12_row p1 p2 p3 M) := by
  unfold fX12_row
  refine r_aload_n dX12_row_0 rfl rfl ?_
  refine r_iconst ic_0 dX12_row_1 ?_
  refine r_put dX12_row_2 fw_X12_122 kdc_198 (fun M1 => ?_)
  refine r_aload_n dX12_row_5 rfl rfl ?_
  refine r_iload_n dX12_row_6 rfl rfl ?_
  refine r_iconst ic_0 dX12_row_7 ?_
  refine r_ldcw lc_X12_415 dX12_row_8 ?_
  refine r_calliT (cl_V [.int p1, .int 0, .int 65535] bX12_isIn (by decide) dX12_row_11 ml_X12_140 kdc_198 rfl (Nat.le_of_ble_eq_true rfl) rfl) (kX12_isIn _ _ _ _) ?_
  refine r_if_eq dX12_row_14 (fun h => eT h ?_) (fun h => eF h ?_)
  · refine r_iconst ic_m1 dX12_row_39 ?_
    exact vRet rfl rfl rfl dX12_row_40
  · refine r_aload_n dX12_row_17 rfl rfl ?_
    refine r_iload_n dX12_row_18 rfl rfl ?_
    refine r_iconst ic_0 dX12_row_19 ?_
    refine r_sipush sp_7935 dX12_row_20 ?_
    refine r_calliT (cl_V [.int p2, .int 0, .int 7935] bX12_isIn (by decide) dX12_row_23 ml_X12_140 kdc_198 rfl (Nat.le_of_ble_eq_true rfl) rfl) (kX12_isIn _ _ _ _) ?_
    refine r_if_eq dX12_row_26 (fun h => eT h ?_) (fun h => eF h ?_)
    · refine r_iconst ic_m1 dX12_row_39 ?_
      exact vRet rfl rfl rfl dX12_row_40
    · refine r_aload_n dX12_row_29 rfl rfl ?_
      refine r_iload_n dX12_row_30 rfl rfl ?_
      refine r_iconst ic_0 dX12_row_31 ?_
      refine r_iconst ic_1 dX12_row_32 ?_
      refine r_calliT (cl_V [.int p3, .int 0, .int 1] bX12_isIn (by decide) dX12_row_33 ml_X12_140 kdc_198 rfl (Nat.le_of_ble_eq_true rfl) rfl) (kX12_isIn _ _ _ _) ?_
      refine r_if_ne dX12_row_36 (fun h => eF h ?_) (fun h => eT h ?_)
      · refine r_iload_n dX12_row_41 rfl rfl ?_
        refine r_istore (l' := [.ref (ga g 198), .int p1, .int p2, .int p3, .int p1, .null, .null, .null, .null]) dX12_row_42 (Nat.le_of_ble_eq_true rfl) rfl rfl ?_
        refine r_iconst ic_0 dX12_row_44 ?_
        refine r_istore (l' := [.ref (ga g 198), .int p1, .int p2, .int p3, .int p1, .int 0, .null, .null, .null]) dX12_row_45 (Nat.le_of_ble_eq_true rfl) rfl rfl ?_
        refine vSub (l' := [.ref (ga g 198), .null, .int p2, .int p3, .int p1, .int 0, .null, .null, .null]) ⟨Or.inr rfl, ⟨Or.inl rfl, ⟨Or.inr rfl, ⟨Or.inr rfl, ⟨Or.inr rfl, ⟨Or.inr rfl, ⟨Or.inl rfl, ⟨Or.inl rfl, ⟨Or.inl rfl, trivial⟩⟩⟩⟩⟩⟩⟩⟩⟩ ?_
        refine vX12_row_L47 _ _ _ _ (fun e7 => ?_) FU _ _
        · refine r_iload_n dX12_row_149 rfl rfl ?_
          refine r_if_ne dX12_row_150 (fun h => eF h ?_) (fun h => eT h ?_)
          · refine r_aload_n dX12_row_158 rfl rfl ?_
            refine r_iload dX12_row_159 rfl ?_
            refine r_calli (cl_V [.int e7] bX12_onesOf (by decide) dX12_row_161 ml_X12_311 kdc_198 rfl (Nat.le_of_ble_eq_true rfl) rfl) (kX12_onesOf _ _) (fun v8 _ => ?_)
            exact vRet rfl rfl rfl dX12_row_164
          · refine r_iload dX12_row_153 rfl ?_
            refine r_goto dX12_row_155 ?_
            exact vRet rfl rfl rfl dX12_row_164
      · refine r_iconst ic_m1 dX12_row_39 ?_
        exact vRet rfl rfl rfl dX12_row_40
theorem kX12_row {g : G}   (p1 : Int32) (p2 : Int32) (p3 : Int32) (M : Mem) : CtrI g uX12_row 2 (fun r => r.1) rmW [.ref (ga g 198), .int p1, .int p2, .int p3] M (fX12_row p1 p2 p3 M) := CtrI.of mX12_row rfl (Nat.le_of_ble_eq_true rfl) rfl (vX12_row p1 p2 p3 M)
set_option maxHeartbeats 4000000 in
set_option maxRecDepth 100000 in
theorem vX5_ownDifference_L21 {g : G}  (K70 : Int32 → Int32 → Int32 → Option (Int32)) (z4 : Int32) (c0 : Int32) (M : Mem)  (hK70 : ∀ (e1 : Int32) (e2 : Int32) (e3 : Int32), V g uX5_ownDifference 1 rvI (rmP M) 70 [.int c0, .int e1, .int e2, .int e3, .int z4, .null, .null] [] M (K70 e1 e2 e3)) : ∀ (n : Nat) (y1 : Int32) (y2 : Int32) (y3 : Int32) (y5 : Int32) (y6 : Int32), V g uX5_ownDifference 1 rvI (rmP M) 21 [.int c0, .int y1, .int y2, .int y3, .int z4, .int y5, .int y6] [] M (fX5_ownDifference_L21 K70 z4 n y1 y2 y3 y5 y6) := by
  intro n
  induction n with
  | zero => intro y1 y2 y3 y5 y6; exact vNone
  | succ n ih =>
    intro y1 y2 y3 y5 y6
    rw [fX5_ownDifference_L21]
    refine r_iload dX5_ownDifference_21 rfl ?_
    refine r_iconst ic_4 dX5_ownDifference_23 ?_
    refine r_icmp_ge dX5_ownDifference_24 (fun h => eT h ?_) (fun h => eF h ?_)
    · exact vSub (l' := [.int c0, .int y1, .int y2, .int y3, .int z4, .null, .null]) ⟨Or.inr rfl, ⟨Or.inr rfl, ⟨Or.inr rfl, ⟨Or.inr rfl, ⟨Or.inr rfl, ⟨Or.inl rfl, ⟨Or.inl rfl, trivial⟩⟩⟩⟩⟩⟩⟩ (hK70 _ _ _)
    · refine r_iload dX5_ownDifference_27 rfl ?_
      refine r_bipush bp_10 dX5_ownDifference_29 ?_
      refine r_irem dX5_ownDifference_31 (by decide) ?_
      refine r_iload dX5_ownDifference_32 rfl ?_
      refine eJ (fun (J1 : (Int32) → (Int32) → (Int32) → Option (Int32)) => ∀ (a2 : Int32) (a3 : Int32) (a4 : Int32), V g uX5_ownDifference 1 rvI (rmP M) 57 [.int c0, .int a2, .int a3, .int a4, .int z4, .int y5, .int y6] [] M (J1 a2 a3 a4)) (fun a2 a3 a4 => ?_) (fun J1 hJ1 => ?_)
      · refine r_iload dX5_ownDifference_57 rfl ?_
        refine r_bipush bp_10 dX5_ownDifference_59 ?_
        refine r_idiv dX5_ownDifference_61 (by decide) ?_
        refine r_bndi (fun x5 => ?_)
        refine r_istore (l' := [.int c0, .int a2, .int a3, .int a4, .int z4, .int x5, .int y6]) dX5_ownDifference_62 (Nat.le_of_ble_eq_true rfl) rfl rfl ?_
        refine r_iinc (l' := [.int c0, .int a2, .int a3, .int a4, .int z4, .int x5, .int (y6 + 1)]) dX5_ownDifference_64 rfl (inc_1 _) (Nat.le_of_ble_eq_true rfl) rfl rfl ?_
        refine r_goto dX5_ownDifference_67 ?_
        exact ih _ _ _ _ _
      · refine r_icmp_ne dX5_ownDifference_34 (fun h => eF h ?_) (fun h => eT h ?_)
        · exact hJ1 _ _ _
        · refine r_iload_n dX5_ownDifference_37 rfl rfl ?_
          refine r_bipush bp_10 dX5_ownDifference_38 ?_
          refine r_imul dX5_ownDifference_40 ?_
          refine r_iload dX5_ownDifference_41 rfl ?_
          refine r_iadd dX5_ownDifference_43 ?_
          refine r_bndi (fun x6 => ?_)
          refine r_istore_n (l' := [.int c0, .int x6, .int y2, .int y3, .int z4, .int y5, .int y6]) dX5_ownDifference_44 rfl (Nat.le_of_ble_eq_true rfl) rfl rfl ?_
          refine r_iload_n dX5_ownDifference_45 rfl rfl ?_
          refine r_iload dX5_ownDifference_46 rfl ?_
          refine r_iload_n dX5_ownDifference_48 rfl rfl ?_
          refine r_imul dX5_ownDifference_49 ?_
          refine r_iadd dX5_ownDifference_50 ?_
          refine r_bndi (fun x7 => ?_)
          refine r_istore_n (l' := [.int c0, .int x6, .int x7, .int y3, .int z4, .int y5, .int y6]) dX5_ownDifference_51 rfl (Nat.le_of_ble_eq_true rfl) rfl rfl ?_
          refine r_iload_n dX5_ownDifference_52 rfl rfl ?_
          refine r_bipush bp_10 dX5_ownDifference_53 ?_
          refine r_imul dX5_ownDifference_55 ?_
          refine r_bndi (fun x8 => ?_)
          refine r_istore_n (l' := [.int c0, .int x6, .int x7, .int x8, .int z4, .int y5, .int y6]) dX5_ownDifference_56 rfl (Nat.le_of_ble_eq_true rfl) rfl rfl ?_
          exact hJ1 _ _ _
set_option maxHeartbeats 4000000 in
set_option maxRecDepth 100000 in
theorem vX5_ownDifference_L10 {g : G}   (z0 : Int32)  (M : Mem)   : ∀ (n : Nat) (y1 : Int32) (y2 : Int32) (y3 : Int32) (y4 : Int32), V g uX5_ownDifference 1 rvI (rmP M) 10 [.int z0, .int y1, .int y2, .int y3, .int y4, .null, .null] [] M (fX5_ownDifference_L10 z0 n y1 y2 y3 y4) := by
  intro n
  induction n with
  | zero => intro y1 y2 y3 y4; exact vNone
  | succ n ih =>
    intro y1 y2 y3 y4
    rw [fX5_ownDifference_L10]
    refine r_iload dX5_ownDifference_10 rfl ?_
    refine r_if_lt dX5_ownDifference_12 (fun h => eT h ?_) (fun h => eF h ?_)
    · refine r_iload_n dX5_ownDifference_76 rfl rfl ?_
      refine r_iload_n dX5_ownDifference_77 rfl rfl ?_
      refine r_isub dX5_ownDifference_78 ?_
      exact vRet rfl rfl rfl dX5_ownDifference_79
    · refine r_iload_n dX5_ownDifference_15 rfl rfl ?_
      refine r_istore (l' := [.int z0, .int y1, .int y2, .int y3, .int y4, .int z0, .null]) dX5_ownDifference_16 (Nat.le_of_ble_eq_true rfl) rfl rfl ?_
      refine r_iconst ic_0 dX5_ownDifference_18 ?_
      refine r_istore (l' := [.int z0, .int y1, .int y2, .int y3, .int y4, .int z0, .int 0]) dX5_ownDifference_19 (Nat.le_of_ble_eq_true rfl) rfl rfl ?_
      refine vX5_ownDifference_L21 _ _ _ _ (fun e9 e10 e11 => ?_) FU _ _ _ _ _
      · refine r_iinc (l' := [.int z0, .int e9, .int e10, .int e11, .int (y4 + (-1)), .null, .null]) dX5_ownDifference_70 rfl (inc_m1 _) (Nat.le_of_ble_eq_true rfl) rfl rfl ?_
        refine r_goto dX5_ownDifference_73 ?_
        exact ih _ _ _ _
set_option maxHeartbeats 4000000 in
set_option maxRecDepth 100000 in
theorem vX5_ownDifference {g : G}   (p0 : Int32) (M : Mem) : V g uX5_ownDifference 1 rvI (rmP M) 0 [.int p0, .null, .null, .null, .null, .null, .null] [] M (fX5_ownDifference p0) := by
  unfold fX5_ownDifference
  refine r_iconst ic_0 dX5_ownDifference_0 ?_
  refine r_istore_n (l' := [.int p0, .int 0, .null, .null, .null, .null, .null]) dX5_ownDifference_1 rfl (Nat.le_of_ble_eq_true rfl) rfl rfl ?_
  refine r_iconst ic_0 dX5_ownDifference_2 ?_
  refine r_istore_n (l' := [.int p0, .int 0, .int 0, .null, .null, .null, .null]) dX5_ownDifference_3 rfl (Nat.le_of_ble_eq_true rfl) rfl rfl ?_
  refine r_iconst ic_1 dX5_ownDifference_4 ?_
  refine r_istore_n (l' := [.int p0, .int 0, .int 0, .int 1, .null, .null, .null]) dX5_ownDifference_5 rfl (Nat.le_of_ble_eq_true rfl) rfl rfl ?_
  refine r_bipush bp_9 dX5_ownDifference_6 ?_
  refine r_istore (l' := [.int p0, .int 0, .int 0, .int 1, .int 9, .null, .null]) dX5_ownDifference_8 (Nat.le_of_ble_eq_true rfl) rfl rfl ?_
  refine vX5_ownDifference_L10 _ _ FU _ _ _ _
theorem kX5_ownDifference {g : G}   (p0 : Int32) (M : Mem) : CtrI g uX5_ownDifference 1 (fun r => r) (rmP M) [.int p0] M (fX5_ownDifference p0) := CtrI.of mX5_ownDifference rfl (Nat.le_of_ble_eq_true rfl) rfl (vX5_ownDifference p0 M)
set_option maxHeartbeats 4000000 in
set_option maxRecDepth 100000 in
theorem vX5_ownDifferences_L7 {g : G}  (K49 : Int32 → Option (Int32)) (K27 : Int32 → Int32 → Option (Int32))  (c1 : Int32) (M : Mem)  (hK49 : ∀ (e3 : Int32), V g uX5_ownDifferences 2 rvI (rmP M) 49 [.null, .int c1, .null, .int e3, .null] [] M (K49 e3)) (hK27 : ∀ (e3 : Int32) (e4 : Int32), V g uX5_ownDifferences 2 rvI (rmP M) 27 [.null, .int c1, .null, .int e3, .int e4] [] M (K27 e3 e4)) : ∀ (n : Nat) (y2 : Int32) (y3 : Int32) (y4 : Int32), V g uX5_ownDifferences 2 rvI (rmP M) 7 [.null, .int c1, .int y2, .int y3, .int y4] [] M (fX5_ownDifferences_L7 K49 K27 n y2 y3 y4) := by
  intro n
  induction n with
  | zero => intro y2 y3 y4; exact vNone
  | succ n ih =>
    intro y2 y3 y4
    rw [fX5_ownDifferences_L7]
    refine r_iload dX5_ownDifferences_7 rfl ?_
    refine r_bipush bp_20 dX5_ownDifferences_9 ?_
    refine r_icmp_gt dX5_ownDifferences_11 (fun h => eT h ?_) (fun h => eF h ?_)
    · exact vSub (l' := [.null, .int c1, .null, .int y3, .null]) ⟨Or.inl rfl, ⟨Or.inr rfl, ⟨Or.inl rfl, ⟨Or.inr rfl, ⟨Or.inl rfl, trivial⟩⟩⟩⟩⟩ (hK49 _)
    · refine r_iload_n dX5_ownDifferences_14 rfl rfl ?_
      refine r_iload_n dX5_ownDifferences_15 rfl rfl ?_
      refine r_max (by decide) (Nat.le_of_ble_eq_true rfl) ml_X5_37 jmax_1 j_math jmax_2 dX5_ownDifferences_16 ?_
      refine r_bndi (fun x1 => ?_)
      refine r_istore_n (l' := [.null, .int c1, .int y2, .int x1, .int y4]) dX5_ownDifferences_19 rfl (Nat.le_of_ble_eq_true rfl) rfl rfl ?_
      refine r_iload_n dX5_ownDifferences_20 rfl rfl ?_
      refine r_sipush sp_6174 dX5_ownDifferences_21 ?_
      refine r_icmp_ne dX5_ownDifferences_24 (fun h => eF h ?_) (fun h => eT h ?_)
      · refine r_iload_n dX5_ownDifferences_38 rfl rfl ?_
        refine r_calli (cl_S [.int y2] bX5_ownDifference (by decide) dX5_ownDifferences_39 ml_X5_43 rfl (Nat.le_of_ble_eq_true rfl) rfl) (kX5_ownDifference _ _) (fun v2 _ => ?_)
        refine r_istore_n (l' := [.null, .int c1, .int v2, .int x1, .int y4]) dX5_ownDifferences_42 rfl (Nat.le_of_ble_eq_true rfl) rfl rfl ?_
        refine r_iinc (l' := [.null, .int c1, .int v2, .int x1, .int (y4 + 1)]) dX5_ownDifferences_43 rfl (inc_1 _) (Nat.le_of_ble_eq_true rfl) rfl rfl ?_
        refine r_goto dX5_ownDifferences_46 ?_
        exact ih _ _ _
      · exact vSub (l' := [.null, .int c1, .null, .int x1, .int y4]) ⟨Or.inl rfl, ⟨Or.inr rfl, ⟨Or.inl rfl, ⟨Or.inr rfl, ⟨Or.inr rfl, trivial⟩⟩⟩⟩⟩ (hK27 _ _)
set_option maxHeartbeats 4000000 in
set_option maxRecDepth 100000 in
theorem vX5_ownDifferences {g : G}   (p0 : Int32) (p1 : Int32) (M : Mem) : V g uX5_ownDifferences 2 rvI (rmP M) 0 [.int p0, .int p1, .null, .null, .null] [] M (fX5_ownDifferences p0 p1) := by
  unfold fX5_ownDifferences
  refine r_iload_n dX5_ownDifferences_0 rfl rfl ?_
  refine r_istore_n (l' := [.int p0, .int p1, .int p0, .null, .null]) dX5_ownDifferences_1 rfl (Nat.le_of_ble_eq_true rfl) rfl rfl ?_
  refine r_iload_n dX5_ownDifferences_2 rfl rfl ?_
  refine r_istore_n (l' := [.int p0, .int p1, .int p0, .int p0, .null]) dX5_ownDifferences_3 rfl (Nat.le_of_ble_eq_true rfl) rfl rfl ?_
  refine r_iconst ic_0 dX5_ownDifferences_4 ?_
  refine r_istore (l' := [.int p0, .int p1, .int p0, .int p0, .int 0]) dX5_ownDifferences_5 (Nat.le_of_ble_eq_true rfl) rfl rfl ?_
  refine vSub (l' := [.null, .int p1, .int p0, .int p0, .int 0]) ⟨Or.inl rfl, ⟨Or.inr rfl, ⟨Or.inr rfl, ⟨Or.inr rfl, ⟨Or.inr rfl, trivial⟩⟩⟩⟩⟩ ?_
  refine vX5_ownDifferences_L7 _ _ _ _ (fun e3 => ?_) (fun e4 e5 => ?_) FU _ _ _
  · refine r_iload_n dX5_ownDifferences_49 rfl rfl ?_
    refine r_if_eq dX5_ownDifferences_50 (fun h => eT h ?_) (fun h => eF h ?_)
    · refine r_iload_n dX5_ownDifferences_57 rfl rfl ?_
      exact vRet rfl rfl rfl dX5_ownDifferences_58
    · refine r_iconst ic_m1 dX5_ownDifferences_53 ?_
      refine r_goto dX5_ownDifferences_54 ?_
      exact vRet rfl rfl rfl dX5_ownDifferences_58
  · refine r_iload_n dX5_ownDifferences_27 rfl rfl ?_
    refine r_if_eq dX5_ownDifferences_28 (fun h => eT h ?_) (fun h => eF h ?_)
    · refine r_iload_n dX5_ownDifferences_36 rfl rfl ?_
      exact vRet rfl rfl rfl dX5_ownDifferences_37
    · refine r_iload dX5_ownDifferences_31 rfl ?_
      refine r_goto dX5_ownDifferences_33 ?_
      exact vRet rfl rfl rfl dX5_ownDifferences_37
theorem kX5_ownDifferences {g : G}   (p0 : Int32) (p1 : Int32) (M : Mem) : CtrI g uX5_ownDifferences 2 (fun r => r) (rmP M) [.int p0, .int p1] M (fX5_ownDifferences p0 p1) := CtrI.of mX5_ownDifferences rfl (Nat.le_of_ble_eq_true rfl) rfl (vX5_ownDifferences p0 p1 M)
set_option maxHeartbeats 4000000 in
set_option maxRecDepth 100000 in
theorem vX11_own {g : G}   (p1 : Int32) (p2 : Int32) (M : Mem) : V g uX11_own 3 rvI (rmP M) 0 [.ref (ga g 0), .int p1, .int p2] [] M (fX11_own p1 p2) := by
  unfold fX11_own
  refine r_iload_n dX11_own_0 rfl rfl ?_
  refine r_iconst ic_0 dX11_own_1 ?_
  refine r_sipush sp_9999 dX11_own_2 ?_
  refine r_calliT (cl_S [.int p1, .int 0, .int 9999] bX11_isWithin (by decide) dX11_own_5 ml_X11_71 rfl (Nat.le_of_ble_eq_true rfl) rfl) (kX11_isWithin _ _ _ _) ?_
  refine r_if_eq dX11_own_8 (fun h => eT h ?_) (fun h => eF h ?_)
  · refine r_iconst ic_m1 dX11_own_20 ?_
    exact vRet rfl rfl rfl dX11_own_21
  · refine r_iload_n dX11_own_11 rfl rfl ?_
    refine r_iconst ic_0 dX11_own_12 ?_
    refine r_iconst ic_1 dX11_own_13 ?_
    refine r_calliT (cl_S [.int p2, .int 0, .int 1] bX11_isWithin (by decide) dX11_own_14 ml_X11_71 rfl (Nat.le_of_ble_eq_true rfl) rfl) (kX11_isWithin _ _ _ _) ?_
    refine r_if_ne dX11_own_17 (fun h => eF h ?_) (fun h => eT h ?_)
    · refine r_iload_n dX11_own_22 rfl rfl ?_
      refine r_iload_n dX11_own_23 rfl rfl ?_
      refine eJ (fun (J1 : (Int32) → Option (Int32)) => ∀ (t2 : Int32), V g uX11_own 3 rvI (rmP M) 32 [.null, .null, .null] [.int t2, .int p1] M (J1 t2)) (fun t2 => ?_) (fun J1 hJ1 => ?_)
      · refine r_calli (cl_S [.int p1, .int t2] bX5_ownDifferences (by decide) dX11_own_32 ml_X11_317 rfl (Nat.le_of_ble_eq_true rfl) rfl) (kX5_ownDifferences _ _ _) (fun v3 _ => ?_)
        exact vRet rfl rfl rfl dX11_own_35
      · refine r_if_ne dX11_own_24 (fun h => eF h ?_) (fun h => eT h ?_)
        · refine r_iconst ic_0 dX11_own_31 ?_
          exact vSub (l' := [.null, .null, .null]) ⟨Or.inl rfl, ⟨Or.inl rfl, ⟨Or.inl rfl, trivial⟩⟩⟩ (hJ1 _)
        · refine r_iconst ic_1 dX11_own_27 ?_
          refine r_goto dX11_own_28 ?_
          exact vSub (l' := [.null, .null, .null]) ⟨Or.inl rfl, ⟨Or.inl rfl, ⟨Or.inl rfl, trivial⟩⟩⟩ (hJ1 _)
    · refine r_iconst ic_m1 dX11_own_20 ?_
      exact vRet rfl rfl rfl dX11_own_21
theorem kX11_own {g : G}   (p1 : Int32) (p2 : Int32) (M : Mem) : CtrI g uX11_own 3 (fun r => r) (rmP M) [.ref (ga g 0), .int p1, .int p2] M (fX11_own p1 p2) := CtrI.of mX11_own rfl (Nat.le_of_ble_eq_true rfl) rfl (vX11_own p1 p2 M)
set_option maxHeartbeats 4000000 in
set_option maxRecDepth 100000 in
theorem vX12_ownOf_L2 {g : G}  (K21 : Mem → Option (Int32 × Mem))  (c1 : Int32)  (hK21 : ∀ (M : Mem), V g uX12_ownOf 1 rvW rmW 21 [.ref (ga g 198), .int c1, .null, .null, .null, .null, .null] [] M (K21 M)) : ∀ (n : Nat) (y2 : Int32) (M : Mem), V g uX12_ownOf 1 rvW rmW 2 [.ref (ga g 198), .int c1, .int y2, .null, .null, .null, .null] [] M (fX12_ownOf_L2 K21 n y2 M) := by
  intro n
  induction n with
  | zero => intro y2 M; exact vNone
  | succ n ih =>
    intro y2 M
    rw [fX12_ownOf_L2]
    refine r_iload_n dX12_ownOf_2 rfl rfl ?_
    refine r_bipush bp_10 dX12_ownOf_3 ?_
    refine r_icmp_ge dX12_ownOf_5 (fun h => eT h ?_) (fun h => eF h ?_)
    · exact vSub (l' := [.ref (ga g 198), .int c1, .null, .null, .null, .null, .null]) ⟨Or.inr rfl, ⟨Or.inr rfl, ⟨Or.inl rfl, ⟨Or.inl rfl, ⟨Or.inl rfl, ⟨Or.inl rfl, ⟨Or.inl rfl, trivial⟩⟩⟩⟩⟩⟩⟩ (hK21 _)
    · refine r_aload_n dX12_ownOf_8 rfl rfl ?_
      refine r_getR (k' := 229) dX12_ownOf_9 fl_X12_104 kdc_198 rfl ?_
      refine r_iload_n dX12_ownOf_12 rfl rfl ?_
      refine r_iconst ic_0 dX12_ownOf_13 ?_
      refine r_iast dX12_ownOf_14 kdc_229 (fun M1 => ?_)
      refine r_iinc (l' := [.ref (ga g 198), .int c1, .int (y2 + 1), .null, .null, .null, .null]) dX12_ownOf_15 rfl (inc_1 _) (Nat.le_of_ble_eq_true rfl) rfl rfl ?_
      refine r_goto dX12_ownOf_18 ?_
      exact ih _ _
set_option maxHeartbeats 4000000 in
set_option maxRecDepth 100000 in
theorem vX12_ownOf_L25 {g : G}  (K61 : Mem → Option (Int32 × Mem))    (hK61 : ∀ (M : Mem), V g uX12_ownOf 1 rvW rmW 61 [.ref (ga g 198), .null, .null, .null, .null, .null, .null] [] M (K61 M)) : ∀ (n : Nat) (y2 : Int32) (y3 : Int32) (M : Mem), V g uX12_ownOf 1 rvW rmW 25 [.ref (ga g 198), .null, .int y2, .int y3, .null, .null, .null] [] M (fX12_ownOf_L25 K61 n y2 y3 M) := by
  intro n
  induction n with
  | zero => intro y2 y3 M; exact vNone
  | succ n ih =>
    intro y2 y3 M
    rw [fX12_ownOf_L25]
    refine r_iload_n dX12_ownOf_25 rfl rfl ?_
    refine r_iconst ic_4 dX12_ownOf_26 ?_
    refine r_icmp_ge dX12_ownOf_27 (fun h => eT h ?_) (fun h => eF h ?_)
    · exact vSub (l' := [.ref (ga g 198), .null, .null, .null, .null, .null, .null]) ⟨Or.inr rfl, ⟨Or.inl rfl, ⟨Or.inl rfl, ⟨Or.inl rfl, ⟨Or.inl rfl, ⟨Or.inl rfl, ⟨Or.inl rfl, trivial⟩⟩⟩⟩⟩⟩⟩ (hK61 _)
    · refine r_aload_n dX12_ownOf_30 rfl rfl ?_
      refine r_getR (k' := 229) dX12_ownOf_31 fl_X12_104 kdc_198 rfl ?_
      refine r_iload_n dX12_ownOf_34 rfl rfl ?_
      refine r_bipush bp_10 dX12_ownOf_35 ?_
      refine r_irem dX12_ownOf_37 (by decide) ?_
      refine r_aload_n dX12_ownOf_38 rfl rfl ?_
      refine r_getR (k' := 229) dX12_ownOf_39 fl_X12_104 kdc_198 rfl ?_
      refine r_iload_n dX12_ownOf_42 rfl rfl ?_
      refine r_bipush bp_10 dX12_ownOf_43 ?_
      refine r_irem dX12_ownOf_45 (by decide) ?_
      refine r_iald dX12_ownOf_46 kdc_229 (fun v3 => ?_)
      refine r_iconst ic_1 dX12_ownOf_47 ?_
      refine r_iadd dX12_ownOf_48 ?_
      refine r_iast dX12_ownOf_49 kdc_229 (fun M4 => ?_)
      refine r_iload_n dX12_ownOf_50 rfl rfl ?_
      refine r_bipush bp_10 dX12_ownOf_51 ?_
      refine r_idiv dX12_ownOf_53 (by decide) ?_
      refine r_bndi (fun x5 => ?_)
      refine r_istore_n (l' := [.ref (ga g 198), .null, .int x5, .int y3, .null, .null, .null]) dX12_ownOf_54 rfl (Nat.le_of_ble_eq_true rfl) rfl rfl ?_
      refine r_iinc (l' := [.ref (ga g 198), .null, .int x5, .int (y3 + 1), .null, .null, .null]) dX12_ownOf_55 rfl (inc_1 _) (Nat.le_of_ble_eq_true rfl) rfl rfl ?_
      refine r_goto dX12_ownOf_58 ?_
      exact ih _ _ _
set_option maxHeartbeats 4000000 in
set_option maxRecDepth 100000 in
theorem vX12_ownOf_L79 {g : G}  (K105 : Int32 → Option (Int32 × Mem)) (z5 : Int32) (c4 : Int32) (M : Mem)  (hK105 : ∀ (e3 : Int32), V g uX12_ownOf 1 rvW rmW 105 [.ref (ga g 198), .null, .null, .int e3, .int c4, .int z5, .null] [] M (K105 e3)) : ∀ (n : Nat) (y3 : Int32) (y6 : Int32), V g uX12_ownOf 1 rvW rmW 79 [.ref (ga g 198), .null, .null, .int y3, .int c4, .int z5, .int y6] [] M (fX12_ownOf_L79 K105 z5 M n y3 y6) := by
  intro n
  induction n with
  | zero => intro y3 y6; exact vNone
  | succ n ih =>
    intro y3 y6
    rw [fX12_ownOf_L79]
    refine r_iload dX12_ownOf_79 rfl ?_
    refine r_aload_n dX12_ownOf_81 rfl rfl ?_
    refine r_getR (k' := 229) dX12_ownOf_82 fl_X12_104 kdc_198 rfl ?_
    refine r_iload dX12_ownOf_85 rfl ?_
    refine r_iald dX12_ownOf_87 kdc_229 (fun v7 => ?_)
    refine r_icmp_ge dX12_ownOf_88 (fun h => eT h ?_) (fun h => eF h ?_)
    · exact vSub (l' := [.ref (ga g 198), .null, .null, .int y3, .int c4, .int z5, .null]) ⟨Or.inr rfl, ⟨Or.inl rfl, ⟨Or.inl rfl, ⟨Or.inr rfl, ⟨Or.inr rfl, ⟨Or.inr rfl, ⟨Or.inl rfl, trivial⟩⟩⟩⟩⟩⟩⟩ (hK105 _)
    · refine r_bipush bp_10 dX12_ownOf_91 ?_
      refine r_iload_n dX12_ownOf_93 rfl rfl ?_
      refine r_imul dX12_ownOf_94 ?_
      refine r_iload dX12_ownOf_95 rfl ?_
      refine r_iadd dX12_ownOf_97 ?_
      refine r_bndi (fun x8 => ?_)
      refine r_istore_n (l' := [.ref (ga g 198), .null, .null, .int x8, .int c4, .int z5, .int y6]) dX12_ownOf_98 rfl (Nat.le_of_ble_eq_true rfl) rfl rfl ?_
      refine r_iinc (l' := [.ref (ga g 198), .null, .null, .int x8, .int c4, .int z5, .int (y6 + 1)]) dX12_ownOf_99 rfl (inc_1 _) (Nat.le_of_ble_eq_true rfl) rfl rfl ?_
      refine r_goto dX12_ownOf_102 ?_
      exact ih _ _
set_option maxHeartbeats 4000000 in
set_option maxRecDepth 100000 in
theorem vX12_ownOf_L108 {g : G}  (K142 : Int32 → Option (Int32 × Mem)) (z5 : Int32) (c3 : Int32) (M : Mem)  (hK142 : ∀ (e4 : Int32), V g uX12_ownOf 1 rvW rmW 142 [.ref (ga g 198), .null, .null, .int c3, .int e4, .int z5, .null] [] M (K142 e4)) : ∀ (n : Nat) (y4 : Int32) (y6 : Int32), V g uX12_ownOf 1 rvW rmW 108 [.ref (ga g 198), .null, .null, .int c3, .int y4, .int z5, .int y6] [] M (fX12_ownOf_L108 K142 z5 M n y4 y6) := by
  intro n
  induction n with
  | zero => intro y4 y6; exact vNone
  | succ n ih =>
    intro y4 y6
    rw [fX12_ownOf_L108]
    refine r_iload dX12_ownOf_108 rfl ?_
    refine r_aload_n dX12_ownOf_110 rfl rfl ?_
    refine r_getR (k' := 229) dX12_ownOf_111 fl_X12_104 kdc_198 rfl ?_
    refine r_bipush bp_9 dX12_ownOf_114 ?_
    refine r_iload dX12_ownOf_116 rfl ?_
    refine r_isub dX12_ownOf_118 ?_
    refine r_iald dX12_ownOf_119 kdc_229 (fun v10 => ?_)
    refine r_icmp_ge dX12_ownOf_120 (fun h => eT h ?_) (fun h => eF h ?_)
    · exact vSub (l' := [.ref (ga g 198), .null, .null, .int c3, .int y4, .int z5, .null]) ⟨Or.inr rfl, ⟨Or.inl rfl, ⟨Or.inl rfl, ⟨Or.inr rfl, ⟨Or.inr rfl, ⟨Or.inr rfl, ⟨Or.inl rfl, trivial⟩⟩⟩⟩⟩⟩⟩ (hK142 _)
    · refine r_bipush bp_10 dX12_ownOf_123 ?_
      refine r_iload dX12_ownOf_125 rfl ?_
      refine r_imul dX12_ownOf_127 ?_
      refine r_bipush bp_9 dX12_ownOf_128 ?_
      refine r_iadd dX12_ownOf_130 ?_
      refine r_iload dX12_ownOf_131 rfl ?_
      refine r_isub dX12_ownOf_133 ?_
      refine r_bndi (fun x11 => ?_)
      refine r_istore (l' := [.ref (ga g 198), .null, .null, .int c3, .int x11, .int z5, .int y6]) dX12_ownOf_134 (Nat.le_of_ble_eq_true rfl) rfl rfl ?_
      refine r_iinc (l' := [.ref (ga g 198), .null, .null, .int c3, .int x11, .int z5, .int (y6 + 1)]) dX12_ownOf_136 rfl (inc_1 _) (Nat.le_of_ble_eq_true rfl) rfl rfl ?_
      refine r_goto dX12_ownOf_139 ?_
      exact ih _ _
set_option maxHeartbeats 4000000 in
set_option maxRecDepth 100000 in
theorem vX12_ownOf_L69 {g : G}     (M : Mem)   : ∀ (n : Nat) (y3 : Int32) (y4 : Int32) (y5 : Int32), V g uX12_ownOf 1 rvW rmW 69 [.ref (ga g 198), .null, .null, .int y3, .int y4, .int y5, .null] [] M (fX12_ownOf_L69 M n y3 y4 y5) := by
  intro n
  induction n with
  | zero => intro y3 y4 y5; exact vNone
  | succ n ih =>
    intro y3 y4 y5
    rw [fX12_ownOf_L69]
    refine r_iload dX12_ownOf_69 rfl ?_
    refine r_bipush bp_10 dX12_ownOf_71 ?_
    refine r_icmp_ge dX12_ownOf_73 (fun h => eT h ?_) (fun h => eF h ?_)
    · refine r_iload dX12_ownOf_148 rfl ?_
      refine r_iload_n dX12_ownOf_150 rfl rfl ?_
      refine r_isub dX12_ownOf_151 ?_
      exact vRet rfl rfl rfl dX12_ownOf_152
    · refine r_iconst ic_0 dX12_ownOf_76 ?_
      refine r_istore (l' := [.ref (ga g 198), .null, .null, .int y3, .int y4, .int y5, .int 0]) dX12_ownOf_77 (Nat.le_of_ble_eq_true rfl) rfl rfl ?_
      refine vX12_ownOf_L79 _ _ _ _ (fun e9 => ?_) FU _ _
      · refine r_iconst ic_0 dX12_ownOf_105 ?_
        refine r_istore (l' := [.ref (ga g 198), .null, .null, .int e9, .int y4, .int y5, .int 0]) dX12_ownOf_106 (Nat.le_of_ble_eq_true rfl) rfl rfl ?_
        refine vX12_ownOf_L108 _ _ _ _ (fun e12 => ?_) FU _ _
        · refine r_iinc (l' := [.ref (ga g 198), .null, .null, .int e9, .int e12, .int (y5 + 1), .null]) dX12_ownOf_142 rfl (inc_1 _) (Nat.le_of_ble_eq_true rfl) rfl rfl ?_
          refine r_goto dX12_ownOf_145 ?_
          exact ih _ _ _
set_option maxHeartbeats 4000000 in
set_option maxRecDepth 100000 in
theorem vX12_ownOf {g : G}   (p1 : Int32) (M : Mem) : V g uX12_ownOf 1 rvW rmW 0 [.ref (ga g 198), .int p1, .null, .null, .null, .null, .null] [] M (fX12_ownOf p1 M) := by
  unfold fX12_ownOf
  refine r_iconst ic_0 dX12_ownOf_0 ?_
  refine r_istore_n (l' := [.ref (ga g 198), .int p1, .int 0, .null, .null, .null, .null]) dX12_ownOf_1 rfl (Nat.le_of_ble_eq_true rfl) rfl rfl ?_
  refine vX12_ownOf_L2 _ _ (fun M2 => ?_) FU _ _
  · refine r_iload_n dX12_ownOf_21 rfl rfl ?_
    refine r_istore_n (l' := [.ref (ga g 198), .int p1, .int p1, .null, .null, .null, .null]) dX12_ownOf_22 rfl (Nat.le_of_ble_eq_true rfl) rfl rfl ?_
    refine r_iconst ic_0 dX12_ownOf_23 ?_
    refine r_istore_n (l' := [.ref (ga g 198), .int p1, .int p1, .int 0, .null, .null, .null]) dX12_ownOf_24 rfl (Nat.le_of_ble_eq_true rfl) rfl rfl ?_
    refine vSub (l' := [.ref (ga g 198), .null, .int p1, .int 0, .null, .null, .null]) ⟨Or.inr rfl, ⟨Or.inl rfl, ⟨Or.inr rfl, ⟨Or.inr rfl, ⟨Or.inl rfl, ⟨Or.inl rfl, ⟨Or.inl rfl, trivial⟩⟩⟩⟩⟩⟩⟩ ?_
    refine vX12_ownOf_L25 _ (fun M6 => ?_) FU _ _ _
    · refine r_iconst ic_0 dX12_ownOf_61 ?_
      refine r_istore_n (l' := [.ref (ga g 198), .null, .null, .int 0, .null, .null, .null]) dX12_ownOf_62 rfl (Nat.le_of_ble_eq_true rfl) rfl rfl ?_
      refine r_iconst ic_0 dX12_ownOf_63 ?_
      refine r_istore (l' := [.ref (ga g 198), .null, .null, .int 0, .int 0, .null, .null]) dX12_ownOf_64 (Nat.le_of_ble_eq_true rfl) rfl rfl ?_
      refine r_iconst ic_0 dX12_ownOf_66 ?_
      refine r_istore (l' := [.ref (ga g 198), .null, .null, .int 0, .int 0, .int 0, .null]) dX12_ownOf_67 (Nat.le_of_ble_eq_true rfl) rfl rfl ?_
      refine vX12_ownOf_L69 _ FU _ _ _
theorem kX12_ownOf {g : G}   (p1 : Int32) (M : Mem) : CtrI g uX12_ownOf 1 (fun r => r.1) rmW [.ref (ga g 198), .int p1] M (fX12_ownOf p1 M) := CtrI.of mX12_ownOf rfl (Nat.le_of_ble_eq_true rfl) rfl (vX12_ownOf p1 M)
set_option maxHeartbeats 4000000 in
set_option maxRecDepth 100000 in
theorem vX12_own_L37 {g : G}  (K72 : Int32 → Int32 → Int32 → Mem → Option (Int32 × Mem))  (c2 : Int32)  (hK72 : ∀ (e3 : Int32) (e4 : Int32) (e5 : Int32) (M : Mem), V g uX12_own 2 rvW rmW 72 [.null, .null, .int c2, .int e3, .int e4, .int e5] [] M (K72 e3 e4 e5 M)) : ∀ (n : Nat) (y3 : Int32) (y4 : Int32) (y5 : Int32) (M : Mem), V g uX12_own 2 rvW rmW 37 [.ref (ga g 198), .null, .int c2, .int y3, .int y4, .int y5] [] M (fX12_own_L37 K72 n y3 y4 y5 M) := by
  intro n
  induction n with
  | zero => intro y3 y4 y5 M; exact vNone
  | succ n ih =>
    intro y3 y4 y5 M
    rw [fX12_own_L37]
    refine r_iload_n dX12_own_37 rfl rfl ?_
    refine r_sipush sp_6174 dX12_own_38 ?_
    refine r_icmp_eq dX12_own_41 (fun h => eT h ?_) (fun h => eF h ?_)
    · exact vSub (l' := [.null, .null, .int c2, .int y3, .int y4, .int y5]) ⟨Or.inl rfl, ⟨Or.inl rfl, ⟨Or.inr rfl, ⟨Or.inr rfl, ⟨Or.inr rfl, ⟨Or.inr rfl, trivial⟩⟩⟩⟩⟩⟩ (hK72 _ _ _ _)
    · refine r_iload_n dX12_own_44 rfl rfl ?_
      refine r_if_eq dX12_own_45 (fun h => eT h ?_) (fun h => eF h ?_)
      · exact vSub (l' := [.null, .null, .int c2, .int y3, .int y4, .int y5]) ⟨Or.inl rfl, ⟨Or.inl rfl, ⟨Or.inr rfl, ⟨Or.inr rfl, ⟨Or.inr rfl, ⟨Or.inr rfl, trivial⟩⟩⟩⟩⟩⟩ (hK72 _ _ _ _)
      · refine r_aload_n dX12_own_48 rfl rfl ?_
        refine r_iload_n dX12_own_49 rfl rfl ?_
        refine r_calli (cl_V [.int y3] bX12_ownOf (by decide) dX12_own_50 ml_X12_416 kdc_198 rfl (Nat.le_of_ble_eq_true rfl) rfl) (kX12_ownOf _ _) (fun r2 _ => ?_)
        refine r_istore_n (l' := [.ref (ga g 198), .null, .int c2, .int r2.1, .int y4, .int y5]) dX12_own_53 rfl (Nat.le_of_ble_eq_true rfl) rfl rfl ?_
        refine r_aload_n dX12_own_54 rfl rfl ?_
        refine r_iload dX12_own_55 rfl ?_
        refine r_iload_n dX12_own_57 rfl rfl ?_
        refine r_calliT (cl_V [.int y4, .int r2.1] bX12_greater (by decide) dX12_own_58 ml_X12_373 kdc_198 rfl (Nat.le_of_ble_eq_true rfl) rfl) (kX12_greater _ _ _) ?_
        refine r_bndi (fun x3 => ?_)
        refine r_istore (l' := [.ref (ga g 198), .null, .int c2, .int r2.1, .int x3, .int y5]) dX12_own_61 (Nat.le_of_ble_eq_true rfl) rfl rfl ?_
        refine r_iload dX12_own_63 rfl ?_
        refine r_iconst ic_1 dX12_own_65 ?_
        refine r_iadd dX12_own_66 ?_
        refine r_bndi (fun x4 => ?_)
        refine r_istore (l' := [.ref (ga g 198), .null, .int c2, .int r2.1, .int x3, .int x4]) dX12_own_67 (Nat.le_of_ble_eq_true rfl) rfl rfl ?_
        refine r_goto dX12_own_69 ?_
        exact ih _ _ _ _
set_option maxHeartbeats 4000000 in
set_option maxRecDepth 100000 in
theorem vX12_own {g : G}   (p1 : Int32) (p2 : Int32) (M : Mem) : V g uX12_own 2 rvW rmW 0 [.ref (ga g 198), .int p1, .int p2, .null, .null, .null] [] M (fX12_own p1 p2 M) := by
  unfold fX12_own
  refine r_aload_n dX12_own_0 rfl rfl ?_
  refine r_iconst ic_0 dX12_own_1 ?_
  refine r_put dX12_own_2 fw_X12_122 kdc_198 (fun M1 => ?_)
  refine r_aload_n dX12_own_5 rfl rfl ?_
  refine r_iload_n dX12_own_6 rfl rfl ?_
  refine r_iconst ic_0 dX12_own_7 ?_
  refine r_sipush sp_9999 dX12_own_8 ?_
  refine r_calliT (cl_V [.int p1, .int 0, .int 9999] bX12_isIn (by decide) dX12_own_11 ml_X12_140 kdc_198 rfl (Nat.le_of_ble_eq_true rfl) rfl) (kX12_isIn _ _ _ _) ?_
  refine r_if_eq dX12_own_14 (fun h => eT h ?_) (fun h => eF h ?_)
  · refine r_iconst ic_m1 dX12_own_27 ?_
    exact vRet rfl rfl rfl dX12_own_28
  · refine r_aload_n dX12_own_17 rfl rfl ?_
    refine r_iload_n dX12_own_18 rfl rfl ?_
    refine r_iconst ic_0 dX12_own_19 ?_
    refine r_iconst ic_1 dX12_own_20 ?_
    refine r_calliT (cl_V [.int p2, .int 0, .int 1] bX12_isIn (by decide) dX12_own_21 ml_X12_140 kdc_198 rfl (Nat.le_of_ble_eq_true rfl) rfl) (kX12_isIn _ _ _ _) ?_
    refine r_if_ne dX12_own_24 (fun h => eF h ?_) (fun h => eT h ?_)
    · refine r_iload_n dX12_own_29 rfl rfl ?_
      refine r_istore_n (l' := [.ref (ga g 198), .int p1, .int p2, .int p1, .null, .null]) dX12_own_30 rfl (Nat.le_of_ble_eq_true rfl) rfl rfl ?_
      refine r_iload_n dX12_own_31 rfl rfl ?_
      refine r_istore (l' := [.ref (ga g 198), .int p1, .int p2, .int p1, .int p1, .null]) dX12_own_32 (Nat.le_of_ble_eq_true rfl) rfl rfl ?_
      refine r_iconst ic_0 dX12_own_34 ?_
      refine r_istore (l' := [.ref (ga g 198), .int p1, .int p2, .int p1, .int p1, .int 0]) dX12_own_35 (Nat.le_of_ble_eq_true rfl) rfl rfl ?_
      refine vSub (l' := [.ref (ga g 198), .null, .int p2, .int p1, .int p1, .int 0]) ⟨Or.inr rfl, ⟨Or.inl rfl, ⟨Or.inr rfl, ⟨Or.inr rfl, ⟨Or.inr rfl, ⟨Or.inr rfl, trivial⟩⟩⟩⟩⟩⟩ ?_
      refine vX12_own_L37 _ _ (fun e5 e6 e7 M8 => ?_) FU _ _ _ _
      · refine r_iload_n dX12_own_72 rfl rfl ?_
        refine r_iconst ic_1 dX12_own_73 ?_
        refine r_icmp_ne dX12_own_74 (fun h => eF h ?_) (fun h => eT h ?_)
        · refine r_iload_n dX12_own_82 rfl rfl ?_
          refine r_if_ne dX12_own_83 (fun h => eF h ?_) (fun h => eT h ?_)
          · refine r_iload dX12_own_90 rfl ?_
            exact vRet rfl rfl rfl dX12_own_92
          · refine r_iconst ic_m1 dX12_own_86 ?_
            refine r_goto dX12_own_87 ?_
            exact vRet rfl rfl rfl dX12_own_92
        · refine r_iload dX12_own_77 rfl ?_
          refine r_goto dX12_own_79 ?_
          exact vRet rfl rfl rfl dX12_own_92
    · refine r_iconst ic_m1 dX12_own_27 ?_
      exact vRet rfl rfl rfl dX12_own_28
theorem kX12_own {g : G}   (p1 : Int32) (p2 : Int32) (M : Mem) : CtrI g uX12_own 2 (fun r => r.1) rmW [.ref (ga g 198), .int p1, .int p2] M (fX12_own p1 p2 M) := CtrI.of mX12_own rfl (Nat.le_of_ble_eq_true rfl) rfl (vX12_own p1 p2 M)
set_option maxHeartbeats 4000000 in
set_option maxRecDepth 100000 in
theorem vX5_shifted_L6 {g : G}   (z0 : Int32) (z1 : Int32) (z3 : Int32)  (M : Mem)   : ∀ (n : Nat) (y4 : Int32) (y5 : Int32), V g uX5_shifted 2 rvI (rmP M) 6 [.int z0, .int z1, .null, .int z3, .int y4, .int y5, .null] [] M (fX5_shifted_L6 z0 z1 z3 n y4 y5) := by
  intro n
  induction n with
  | zero => intro y4 y5; exact vNone
  | succ n ih =>
    intro y4 y5
    rw [fX5_shifted_L6]
    refine r_iload dX5_shifted_6 rfl ?_
    refine r_iload_n dX5_shifted_8 rfl rfl ?_
    refine r_icmp_ge dX5_shifted_9 (fun h => eT h ?_) (fun h => eF h ?_)
    · refine r_iload dX5_shifted_42 rfl ?_
      exact vRet rfl rfl rfl dX5_shifted_44
    · refine r_iload dX5_shifted_12 rfl ?_
      refine r_iload_n dX5_shifted_14 rfl rfl ?_
      refine r_iand dX5_shifted_15 ?_
      refine r_calliT (cl_S [.int (y4 &&& z1)] bJ6_bitCount_0f7a4 (by decide) dX5_shifted_16 ml_X5_46 rfl (Nat.le_of_ble_eq_true rfl) rfl) (kJ6_bitCount_0f7a4 _ _) ?_
      refine r_iconst ic_1 dX5_shifted_19 ?_
      refine r_iand dX5_shifted_20 ?_
      refine r_bndi (fun x1 => ?_)
      refine r_istore (l' := [.int z0, .int z1, .null, .int z3, .int y4, .int y5, .int x1]) dX5_shifted_21 (Nat.le_of_ble_eq_true rfl) rfl rfl ?_
      refine r_iload dX5_shifted_23 rfl ?_
      refine r_iconst ic_1 dX5_shifted_25 ?_
      refine r_ishr dX5_shifted_26 ?_
      refine r_iload dX5_shifted_27 rfl ?_
      refine r_iload_n dX5_shifted_29 rfl rfl ?_
      refine r_iconst ic_1 dX5_shifted_30 ?_
      refine r_isub dX5_shifted_31 ?_
      refine r_ishl dX5_shifted_32 ?_
      refine r_ior dX5_shifted_33 ?_
      refine r_bndi (fun x2 => ?_)
      refine r_istore (l' := [.int z0, .int z1, .null, .int z3, .int x2, .int y5, .int x1]) dX5_shifted_34 (Nat.le_of_ble_eq_true rfl) rfl rfl ?_
      refine r_iinc (l' := [.int z0, .int z1, .null, .int z3, .int x2, .int (y5 + 1), .int x1]) dX5_shifted_36 rfl (inc_1 _) (Nat.le_of_ble_eq_true rfl) rfl rfl ?_
      refine r_goto dX5_shifted_39 ?_
      exact vSub (l' := [.int z0, .int z1, .null, .int z3, .int x2, .int (y5 + 1), .null]) ⟨Or.inr rfl, ⟨Or.inr rfl, ⟨Or.inl rfl, ⟨Or.inr rfl, ⟨Or.inr rfl, ⟨Or.inr rfl, ⟨Or.inl rfl, trivial⟩⟩⟩⟩⟩⟩⟩ (ih _ _)
set_option maxHeartbeats 4000000 in
set_option maxRecDepth 100000 in
theorem vX5_shifted {g : G}   (p0 : Int32) (p1 : Int32) (p2 : Int32) (p3 : Int32) (M : Mem) : V g uX5_shifted 2 rvI (rmP M) 0 [.int p0, .int p1, .int p2, .int p3, .null, .null, .null] [] M (fX5_shifted p0 p1 p2 p3) := by
  unfold fX5_shifted
  refine r_iload_n dX5_shifted_0 rfl rfl ?_
  refine r_istore (l' := [.int p0, .int p1, .int p2, .int p3, .int p2, .null, .null]) dX5_shifted_1 (Nat.le_of_ble_eq_true rfl) rfl rfl ?_
  refine r_iconst ic_0 dX5_shifted_3 ?_
  refine r_istore (l' := [.int p0, .int p1, .int p2, .int p3, .int p2, .int 0, .null]) dX5_shifted_4 (Nat.le_of_ble_eq_true rfl) rfl rfl ?_
  refine vSub (l' := [.int p0, .int p1, .null, .int p3, .int p2, .int 0, .null]) ⟨Or.inr rfl, ⟨Or.inr rfl, ⟨Or.inl rfl, ⟨Or.inr rfl, ⟨Or.inr rfl, ⟨Or.inr rfl, ⟨Or.inl rfl, trivial⟩⟩⟩⟩⟩⟩⟩ ?_
  refine vX5_shifted_L6 _ _ _ _ FU _ _
theorem kX5_shifted {g : G}   (p0 : Int32) (p1 : Int32) (p2 : Int32) (p3 : Int32) (M : Mem) : CtrI g uX5_shifted 2 (fun r => r) (rmP M) [.int p0, .int p1, .int p2, .int p3] M (fX5_shifted p0 p1 p2 p3) := CtrI.of mX5_shifted rfl (Nat.le_of_ble_eq_true rfl) rfl (vX5_shifted p0 p1 p2 p3 M)
set_option maxHeartbeats 4000000 in
set_option maxRecDepth 100000 in
theorem vX5_timesRound_L5 {g : G}   (z0 : Int32) (z1 : Int32) (z2 : Int32)  (M : Mem)   : ∀ (n : Nat) (y3 : Int32) (y4 : Int32), V g uX5_timesRound 3 rvI (rmP M) 5 [.int z0, .int z1, .int z2, .int y3, .int y4] [] M (fX5_timesRound_L5 z0 z1 z2 n y3 y4) := by
  intro n
  induction n with
  | zero => intro y3 y4; exact vNone
  | succ n ih =>
    intro y3 y4
    rw [fX5_timesRound_L5]
    refine r_iload dX5_timesRound_5 rfl ?_
    refine r_iconst ic_1 dX5_timesRound_7 ?_
    refine r_iload_n dX5_timesRound_8 rfl rfl ?_
    refine r_ishl dX5_timesRound_9 ?_
    refine r_icmp_gt dX5_timesRound_10 (fun h => eT h ?_) (fun h => eF h ?_)
    · refine r_iconst ic_m1 dX5_timesRound_35 ?_
      exact vRet rfl rfl rfl dX5_timesRound_36
    · refine r_iload_n dX5_timesRound_13 rfl rfl ?_
      refine r_iload_n dX5_timesRound_14 rfl rfl ?_
      refine r_iload_n dX5_timesRound_15 rfl rfl ?_
      refine r_iconst ic_1 dX5_timesRound_16 ?_
      refine r_calli (cl_S [.int z0, .int z1, .int y3, .int 1] bX5_shifted (by decide) dX5_timesRound_17 ml_X5_50 rfl (Nat.le_of_ble_eq_true rfl) rfl) (kX5_shifted _ _ _ _ _) (fun v1 _ => ?_)
      refine r_istore_n (l' := [.int z0, .int z1, .int z2, .int v1, .int y4]) dX5_timesRound_20 rfl (Nat.le_of_ble_eq_true rfl) rfl rfl ?_
      refine r_iload_n dX5_timesRound_21 rfl rfl ?_
      refine r_iload_n dX5_timesRound_22 rfl rfl ?_
      refine r_icmp_ne dX5_timesRound_23 (fun h => eF h ?_) (fun h => eT h ?_)
      · refine r_iinc (l' := [.int z0, .int z1, .int z2, .int v1, .int (y4 + 1)]) dX5_timesRound_29 rfl (inc_1 _) (Nat.le_of_ble_eq_true rfl) rfl rfl ?_
        refine r_goto dX5_timesRound_32 ?_
        exact ih _ _
      · refine r_iload dX5_timesRound_26 rfl ?_
        exact vRet rfl rfl rfl dX5_timesRound_28
set_option maxHeartbeats 4000000 in
set_option maxRecDepth 100000 in
theorem vX5_timesRound {g : G}   (p0 : Int32) (p1 : Int32) (p2 : Int32) (M : Mem) : V g uX5_timesRound 3 rvI (rmP M) 0 [.int p0, .int p1, .int p2, .null, .null] [] M (fX5_timesRound p0 p1 p2) := by
  unfold fX5_timesRound
  refine r_iload_n dX5_timesRound_0 rfl rfl ?_
  refine r_istore_n (l' := [.int p0, .int p1, .int p2, .int p2, .null]) dX5_timesRound_1 rfl (Nat.le_of_ble_eq_true rfl) rfl rfl ?_
  refine r_iconst ic_1 dX5_timesRound_2 ?_
  refine r_istore (l' := [.int p0, .int p1, .int p2, .int p2, .int 1]) dX5_timesRound_3 (Nat.le_of_ble_eq_true rfl) rfl rfl ?_
  refine vX5_timesRound_L5 _ _ _ _ FU _ _
theorem kX5_timesRound {g : G}   (p0 : Int32) (p1 : Int32) (p2 : Int32) (M : Mem) : CtrI g uX5_timesRound 3 (fun r => r) (rmP M) [.int p0, .int p1, .int p2] M (fX5_timesRound p0 p1 p2) := CtrI.of mX5_timesRound rfl (Nat.le_of_ble_eq_true rfl) rfl (vX5_timesRound p0 p1 p2 M)
set_option maxHeartbeats 4000000 in
set_option maxRecDepth 100000 in
theorem vX11_round {g : G}   (p1 : Int32) (p2 : Int32) (p3 : Int32) (p4 : Int32) (M : Mem) : V g uX11_round 4 rvI (rmP M) 0 [.ref (ga g 0), .int p1, .int p2, .int p3, .int p4, .null] [] M (fX11_round p1 p2 p3 p4) := by
  unfold fX11_round
  refine r_iload_n dX11_round_0 rfl rfl ?_
  refine r_iconst ic_2 dX11_round_1 ?_
  refine r_bipush bp_8 dX11_round_2 ?_
  refine r_calliT (cl_S [.int p1, .int 2, .int 8] bX11_isWithin (by decide) dX11_round_4 ml_X11_71 rfl (Nat.le_of_ble_eq_true rfl) rfl) (kX11_isWithin _ _ _ _) ?_
  refine r_if_eq dX11_round_7 (fun h => eT h ?_) (fun h => eF h ?_)
  · refine r_iconst ic_m1 dX11_round_22 ?_
    exact vRet rfl rfl rfl dX11_round_23
  · refine r_iload dX11_round_10 rfl ?_
    refine r_iconst ic_m1 dX11_round_12 ?_
    refine r_sipush sp_1000 dX11_round_13 ?_
    refine r_calliT (cl_S [.int p4, .int (-1), .int 1000] bX11_isWithin (by decide) dX11_round_16 ml_X11_71 rfl (Nat.le_of_ble_eq_true rfl) rfl) (kX11_isWithin _ _ _ _) ?_
    refine r_if_ne dX11_round_19 (fun h => eF h ?_) (fun h => eT h ?_)
    · refine r_iconst ic_1 dX11_round_24 ?_
      refine r_iload_n dX11_round_25 rfl rfl ?_
      refine r_ishl dX11_round_26 ?_
      refine r_iconst ic_1 dX11_round_27 ?_
      refine r_isub dX11_round_28 ?_
      refine r_bndi (fun x1 => ?_)
      refine r_istore (l' := [.ref (ga g 0), .int p1, .int p2, .int p3, .int p4, .int x1]) dX11_round_29 (Nat.le_of_ble_eq_true rfl) rfl rfl ?_
      refine r_iload_n dX11_round_31 rfl rfl ?_
      refine r_iconst ic_1 dX11_round_32 ?_
      refine r_iload dX11_round_33 rfl ?_
      refine r_calliT (cl_S [.int p2, .int 1, .int x1] bX11_isWithin (by decide) dX11_round_35 ml_X11_71 rfl (Nat.le_of_ble_eq_true rfl) rfl) (kX11_isWithin _ _ _ _) ?_
      refine r_if_eq dX11_round_38 (fun h => eT h ?_) (fun h => eF h ?_)
      · refine r_iconst ic_m1 dX11_round_51 ?_
        exact vRet rfl rfl rfl dX11_round_52
      · refine r_iload_n dX11_round_41 rfl rfl ?_
        refine r_iconst ic_1 dX11_round_42 ?_
        refine r_iload dX11_round_43 rfl ?_
        refine r_calliT (cl_S [.int p3, .int 1, .int x1] bX11_isWithin (by decide) dX11_round_45 ml_X11_71 rfl (Nat.le_of_ble_eq_true rfl) rfl) (kX11_isWithin _ _ _ _) ?_
        refine r_if_ne dX11_round_48 (fun h => eF h ?_) (fun h => eT h ?_)
        · refine r_iload dX11_round_53 rfl ?_
          refine r_iconst ic_m1 dX11_round_55 ?_
          refine r_icmp_ne dX11_round_56 (fun h => eF h ?_) (fun h => eT h ?_)
          · refine r_iload_n dX11_round_68 rfl rfl ?_
            refine r_iload_n dX11_round_69 rfl rfl ?_
            refine r_iload_n dX11_round_70 rfl rfl ?_
            refine r_iload dX11_round_71 rfl ?_
            refine r_calli (cl_S [.int p1, .int p2, .int p3, .int p4] bX5_shifted (by decide) dX11_round_73 ml_X11_324 rfl (Nat.le_of_ble_eq_true rfl) rfl) (kX5_shifted _ _ _ _ _) (fun v2 _ => ?_)
            exact vRet rfl rfl rfl dX11_round_76
          · refine r_iload_n dX11_round_59 rfl rfl ?_
            refine r_iload_n dX11_round_60 rfl rfl ?_
            refine r_iload_n dX11_round_61 rfl rfl ?_
            refine r_calli (cl_S [.int p1, .int p2, .int p3] bX5_timesRound (by decide) dX11_round_62 ml_X11_320 rfl (Nat.le_of_ble_eq_true rfl) rfl) (kX5_timesRound _ _ _ _) (fun v3 _ => ?_)
            refine r_goto dX11_round_65 ?_
            exact vRet rfl rfl rfl dX11_round_76
        · refine r_iconst ic_m1 dX11_round_51 ?_
          exact vRet rfl rfl rfl dX11_round_52
    · refine r_iconst ic_m1 dX11_round_22 ?_
      exact vRet rfl rfl rfl dX11_round_23
theorem kX11_round {g : G}   (p1 : Int32) (p2 : Int32) (p3 : Int32) (p4 : Int32) (M : Mem) : CtrI g uX11_round 4 (fun r => r) (rmP M) [.ref (ga g 0), .int p1, .int p2, .int p3, .int p4] M (fX11_round p1 p2 p3 p4) := CtrI.of mX11_round rfl (Nat.le_of_ble_eq_true rfl) rfl (vX11_round p1 p2 p3 p4 M)
set_option maxHeartbeats 4000000 in
set_option maxRecDepth 100000 in
theorem vX12_roundOf {g : G}   (p1 : Int32) (p2 : Int32) (p3 : Int32) (M : Mem) : V g uX12_roundOf 2 rvI (rmP M) 0 [.ref (ga g 198), .int p1, .int p2, .int p3] [] M (fX12_roundOf p1 p2 p3) := by
  unfold fX12_roundOf
  refine r_iload_n dX12_roundOf_0 rfl rfl ?_
  refine r_iconst ic_2 dX12_roundOf_1 ?_
  refine r_idiv dX12_roundOf_2 (by decide) ?_
  refine r_aload_n dX12_roundOf_3 rfl rfl ?_
  refine r_iload_n dX12_roundOf_4 rfl rfl ?_
  refine r_iload_n dX12_roundOf_5 rfl rfl ?_
  refine r_iand dX12_roundOf_6 ?_
  refine r_calli (cl_V [.int (p3 &&& p2)] bX12_onesOf (by decide) dX12_roundOf_7 ml_X12_311 kdc_198 rfl (Nat.le_of_ble_eq_true rfl) rfl) (kX12_onesOf _ _) (fun v1 _ => ?_)
  refine r_iconst ic_2 dX12_roundOf_10 ?_
  refine r_irem dX12_roundOf_11 (by decide) ?_
  refine r_iconst ic_1 dX12_roundOf_12 ?_
  refine r_icmp_ne dX12_roundOf_13 (fun h => eF h ?_) (fun h => eT h ?_)
  · refine r_iconst ic_0 dX12_roundOf_24 ?_
    refine r_iadd dX12_roundOf_25 ?_
    exact vRet rfl rfl rfl dX12_roundOf_26
  · refine r_iconst ic_1 dX12_roundOf_16 ?_
    refine r_iload_n dX12_roundOf_17 rfl rfl ?_
    refine r_iconst ic_1 dX12_roundOf_18 ?_
    refine r_isub dX12_roundOf_19 ?_
    refine r_ishl dX12_roundOf_20 ?_
    refine r_goto dX12_roundOf_21 ?_
    refine r_iadd dX12_roundOf_25 ?_
    exact vRet rfl rfl rfl dX12_roundOf_26
theorem kX12_roundOf {g : G}   (p1 : Int32) (p2 : Int32) (p3 : Int32) (M : Mem) : CtrI g uX12_roundOf 2 (fun r => r) (rmP M) [.ref (ga g 198), .int p1, .int p2, .int p3] M (fX12_roundOf p1 p2 p3) := CtrI.of mX12_roundOf rfl (Nat.le_of_ble_eq_true rfl) rfl (vX12_roundOf p1 p2 p3 M)
set_option maxHeartbeats 4000000 in
set_option maxRecDepth 100000 in
theorem vX12_round_L106 {g : G}   (z1 : Int32) (z2 : Int32) (z3 : Int32)  (M : Mem)   : ∀ (n : Nat) (y5 : Int32) (y6 : Int32), V g uX12_round 3 rvW rmW 106 [.ref (ga g 198), .int z1, .int z2, .int z3, .null, .int y5, .int y6] [] M (fX12_round_L106 z1 z2 z3 M n y5 y6) := by
  intro n
  induction n with
  | zero => intro y5 y6; exact vNone
  | succ n ih =>
    intro y5 y6
    rw [fX12_round_L106]
    refine r_iload dX12_round_106 rfl ?_
    refine r_sipush sp_256 dX12_round_108 ?_
    refine r_icmp_gt dX12_round_111 (fun h => eT h ?_) (fun h => eF h ?_)
    · refine r_iconst ic_m1 dX12_round_139 ?_
      exact vRet rfl rfl rfl dX12_round_140
    · refine r_aload_n dX12_round_114 rfl rfl ?_
      refine r_iload_n dX12_round_115 rfl rfl ?_
      refine r_iload_n dX12_round_116 rfl rfl ?_
      refine r_iload dX12_round_117 rfl ?_
      refine r_calli (cl_V [.int z1, .int z2, .int y5] bX12_roundOf (by decide) dX12_round_119 ml_X12_419 kdc_198 rfl (Nat.le_of_ble_eq_true rfl) rfl) (kX12_roundOf _ _ _ _) (fun v3 _ => ?_)
      refine r_istore (l' := [.ref (ga g 198), .int z1, .int z2, .int z3, .null, .int v3, .int y6]) dX12_round_122 (Nat.le_of_ble_eq_true rfl) rfl rfl ?_
      refine r_iload dX12_round_124 rfl ?_
      refine r_iload_n dX12_round_126 rfl rfl ?_
      refine r_icmp_ne dX12_round_127 (fun h => eF h ?_) (fun h => eT h ?_)
      · refine r_iinc (l' := [.ref (ga g 198), .int z1, .int z2, .int z3, .null, .int v3, .int (y6 + 1)]) dX12_round_133 rfl (inc_1 _) (Nat.le_of_ble_eq_true rfl) rfl rfl ?_
        refine r_goto dX12_round_136 ?_
        exact ih _ _
      · refine r_iload dX12_round_130 rfl ?_
        exact vRet rfl rfl rfl dX12_round_132
set_option maxHeartbeats 4000000 in
set_option maxRecDepth 100000 in
theorem vX12_round_L77 {g : G}   (z1 : Int32) (z2 : Int32) (z4 : Int32)  (M : Mem)   : ∀ (n : Nat) (y5 : Int32) (y6 : Int32), V g uX12_round 3 rvW rmW 77 [.ref (ga g 198), .int z1, .int z2, .null, .int z4, .int y5, .int y6] [] M (fX12_round_L77 z1 z2 z4 M n y5 y6) := by
  intro n
  induction n with
  | zero => intro y5 y6; exact vNone
  | succ n ih =>
    intro y5 y6
    rw [fX12_round_L77]
    refine r_iload dX12_round_77 rfl ?_
    refine r_iload dX12_round_79 rfl ?_
    refine r_icmp_ge dX12_round_81 (fun h => eT h ?_) (fun h => eF h ?_)
    · refine r_iload dX12_round_100 rfl ?_
      exact vRet rfl rfl rfl dX12_round_102
    · refine r_aload_n dX12_round_84 rfl rfl ?_
      refine r_iload_n dX12_round_85 rfl rfl ?_
      refine r_iload_n dX12_round_86 rfl rfl ?_
      refine r_iload dX12_round_87 rfl ?_
      refine r_calli (cl_V [.int z1, .int z2, .int y5] bX12_roundOf (by decide) dX12_round_89 ml_X12_419 kdc_198 rfl (Nat.le_of_ble_eq_true rfl) rfl) (kX12_roundOf _ _ _ _) (fun v4 _ => ?_)
      refine r_istore (l' := [.ref (ga g 198), .int z1, .int z2, .null, .int z4, .int v4, .int y6]) dX12_round_92 (Nat.le_of_ble_eq_true rfl) rfl rfl ?_
      refine r_iinc (l' := [.ref (ga g 198), .int z1, .int z2, .null, .int z4, .int v4, .int (y6 + 1)]) dX12_round_94 rfl (inc_1 _) (Nat.le_of_ble_eq_true rfl) rfl rfl ?_
      refine r_goto dX12_round_97 ?_
      exact ih _ _
set_option maxHeartbeats 4000000 in
set_option maxRecDepth 100000 in
theorem vX12_round {g : G}   (p1 : Int32) (p2 : Int32) (p3 : Int32) (p4 : Int32) (M : Mem) : V g uX12_round 3 rvW rmW 0 [.ref (ga g 198), .int p1, .int p2, .int p3, .int p4, .null, .null] [] M (fX12_round p1 p2 p3 p4 M) := by
  unfold fX12_round
  refine r_aload_n dX12_round_0 rfl rfl ?_
  refine r_iconst ic_0 dX12_round_1 ?_
  refine r_put dX12_round_2 fw_X12_122 kdc_198 (fun M1 => ?_)
  refine r_aload_n dX12_round_5 rfl rfl ?_
  refine r_iload_n dX12_round_6 rfl rfl ?_
  refine r_iconst ic_2 dX12_round_7 ?_
  refine r_bipush bp_8 dX12_round_8 ?_
  refine r_calliT (cl_V [.int p1, .int 2, .int 8] bX12_isIn (by decide) dX12_round_10 ml_X12_140 kdc_198 rfl (Nat.le_of_ble_eq_true rfl) rfl) (kX12_isIn _ _ _ _) ?_
  refine r_if_eq dX12_round_13 (fun h => eT h ?_) (fun h => eF h ?_)
  · refine r_iconst ic_m1 dX12_round_63 ?_
    exact vRet rfl rfl rfl dX12_round_64
  · refine r_aload_n dX12_round_16 rfl rfl ?_
    refine r_iload_n dX12_round_17 rfl rfl ?_
    refine r_iconst ic_1 dX12_round_18 ?_
    refine r_iconst ic_1 dX12_round_19 ?_
    refine r_iload_n dX12_round_20 rfl rfl ?_
    refine r_ishl dX12_round_21 ?_
    refine r_iconst ic_1 dX12_round_22 ?_
    refine r_isub dX12_round_23 ?_
    refine r_calliT (cl_V [.int p2, .int 1, .int ((jshl 1 p1) - 1)] bX12_isIn (by decide) dX12_round_24 ml_X12_140 kdc_198 rfl (Nat.le_of_ble_eq_true rfl) rfl) (kX12_isIn _ _ _ _) ?_
    refine r_if_eq dX12_round_27 (fun h => eT h ?_) (fun h => eF h ?_)
    · refine r_iconst ic_m1 dX12_round_63 ?_
      exact vRet rfl rfl rfl dX12_round_64
    · refine r_aload_n dX12_round_30 rfl rfl ?_
      refine r_iload_n dX12_round_31 rfl rfl ?_
      refine r_iconst ic_1 dX12_round_32 ?_
      refine r_iconst ic_1 dX12_round_33 ?_
      refine r_iload_n dX12_round_34 rfl rfl ?_
      refine r_ishl dX12_round_35 ?_
      refine r_iconst ic_1 dX12_round_36 ?_
      refine r_isub dX12_round_37 ?_
      refine r_calliT (cl_V [.int p3, .int 1, .int ((jshl 1 p1) - 1)] bX12_isIn (by decide) dX12_round_38 ml_X12_140 kdc_198 rfl (Nat.le_of_ble_eq_true rfl) rfl) (kX12_isIn _ _ _ _) ?_
      refine r_if_eq dX12_round_41 (fun h => eT h ?_) (fun h => eF h ?_)
      · refine r_iconst ic_m1 dX12_round_63 ?_
        exact vRet rfl rfl rfl dX12_round_64
      · refine r_iload dX12_round_44 rfl ?_
        refine r_iconst ic_m1 dX12_round_46 ?_
        refine eJ (fun (J2 : Option (Int32 × Mem)) => V g uX12_round 3 rvW rmW 65 [.ref (ga g 198), .int p1, .int p2, .int p3, .int p4, .null, .null] [] M1 (J2)) ( ?_) (fun J2 hJ2 => ?_)
        · refine r_iload_n dX12_round_65 rfl rfl ?_
          refine r_istore (l' := [.ref (ga g 198), .int p1, .int p2, .int p3, .int p4, .int p3, .null]) dX12_round_66 (Nat.le_of_ble_eq_true rfl) rfl rfl ?_
          refine r_iload dX12_round_68 rfl ?_
          refine r_iconst ic_m1 dX12_round_70 ?_
          refine r_icmp_eq dX12_round_71 (fun h => eT h ?_) (fun h => eF h ?_)
          · refine r_iconst ic_1 dX12_round_103 ?_
            refine r_istore (l' := [.ref (ga g 198), .int p1, .int p2, .int p3, .int p4, .int p3, .int 1]) dX12_round_104 (Nat.le_of_ble_eq_true rfl) rfl rfl ?_
            refine vSub (l' := [.ref (ga g 198), .int p1, .int p2, .int p3, .null, .int p3, .int 1]) ⟨Or.inr rfl, ⟨Or.inr rfl, ⟨Or.inr rfl, ⟨Or.inr rfl, ⟨Or.inl rfl, ⟨Or.inr rfl, ⟨Or.inr rfl, trivial⟩⟩⟩⟩⟩⟩⟩ ?_
            refine vX12_round_L106 _ _ _ _ FU _ _
          · refine r_iconst ic_0 dX12_round_74 ?_
            refine r_istore (l' := [.ref (ga g 198), .int p1, .int p2, .int p3, .int p4, .int p3, .int 0]) dX12_round_75 (Nat.le_of_ble_eq_true rfl) rfl rfl ?_
            refine vSub (l' := [.ref (ga g 198), .int p1, .int p2, .null, .int p4, .int p3, .int 0]) ⟨Or.inr rfl, ⟨Or.inr rfl, ⟨Or.inr rfl, ⟨Or.inl rfl, ⟨Or.inr rfl, ⟨Or.inr rfl, ⟨Or.inr rfl, trivial⟩⟩⟩⟩⟩⟩⟩ ?_
            refine vX12_round_L77 _ _ _ _ FU _ _
        · refine r_icmp_eq dX12_round_47 (fun h => eT h ?_) (fun h => eF h ?_)
          · exact hJ2
          · refine r_aload_n dX12_round_50 rfl rfl ?_
            refine r_iload dX12_round_51 rfl ?_
            refine r_iconst ic_0 dX12_round_53 ?_
            refine r_sipush sp_1000 dX12_round_54 ?_
            refine r_calliT (cl_V [.int p4, .int 0, .int 1000] bX12_isIn (by decide) dX12_round_57 ml_X12_140 kdc_198 rfl (Nat.le_of_ble_eq_true rfl) rfl) (kX12_isIn _ _ _ _) ?_
            refine r_if_ne dX12_round_60 (fun h => eF h ?_) (fun h => eT h ?_)
            · exact hJ2
            · refine r_iconst ic_m1 dX12_round_63 ?_
              exact vRet rfl rfl rfl dX12_round_64
theorem kX12_round {g : G}   (p1 : Int32) (p2 : Int32) (p3 : Int32) (p4 : Int32) (M : Mem) : CtrI g uX12_round 3 (fun r => r.1) rmW [.ref (ga g 198), .int p1, .int p2, .int p3, .int p4] M (fX12_round p1 p2 p3 p4 M) := CtrI.of mX12_round rfl (Nat.le_of_ble_eq_true rfl) rfl (vX12_round p1 p2 p3 p4 M)
