set_option maxHeartbeats 4000000 in
set_option maxRecDepth 100000 in
theorem vX11_apart {g : G}   (p1 : Int32) (p2 : Int32) (M : Mem) : V g uX11_apart 2 rvI (rmP M) 0 [.ref (ga g 0), .int p1, .int p2] [] M (fX11_apart p1 p2) := by
  unfold fX11_apart
  refine r_iload_n dX11_apart_0 rfl rfl ?_
  refine r_iconst ic_2 dX11_apart_1 ?_
  refine r_bipush bp_50 dX11_apart_2 ?_
  refine r_calliT (cl_S [.int p1, .int 2, .int 50] bX11_isWithin (by decide) dX11_apart_4 ml_X11_71 rfl (Nat.le_of_ble_eq_true rfl) rfl) (kX11_isWithin _ _ _ _) ?_
  refine r_if_eq dX11_apart_7 (fun h => eT h ?_) (fun h => eF h ?_)
  · refine r_iconst ic_m1 dX11_apart_19 ?_
    exact vRet rfl rfl rfl dX11_apart_20
  · refine r_iload_n dX11_apart_10 rfl rfl ?_
    refine r_iconst ic_0 dX11_apart_11 ?_
    refine r_iconst ic_1 dX11_apart_12 ?_
    refine r_calliT (cl_S [.int p2, .int 0, .int 1] bX11_isWithin (by decide) dX11_apart_13 ml_X11_71 rfl (Nat.le_of_ble_eq_true rfl) rfl) (kX11_isWithin _ _ _ _) ?_
    refine r_if_ne dX11_apart_16 (fun h => eF h ?_) (fun h => eT h ?_)
    · refine r_iload_n dX11_apart_21 rfl rfl ?_
      refine r_iload_n dX11_apart_22 rfl rfl ?_
      refine eJ (fun (J1 : (Int32) → Option (Int32)) => ∀ (t2 : Int32), V g uX11_apart 2 rvI (rmP M) 31 [.null, .null, .null] [.int t2, .int p1] M (J1 t2)) (fun t2 => ?_) (fun J1 hJ1 => ?_)
      · refine r_calli (cl_S [.int p1, .int t2] bX5_leastApart (by decide) dX11_apart_31 ml_X11_286 rfl (Nat.le_of_ble_eq_true rfl) rfl) (kX5_leastApart _ _ _) (fun v3 _ => ?_)
        exact vRet rfl rfl rfl dX11_apart_34
      · refine r_if_ne dX11_apart_23 (fun h => eF h ?_) (fun h => eT h ?_)
        · refine r_iconst ic_0 dX11_apart_30 ?_
          exact vSub (l' := [.null, .null, .null]) ⟨Or.inl rfl, ⟨Or.inl rfl, ⟨Or.inl rfl, trivial⟩⟩⟩ (hJ1 _)
        · refine r_iconst ic_1 dX11_apart_26 ?_
          refine r_goto dX11_apart_27 ?_
          exact vSub (l' := [.null, .null, .null]) ⟨Or.inl rfl, ⟨Or.inl rfl, ⟨Or.inl rfl, trivial⟩⟩⟩ (hJ1 _)
    · refine r_iconst ic_m1 dX11_apart_19 ?_
      exact vRet rfl rfl rfl dX11_apart_20
theorem kX11_apart {g : G}   (p1 : Int32) (p2 : Int32) (M : Mem) : CtrI g uX11_apart 2 (fun r => r) (rmP M) [.ref (ga g 0), .int p1, .int p2] M (fX11_apart p1 p2) := CtrI.of mX11_apart rfl (Nat.le_of_ble_eq_true rfl) rfl (vX11_apart p1 p2 M)
set_option maxHeartbeats 4000000 in
set_option maxRecDepth 100000 in
theorem vX12_apart_L30 {g : G}  (K52 : Option (Int32 × Mem)) (z1 : Int32) (c2 : Int32) (M : Mem)  (hK52 : V g uX12_apart 2 rvW rmW 52 [.null, .int z1, .int c2, .null, .null] [] M (K52)) : ∀ (n : Nat) (y3 : Int32), V g uX12_apart 2 rvW rmW 30 [.null, .int z1, .int c2, .int y3, .null] [] M (fX12_apart_L30 K52 z1 M n y3) := by
  intro n
  induction n with
  | zero => intro y3; exact vNone
  | succ n ih =>
    intro y3
    rw [fX12_apart_L30]
    refine r_iload_n dX12_apart_30 rfl rfl ?_
    refine r_iload_n dX12_apart_31 rfl rfl ?_
    refine r_imul dX12_apart_32 ?_
    refine r_iload_n dX12_apart_33 rfl rfl ?_
    refine r_icmp_gt dX12_apart_34 (fun h => eT h ?_) (fun h => eF h ?_)
    · exact vSub (l' := [.null, .int z1, .int c2, .null, .null]) ⟨Or.inl rfl, ⟨Or.inr rfl, ⟨Or.inr rfl, ⟨Or.inl rfl, ⟨Or.inl rfl, trivial⟩⟩⟩⟩⟩ (hK52 )
    · refine r_iload_n dX12_apart_37 rfl rfl ?_
      refine r_iload_n dX12_apart_38 rfl rfl ?_
      refine r_imul dX12_apart_39 ?_
      refine r_iload_n dX12_apart_40 rfl rfl ?_
      refine r_icmp_ne dX12_apart_41 (fun h => eF h ?_) (fun h => eT h ?_)
      · refine r_iinc (l' := [.null, .int z1, .int c2, .int (y3 + 1), .null]) dX12_apart_46 rfl (inc_1 _) (Nat.le_of_ble_eq_true rfl) rfl rfl ?_
        refine r_goto dX12_apart_49 ?_
        exact ih _
      · refine r_iconst ic_m1 dX12_apart_44 ?_
        exact vRet rfl rfl rfl dX12_apart_45
set_option maxHeartbeats 4000000 in
set_option maxRecDepth 100000 in
theorem vX12_apart_L57 {g : G}  (K103 : Int32 → Int32 → Option (Int32 × Mem)) (z1 : Int32) (c2 : Int32) (M : Mem)  (hK103 : ∀ (e3 : Int32) (e4 : Int32), V g uX12_apart 2 rvW rmW 103 [.null, .null, .int c2, .int e3, .int e4] [] M (K103 e3 e4)) : ∀ (n : Nat) (y3 : Int32) (y4 : Int32), V g uX12_apart 2 rvW rmW 57 [.null, .int z1, .int c2, .int y3, .int y4] [] M (fX12_apart_L57 K103 z1 M n y3 y4) := by
  intro n
  induction n with
  | zero => intro y3 y4; exact vNone
  | succ n ih =>
    intro y3 y4
    rw [fX12_apart_L57]
    refine r_iload_n dX12_apart_57 rfl rfl ?_
    refine r_iload_n dX12_apart_58 rfl rfl ?_
    refine r_imul dX12_apart_59 ?_
    refine r_iload_n dX12_apart_60 rfl rfl ?_
    refine r_iload dX12_apart_61 rfl ?_
    refine r_imul dX12_apart_63 ?_
    refine r_iload dX12_apart_64 rfl ?_
    refine r_imul dX12_apart_66 ?_
    refine r_iconst ic_1 dX12_apart_67 ?_
    refine r_iadd dX12_apart_68 ?_
    refine r_icmp_eq dX12_apart_69 (fun h => eT h ?_) (fun h => eF h ?_)
    · exact vSub (l' := [.null, .null, .int c2, .int y3, .int y4]) ⟨Or.inl rfl, ⟨Or.inl rfl, ⟨Or.inr rfl, ⟨Or.inr rfl, ⟨Or.inr rfl, trivial⟩⟩⟩⟩⟩ (hK103 _ _)
    · refine r_iload_n dX12_apart_72 rfl rfl ?_
      refine r_iload_n dX12_apart_73 rfl rfl ?_
      refine r_imul dX12_apart_74 ?_
      refine r_iload_n dX12_apart_75 rfl rfl ?_
      refine r_iload dX12_apart_76 rfl ?_
      refine r_imul dX12_apart_78 ?_
      refine r_iload dX12_apart_79 rfl ?_
      refine r_imul dX12_apart_81 ?_
      refine r_iconst ic_1 dX12_apart_82 ?_
      refine r_iadd dX12_apart_83 ?_
      refine r_icmp_ge dX12_apart_84 (fun h => eT h ?_) (fun h => eF h ?_)
      · refine r_iload dX12_apart_94 rfl ?_
        refine r_iconst ic_1 dX12_apart_96 ?_
        refine r_iadd dX12_apart_97 ?_
        refine r_bndi (fun x2 => ?_)
        refine r_istore (l' := [.null, .int z1, .int c2, .int y3, .int x2]) dX12_apart_98 (Nat.le_of_ble_eq_true rfl) rfl rfl ?_
        refine r_goto dX12_apart_100 ?_
        exact ih _ _
      · refine r_iload_n dX12_apart_87 rfl rfl ?_
        refine r_iconst ic_1 dX12_apart_88 ?_
        refine r_iadd dX12_apart_89 ?_
        refine r_bndi (fun x3 => ?_)
        refine r_istore_n (l' := [.null, .int z1, .int c2, .int x3, .int y4]) dX12_apart_90 rfl (Nat.le_of_ble_eq_true rfl) rfl rfl ?_
        refine r_goto dX12_apart_91 ?_
        exact ih _ _
set_option maxHeartbeats 4000000 in
set_option maxRecDepth 100000 in
theorem vX12_apart {g : G}   (p1 : Int32) (p2 : Int32) (M : Mem) : V g uX12_apart 2 rvW rmW 0 [.ref (ga g 198), .int p1, .int p2, .null, .null] [] M (fX12_apart p1 p2 M) := by
  unfold fX12_apart
  refine r_aload_n dX12_apart_0 rfl rfl ?_
  refine r_iconst ic_0 dX12_apart_1 ?_
  refine r_put dX12_apart_2 fw_X12_122 kdc_198 (fun M1 => ?_)
  refine r_aload_n dX12_apart_5 rfl rfl ?_
  refine r_iload_n dX12_apart_6 rfl rfl ?_
  refine r_iconst ic_2 dX12_apart_7 ?_
  refine r_bipush bp_50 dX12_apart_8 ?_
  refine r_calliT (cl_V [.int p1, .int 2, .int 50] bX12_isIn (by decide) dX12_apart_10 ml_X12_140 kdc_198 rfl (Nat.le_of_ble_eq_true rfl) rfl) (kX12_isIn _ _ _ _) ?_
  refine r_if_eq dX12_apart_13 (fun h => eT h ?_) (fun h => eF h ?_)
  · refine r_iconst ic_m1 dX12_apart_26 ?_
    exact vRet rfl rfl rfl dX12_apart_27
  · refine r_aload_n dX12_apart_16 rfl rfl ?_
    refine r_iload_n dX12_apart_17 rfl rfl ?_
    refine r_iconst ic_0 dX12_apart_18 ?_
    refine r_iconst ic_1 dX12_apart_19 ?_
    refine r_calliT (cl_V [.int p2, .int 0, .int 1] bX12_isIn (by decide) dX12_apart_20 ml_X12_140 kdc_198 rfl (Nat.le_of_ble_eq_true rfl) rfl) (kX12_isIn _ _ _ _) ?_
    refine r_if_ne dX12_apart_23 (fun h => eF h ?_) (fun h => eT h ?_)
    · refine r_iconst ic_2 dX12_apart_28 ?_
      refine r_istore_n (l' := [.ref (ga g 198), .int p1, .int p2, .int 2, .null]) dX12_apart_29 rfl (Nat.le_of_ble_eq_true rfl) rfl rfl ?_
      refine vSub (l' := [.null, .int p1, .int p2, .int 2, .null]) ⟨Or.inl rfl, ⟨Or.inr rfl, ⟨Or.inr rfl, ⟨Or.inr rfl, ⟨Or.inl rfl, trivial⟩⟩⟩⟩⟩ ?_
      refine vX12_apart_L30 _ _ _ _ (?_) FU _
      · refine r_iconst ic_1 dX12_apart_52 ?_
        refine r_istore_n (l' := [.null, .int p1, .int p2, .int 1, .null]) dX12_apart_53 rfl (Nat.le_of_ble_eq_true rfl) rfl rfl ?_
        refine r_iconst ic_1 dX12_apart_54 ?_
        refine r_istore (l' := [.null, .int p1, .int p2, .int 1, .int 1]) dX12_apart_55 (Nat.le_of_ble_eq_true rfl) rfl rfl ?_
        refine vX12_apart_L57 _ _ _ _ (fun e4 e5 => ?_) FU _ _
        · refine r_iload_n dX12_apart_103 rfl rfl ?_
          refine r_if_ne dX12_apart_104 (fun h => eF h ?_) (fun h => eT h ?_)
          · refine r_iload dX12_apart_111 rfl ?_
            exact vRet rfl rfl rfl dX12_apart_113
          · refine r_iload_n dX12_apart_107 rfl rfl ?_
            refine r_goto dX12_apart_108 ?_
            exact vRet rfl rfl rfl dX12_apart_113
    · refine r_iconst ic_m1 dX12_apart_26 ?_
      exact vRet rfl rfl rfl dX12_apart_27
theorem kX12_apart {g : G}   (p1 : Int32) (p2 : Int32) (M : Mem) : CtrI g uX12_apart 2 (fun r => r.1) rmW [.ref (ga g 198), .int p1, .int p2] M (fX12_apart p1 p2 M) := CtrI.of mX12_apart rfl (Nat.le_of_ble_eq_true rfl) rfl (vX12_apart p1 p2 M)
set_option maxHeartbeats 4000000 in
set_option maxRecDepth 100000 in
theorem vX5_cornersUpTo_L40 {g : G}  (K59 : Int32 → Option (Int32)) (z0 : Int32) (z5 : Int32) (c1 : Int32) (c2 : Int32) (c4 : Int32) (M : Mem)  (hK59 : ∀ (e3 : Int32), V g uX5_cornersUpTo 1 rvI (rmP M) 59 [.int z0, .int c1, .int c2, .int e3, .int c4, .int z5] [] M (K59 e3)) : ∀ (n : Nat) (y3 : Int32), V g uX5_cornersUpTo 1 rvI (rmP M) 40 [.int z0, .int c1, .int c2, .int y3, .int c4, .int z5] [] M (fX5_cornersUpTo_L40 K59 z0 z5 n y3) := by
  intro n
  induction n with
  | zero => intro y3; exact vNone
  | succ n ih =>
    intro y3
    rw [fX5_cornersUpTo_L40]
    refine r_iload_n dX5_cornersUpTo_40 rfl rfl ?_
    refine r_iload_n dX5_cornersUpTo_41 rfl rfl ?_
    refine r_icmp_gt dX5_cornersUpTo_42 (fun h => eT h ?_) (fun h => eF h ?_)
    · exact hK59 _
    · refine r_iload_n dX5_cornersUpTo_45 rfl rfl ?_
      refine r_iload_n dX5_cornersUpTo_46 rfl rfl ?_
      refine r_imul dX5_cornersUpTo_47 ?_
      refine r_iload dX5_cornersUpTo_48 rfl ?_
      refine r_icmp_ge dX5_cornersUpTo_50 (fun h => eT h ?_) (fun h => eF h ?_)
      · exact hK59 _
      · refine r_iinc (l' := [.int z0, .int c1, .int c2, .int (y3 + 1), .int c4, .int z5]) dX5_cornersUpTo_53 rfl (inc_1 _) (Nat.le_of_ble_eq_true rfl) rfl rfl ?_
        refine r_goto dX5_cornersUpTo_56 ?_
        exact ih _
set_option maxHeartbeats 4000000 in
set_option maxRecDepth 100000 in
theorem vX5_cornersUpTo_L18 {g : G}  (K81 : Int32 → Option (Int32)) (z0 : Int32) (z2 : Int32)  (M : Mem)  (hK81 : ∀ (e1 : Int32), V g uX5_cornersUpTo 1 rvI (rmP M) 81 [.int z0, .int e1, .int z2, .null, .null, .null] [] M (K81 e1)) : ∀ (n : Nat) (y1 : Int32) (y3 : Int32) (y4 : Int32), V g uX5_cornersUpTo 1 rvI (rmP M) 18 [.int z0, .int y1, .int z2, .int y3, .int y4, .null] [] M (fX5_cornersUpTo_L18 K81 z0 z2 n y1 y3 y4) := by
  intro n
  induction n with
  | zero => intro y1 y3 y4; exact vNone
  | succ n ih =>
    intro y1 y3 y4
    rw [fX5_cornersUpTo_L18]
    refine r_iload dX5_cornersUpTo_18 rfl ?_
    refine r_iload_n dX5_cornersUpTo_20 rfl rfl ?_
    refine r_icmp_ge dX5_cornersUpTo_21 (fun h => eT h ?_) (fun h => eF h ?_)
    · exact vSub (l' := [.int z0, .int y1, .int z2, .null, .null, .null]) ⟨Or.inr rfl, ⟨Or.inr rfl, ⟨Or.inr rfl, ⟨Or.inl rfl, ⟨Or.inl rfl, ⟨Or.inl rfl, trivial⟩⟩⟩⟩⟩⟩ (hK81 _)
    · refine r_iload_n dX5_cornersUpTo_24 rfl rfl ?_
      refine r_iload_n dX5_cornersUpTo_25 rfl rfl ?_
      refine r_icmp_gt dX5_cornersUpTo_26 (fun h => eT h ?_) (fun h => eF h ?_)
      · exact vSub (l' := [.int z0, .int y1, .int z2, .null, .null, .null]) ⟨Or.inr rfl, ⟨Or.inr rfl, ⟨Or.inr rfl, ⟨Or.inl rfl, ⟨Or.inl rfl, ⟨Or.inl rfl, trivial⟩⟩⟩⟩⟩⟩ (hK81 _)
      · refine r_iload_n dX5_cornersUpTo_29 rfl rfl ?_
        refine r_iload_n dX5_cornersUpTo_30 rfl rfl ?_
        refine r_imul dX5_cornersUpTo_31 ?_
        refine r_iload dX5_cornersUpTo_32 rfl ?_
        refine r_iload dX5_cornersUpTo_34 rfl ?_
        refine r_imul dX5_cornersUpTo_36 ?_
        refine r_iadd dX5_cornersUpTo_37 ?_
        refine r_bndi (fun x3 => ?_)
        refine r_istore (l' := [.int z0, .int y1, .int z2, .int y3, .int y4, .int x3]) dX5_cornersUpTo_38 (Nat.le_of_ble_eq_true rfl) rfl rfl ?_
        refine vX5_cornersUpTo_L40 _ _ _ _ _ _ _ (fun e4 => ?_) FU _
        · refine r_iload_n dX5_cornersUpTo_59 rfl rfl ?_
          refine r_iload_n dX5_cornersUpTo_60 rfl rfl ?_
          refine eJ (fun (J5 : (Int32) → Option (Int32)) => ∀ (a6 : Int32), V g uX5_cornersUpTo 1 rvI (rmP M) 75 [.int z0, .int a6, .int z2, .int e4, .int y4, .null] [] M (J5 a6)) (fun a6 => ?_) (fun J5 hJ5 => ?_)
          · refine r_iinc (l' := [.int z0, .int a6, .int z2, .int e4, .int (y4 + 1), .null]) dX5_cornersUpTo_75 rfl (inc_1 _) (Nat.le_of_ble_eq_true rfl) rfl rfl ?_
            refine r_goto dX5_cornersUpTo_78 ?_
            exact ih _ _ _
          · refine r_icmp_gt dX5_cornersUpTo_61 (fun h => eT h ?_) (fun h => eF h ?_)
            · exact vSub (l' := [.int z0, .int y1, .int z2, .int e4, .int y4, .null]) ⟨Or.inr rfl, ⟨Or.inr rfl, ⟨Or.inr rfl, ⟨Or.inr rfl, ⟨Or.inr rfl, ⟨Or.inl rfl, trivial⟩⟩⟩⟩⟩⟩ (hJ5 _)
            · refine r_iload_n dX5_cornersUpTo_64 rfl rfl ?_
              refine r_iload_n dX5_cornersUpTo_65 rfl rfl ?_
              refine r_imul dX5_cornersUpTo_66 ?_
              refine r_iload dX5_cornersUpTo_67 rfl ?_
              refine r_icmp_ne dX5_cornersUpTo_69 (fun h => eF h ?_) (fun h => eT h ?_)
              · exact vSub (l' := [.int z0, .int y1, .int z2, .int e4, .int y4, .null]) ⟨Or.inr rfl, ⟨Or.inr rfl, ⟨Or.inr rfl, ⟨Or.inr rfl, ⟨Or.inr rfl, ⟨Or.inl rfl, trivial⟩⟩⟩⟩⟩⟩ (hJ5 _)
              · refine r_iinc (l' := [.int z0, .int (y1 + 1), .int z2, .int e4, .int y4, .int x3]) dX5_cornersUpTo_72 rfl (inc_1 _) (Nat.le_of_ble_eq_true rfl) rfl rfl ?_
                exact vSub (l' := [.int z0, .int (y1 + 1), .int z2, .int e4, .int y4, .null]) ⟨Or.inr rfl, ⟨Or.inr rfl, ⟨Or.inr rfl, ⟨Or.inr rfl, ⟨Or.inr rfl, ⟨Or.inl rfl, trivial⟩⟩⟩⟩⟩⟩ (hJ5 _)
set_option maxHeartbeats 4000000 in
set_option maxRecDepth 100000 in
theorem vX5_cornersUpTo_L4 {g : G}   (z0 : Int32)  (M : Mem)   : ∀ (n : Nat) (y1 : Int32) (y2 : Int32), V g uX5_cornersUpTo 1 rvI (rmP M) 4 [.int z0, .int y1, .int y2, .null, .null, .null] [] M (fX5_cornersUpTo_L4 z0 n y1 y2) := by
  intro n
  induction n with
  | zero => intro y1 y2; exact vNone
  | succ n ih =>
    intro y1 y2
    rw [fX5_cornersUpTo_L4]
    refine r_iload_n dX5_cornersUpTo_4 rfl rfl ?_
    refine r_iload_n dX5_cornersUpTo_5 rfl rfl ?_
    refine r_icmp_ge dX5_cornersUpTo_6 (fun h => eT h ?_) (fun h => eF h ?_)
    · refine r_iload_n dX5_cornersUpTo_87 rfl rfl ?_
      exact vRet rfl rfl rfl dX5_cornersUpTo_88
    · refine r_iload_n dX5_cornersUpTo_9 rfl rfl ?_
      refine r_iconst ic_1 dX5_cornersUpTo_10 ?_
      refine r_iadd dX5_cornersUpTo_11 ?_
      refine r_bndi (fun x1 => ?_)
      refine r_istore_n (l' := [.int z0, .int y1, .int y2, .int x1, .null, .null]) dX5_cornersUpTo_12 rfl (Nat.le_of_ble_eq_true rfl) rfl rfl ?_
      refine r_iload_n dX5_cornersUpTo_13 rfl rfl ?_
      refine r_iconst ic_1 dX5_cornersUpTo_14 ?_
      refine r_iadd dX5_cornersUpTo_15 ?_
      refine r_bndi (fun x2 => ?_)
      refine r_istore (l' := [.int z0, .int y1, .int y2, .int x1, .int x2, .null]) dX5_cornersUpTo_16 (Nat.le_of_ble_eq_true rfl) rfl rfl ?_
      refine vX5_cornersUpTo_L18 _ _ _ _ (fun e7 => ?_) FU _ _ _
      · refine r_iinc (l' := [.int z0, .int e7, .int (y2 + 1), .null, .null, .null]) dX5_cornersUpTo_81 rfl (inc_1 _) (Nat.le_of_ble_eq_true rfl) rfl rfl ?_
        refine r_goto dX5_cornersUpTo_84 ?_
        exact ih _ _
set_option maxHeartbeats 4000000 in
set_option maxRecDepth 100000 in
theorem vX5_cornersUpTo {g : G}   (p0 : Int32) (M : Mem) : V g uX5_cornersUpTo 1 rvI (rmP M) 0 [.int p0, .null, .null, .null, .null, .null] [] M (fX5_cornersUpTo p0) := by
  unfold fX5_cornersUpTo
  refine r_iconst ic_0 dX5_cornersUpTo_0 ?_
  refine r_istore_n (l' := [.int p0, .int 0, .null, .null, .null, .null]) dX5_cornersUpTo_1 rfl (Nat.le_of_ble_eq_true rfl) rfl rfl ?_
  refine r_iconst ic_1 dX5_cornersUpTo_2 ?_
  refine r_istore_n (l' := [.int p0, .int 0, .int 1, .null, .null, .null]) dX5_cornersUpTo_3 rfl (Nat.le_of_ble_eq_true rfl) rfl rfl ?_
  refine vX5_cornersUpTo_L4 _ _ FU _ _
theorem kX5_cornersUpTo {g : G}   (p0 : Int32) (M : Mem) : CtrI g uX5_cornersUpTo 1 (fun r => r) (rmP M) [.int p0] M (fX5_cornersUpTo p0) := CtrI.of mX5_cornersUpTo rfl (Nat.le_of_ble_eq_true rfl) rfl (vX5_cornersUpTo p0 M)
set_option maxHeartbeats 4000000 in
set_option maxRecDepth 100000 in
theorem vX5_cornersAround_L13 {g : G}  (K53 : Int32 → Option (Int32)) (z0 : Int32) (z2 : Int32)  (M : Mem)  (hK53 : ∀ (e1 : Int32), V g uX5_cornersAround 1 rvI (rmP M) 53 [.int z0, .int e1, .int z2, .null, .null] [] M (K53 e1)) : ∀ (n : Nat) (y1 : Int32) (y3 : Int32), V g uX5_cornersAround 1 rvI (rmP M) 13 [.int z0, .int y1, .int z2, .int y3, .null] [] M (fX5_cornersAround_L13 K53 z0 z2 n y1 y3) := by
  intro n
  induction n with
  | zero => intro y1 y3; exact vNone
  | succ n ih =>
    intro y1 y3
    rw [fX5_cornersAround_L13]
    refine r_iload_n dX5_cornersAround_13 rfl rfl ?_
    refine r_iconst ic_2 dX5_cornersAround_14 ?_
    refine r_iload_n dX5_cornersAround_15 rfl rfl ?_
    refine r_imul dX5_cornersAround_16 ?_
    refine r_iadd dX5_cornersAround_17 ?_
    refine r_iload_n dX5_cornersAround_18 rfl rfl ?_
    refine r_icmp_ge dX5_cornersAround_19 (fun h => eT h ?_) (fun h => eF h ?_)
    · exact vSub (l' := [.int z0, .int y1, .int z2, .null, .null]) ⟨Or.inr rfl, ⟨Or.inr rfl, ⟨Or.inr rfl, ⟨Or.inl rfl, ⟨Or.inl rfl, trivial⟩⟩⟩⟩⟩ (hK53 _)
    · refine r_iload_n dX5_cornersAround_22 rfl rfl ?_
      refine r_iload_n dX5_cornersAround_23 rfl rfl ?_
      refine r_isub dX5_cornersAround_24 ?_
      refine r_iload_n dX5_cornersAround_25 rfl rfl ?_
      refine r_isub dX5_cornersAround_26 ?_
      refine r_bndi (fun x2 => ?_)
      refine r_istore (l' := [.int z0, .int y1, .int z2, .int y3, .int x2]) dX5_cornersAround_27 (Nat.le_of_ble_eq_true rfl) rfl rfl ?_
      refine r_iload_n dX5_cornersAround_29 rfl rfl ?_
      refine r_iload_n dX5_cornersAround_30 rfl rfl ?_
      refine r_imul dX5_cornersAround_31 ?_
      refine r_iload_n dX5_cornersAround_32 rfl rfl ?_
      refine r_iload_n dX5_cornersAround_33 rfl rfl ?_
      refine r_imul dX5_cornersAround_34 ?_
      refine r_iadd dX5_cornersAround_35 ?_
      refine r_iload dX5_cornersAround_36 rfl ?_
      refine r_iload dX5_cornersAround_38 rfl ?_
      refine r_imul dX5_cornersAround_40 ?_
      refine eJ (fun (J3 : (Int32) → Option (Int32)) => ∀ (a4 : Int32), V g uX5_cornersAround 1 rvI (rmP M) 47 [.int z0, .int a4, .int z2, .int y3, .null] [] M (J3 a4)) (fun a4 => ?_) (fun J3 hJ3 => ?_)
      · refine r_iinc (l' := [.int z0, .int a4, .int z2, .int (y3 + 1), .null]) dX5_cornersAround_47 rfl (inc_1 _) (Nat.le_of_ble_eq_true rfl) rfl rfl ?_
        refine r_goto dX5_cornersAround_50 ?_
        exact ih _ _
      · refine r_icmp_ne dX5_cornersAround_41 (fun h => eF h ?_) (fun h => eT h ?_)
        · exact vSub (l' := [.int z0, .int y1, .int z2, .int y3, .null]) ⟨Or.inr rfl, ⟨Or.inr rfl, ⟨Or.inr rfl, ⟨Or.inr rfl, ⟨Or.inl rfl, trivial⟩⟩⟩⟩⟩ (hJ3 _)
        · refine r_iinc (l' := [.int z0, .int (y1 + 1), .int z2, .int y3, .int x2]) dX5_cornersAround_44 rfl (inc_1 _) (Nat.le_of_ble_eq_true rfl) rfl rfl ?_
          exact vSub (l' := [.int z0, .int (y1 + 1), .int z2, .int y3, .null]) ⟨Or.inr rfl, ⟨Or.inr rfl, ⟨Or.inr rfl, ⟨Or.inr rfl, ⟨Or.inl rfl, trivial⟩⟩⟩⟩⟩ (hJ3 _)
set_option maxHeartbeats 4000000 in
set_option maxRecDepth 100000 in
theorem vX5_cornersAround_L4 {g : G}   (z0 : Int32)  (M : Mem)   : ∀ (n : Nat) (y1 : Int32) (y2 : Int32), V g uX5_cornersAround 1 rvI (rmP M) 4 [.int z0, .int y1, .int y2, .null, .null] [] M (fX5_cornersAround_L4 z0 n y1 y2) := by
  intro n
  induction n with
  | zero => intro y1 y2; exact vNone
  | succ n ih =>
    intro y1 y2
    rw [fX5_cornersAround_L4]
    refine r_iload_n dX5_cornersAround_4 rfl rfl ?_
    refine r_iload_n dX5_cornersAround_5 rfl rfl ?_
    refine r_icmp_ge dX5_cornersAround_6 (fun h => eT h ?_) (fun h => eF h ?_)
    · refine r_iload_n dX5_cornersAround_59 rfl rfl ?_
      exact vRet rfl rfl rfl dX5_cornersAround_60
    · refine r_iload_n dX5_cornersAround_9 rfl rfl ?_
      refine r_iconst ic_1 dX5_cornersAround_10 ?_
      refine r_iadd dX5_cornersAround_11 ?_
      refine r_bndi (fun x1 => ?_)
      refine r_istore_n (l' := [.int z0, .int y1, .int y2, .int x1, .null]) dX5_cornersAround_12 rfl (Nat.le_of_ble_eq_true rfl) rfl rfl ?_
      refine vX5_cornersAround_L13 _ _ _ _ (fun e5 => ?_) FU _ _
      · refine r_iinc (l' := [.int z0, .int e5, .int (y2 + 1), .null, .null]) dX5_cornersAround_53 rfl (inc_1 _) (Nat.le_of_ble_eq_true rfl) rfl rfl ?_
        refine r_goto dX5_cornersAround_56 ?_
        exact ih _ _
set_option maxHeartbeats 4000000 in
set_option maxRecDepth 100000 in
theorem vX5_cornersAround {g : G}   (p0 : Int32) (M : Mem) : V g uX5_cornersAround 1 rvI (rmP M) 0 [.int p0, .null, .null, .null, .null] [] M (fX5_cornersAround p0) := by
  unfold fX5_cornersAround
  refine r_iconst ic_0 dX5_cornersAround_0 ?_
  refine r_istore_n (l' := [.int p0, .int 0, .null, .null, .null]) dX5_cornersAround_1 rfl (Nat.le_of_ble_eq_true rfl) rfl rfl ?_
  refine r_iconst ic_1 dX5_cornersAround_2 ?_
  refine r_istore_n (l' := [.int p0, .int 0, .int 1, .null, .null]) dX5_cornersAround_3 rfl (Nat.le_of_ble_eq_true rfl) rfl rfl ?_
  refine vX5_cornersAround_L4 _ _ FU _ _
theorem kX5_cornersAround {g : G}   (p0 : Int32) (M : Mem) : CtrI g uX5_cornersAround 1 (fun r => r) (rmP M) [.int p0] M (fX5_cornersAround p0) := CtrI.of mX5_cornersAround rfl (Nat.le_of_ble_eq_true rfl) rfl (vX5_cornersAround p0 M)
set_option maxHeartbeats 4000000 in
set_option maxRecDepth 100000 in
theorem vX11_corners {g : G}   (p1 : Int32) (p2 : Int32) (M : Mem) : V g uX11_corners 2 rvI (rmP M) 0 [.ref (ga g 0), .int p1, .int p2] [] M (fX11_corners p1 p2) := by
  unfold fX11_corners
  refine r_iload_n dX11_corners_0 rfl rfl ?_
  refine r_iconst ic_1 dX11_corners_1 ?_
  refine r_sipush sp_200 dX11_corners_2 ?_
  refine r_calliT (cl_S [.int p1, .int 1, .int 200] bX11_isWithin (by decide) dX11_corners_5 ml_X11_71 rfl (Nat.le_of_ble_eq_true rfl) rfl) (kX11_isWithin _ _ _ _) ?_
  refine r_if_ne dX11_corners_8 (fun h => eF h ?_) (fun h => eT h ?_)
  · refine r_iload_n dX11_corners_13 rfl rfl ?_
    refine r_if_ne dX11_corners_14 (fun h => eF h ?_) (fun h => eT h ?_)
    · refine r_iload_n dX11_corners_22 rfl rfl ?_
      refine r_iconst ic_1 dX11_corners_23 ?_
      refine r_icmp_ne dX11_corners_24 (fun h => eF h ?_) (fun h => eT h ?_)
      · refine r_iconst ic_m1 dX11_corners_34 ?_
        exact vRet rfl rfl rfl dX11_corners_35
      · refine r_iload_n dX11_corners_27 rfl rfl ?_
        refine r_calli (cl_S [.int p1] bX5_cornersAround (by decide) dX11_corners_28 ml_X11_293 rfl (Nat.le_of_ble_eq_true rfl) rfl) (kX5_cornersAround _ _) (fun v1 _ => ?_)
        refine r_goto dX11_corners_31 ?_
        exact vRet rfl rfl rfl dX11_corners_35
    · refine r_iload_n dX11_corners_17 rfl rfl ?_
      refine r_calli (cl_S [.int p1] bX5_cornersUpTo (by decide) dX11_corners_18 ml_X11_290 rfl (Nat.le_of_ble_eq_true rfl) rfl) (kX5_cornersUpTo _ _) (fun v2 _ => ?_)
      exact vRet rfl rfl rfl dX11_corners_21
  · refine r_iconst ic_m1 dX11_corners_11 ?_
    exact vRet rfl rfl rfl dX11_corners_12
theorem kX11_corners {g : G}   (p1 : Int32) (p2 : Int32) (M : Mem) : CtrI g uX11_corners 2 (fun r => r) (rmP M) [.ref (ga g 0), .int p1, .int p2] M (fX11_corners p1 p2) := CtrI.of mX11_corners rfl (Nat.le_of_ble_eq_true rfl) rfl (vX11_corners p1 p2 M)
set_option maxHeartbeats 4000000 in
set_option maxRecDepth 100000 in
theorem vX12_corners_L54 {g : G}  (K82 : Int32 → Option (Int32 × Mem)) (z4 : Int32) (z5 : Int32) (c1 : Int32) (c2 : Int32) (c3 : Int32) (M : Mem)  (hK82 : ∀ (e6 : Int32), V g uX12_corners 2 rvW rmW 82 [.null, .int c1, .int c2, .int c3, .int z4, .int z5, .int e6] [] M (K82 e6)) : ∀ (n : Nat) (y6 : Int32), V g uX12_corners 2 rvW rmW 54 [.null, .int c1, .int c2, .int c3, .int z4, .int z5, .int y6] [] M (fX12_corners_L54 K82 z4 z5 M n y6) := by
  intro n
  induction n with
  | zero => intro y6; exact vNone
  | succ n ih =>
    intro y6
    rw [fX12_corners_L54]
    refine r_iload dX12_corners_54 rfl ?_
    refine r_iload dX12_corners_56 rfl ?_
    refine r_imul dX12_corners_58 ?_
    refine r_iload dX12_corners_59 rfl ?_
    refine r_iload dX12_corners_61 rfl ?_
    refine r_imul dX12_corners_63 ?_
    refine r_iload dX12_corners_64 rfl ?_
    refine r_iload dX12_corners_66 rfl ?_
    refine r_imul dX12_corners_68 ?_
    refine r_iadd dX12_corners_69 ?_
    refine r_icmp_ge dX12_corners_70 (fun h => eT h ?_) (fun h => eF h ?_)
    · exact hK82 _
    · refine r_iload dX12_corners_73 rfl ?_
      refine r_iconst ic_1 dX12_corners_75 ?_
      refine r_iadd dX12_corners_76 ?_
      refine r_bndi (fun x2 => ?_)
      refine r_istore (l' := [.null, .int c1, .int c2, .int c3, .int z4, .int z5, .int x2]) dX12_corners_77 (Nat.le_of_ble_eq_true rfl) rfl rfl ?_
      refine r_goto dX12_corners_79 ?_
      exact ih _
set_option maxHeartbeats 4000000 in
set_option maxRecDepth 100000 in
theorem vX12_corners_L44 {g : G}  (K139 : Int32 → Option (Int32 × Mem)) (z1 : Int32) (z2 : Int32) (z4 : Int32)  (M : Mem)  (hK139 : ∀ (e3 : Int32), V g uX12_corners 2 rvW rmW 139 [.null, .int z1, .int z2, .int e3, .int z4, .null, .null] [] M (K139 e3)) : ∀ (n : Nat) (y3 : Int32) (y5 : Int32), V g uX12_corners 2 rvW rmW 44 [.null, .int z1, .int z2, .int y3, .int z4, .int y5, .null] [] M (fX12_corners_L44 K139 z1 z2 z4 M n y3 y5) := by
  intro n
  induction n with
  | zero => intro y3 y5; exact vNone
  | succ n ih =>
    intro y3 y5
    rw [fX12_corners_L44]
    refine r_iload dX12_corners_44 rfl ?_
    refine r_iload_n dX12_corners_46 rfl rfl ?_
    refine r_icmp_ge dX12_corners_47 (fun h => eT h ?_) (fun h => eF h ?_)
    · exact vSub (l' := [.null, .int z1, .int z2, .int y3, .int z4, .null, .null]) ⟨Or.inl rfl, ⟨Or.inr rfl, ⟨Or.inr rfl, ⟨Or.inr rfl, ⟨Or.inr rfl, ⟨Or.inl rfl, ⟨Or.inl rfl, trivial⟩⟩⟩⟩⟩⟩⟩ (hK139 _)
    · refine r_iload dX12_corners_50 rfl ?_
      refine r_istore (l' := [.null, .int z1, .int z2, .int y3, .int z4, .int y5, .int y5]) dX12_corners_52 (Nat.le_of_ble_eq_true rfl) rfl rfl ?_
      refine vX12_corners_L54 _ _ _ _ _ _ _ (fun e3 => ?_) FU _
      · refine r_iload dX12_corners_82 rfl ?_
        refine r_iload dX12_corners_84 rfl ?_
        refine r_imul dX12_corners_86 ?_
        refine r_iload dX12_corners_87 rfl ?_
        refine r_iload dX12_corners_89 rfl ?_
        refine r_imul dX12_corners_91 ?_
        refine r_iload dX12_corners_92 rfl ?_
        refine r_iload dX12_corners_94 rfl ?_
        refine r_imul dX12_corners_96 ?_
        refine r_iadd dX12_corners_97 ?_
        refine eJ (fun (J4 : (Int32) → Option (Int32 × Mem)) => ∀ (a5 : Int32), V g uX12_corners 2 rvW rmW 133 [.null, .int z1, .int z2, .int a5, .int z4, .int y5, .null] [] M (J4 a5)) (fun a5 => ?_) (fun J4 hJ4 => ?_)
        · refine r_iinc (l' := [.null, .int z1, .int z2, .int a5, .int z4, .int (y5 + 1), .null]) dX12_corners_133 rfl (inc_1 _) (Nat.le_of_ble_eq_true rfl) rfl rfl ?_
          refine r_goto dX12_corners_136 ?_
          exact ih _ _
        · refine r_icmp_eq dX12_corners_98 (fun h => eT h ?_) (fun h => eF h ?_)
          · refine r_iload_n dX12_corners_104 rfl rfl ?_
            refine eJ (fun (J6 : Option (Int32 × Mem)) => V g uX12_corners 2 rvW rmW 129 [.null, .int z1, .int z2, .int y3, .int z4, .int y5, .null] [] M (J6)) ( ?_) (fun J6 hJ6 => ?_)
            · refine r_iload_n dX12_corners_129 rfl rfl ?_
              refine r_iconst ic_1 dX12_corners_130 ?_
              refine r_iadd dX12_corners_131 ?_
              refine r_bndi (fun x7 => ?_)
              refine r_istore_n (l' := [.null, .int z1, .int z2, .int x7, .int z4, .int y5, .null]) dX12_corners_132 rfl (Nat.le_of_ble_eq_true rfl) rfl rfl ?_
              exact hJ4 _
            · refine r_if_ne dX12_corners_105 (fun h => eF h ?_) (fun h => eT h ?_)
              · refine r_iload dX12_corners_117 rfl ?_
                refine r_iload dX12_corners_119 rfl ?_
                refine r_iadd dX12_corners_121 ?_
                refine r_iload dX12_corners_122 rfl ?_
                refine r_iadd dX12_corners_124 ?_
                refine r_iload_n dX12_corners_125 rfl rfl ?_
                refine r_icmp_ne dX12_corners_126 (fun h => eF h ?_) (fun h => eT h ?_)
                · exact vSub (l' := [.null, .int z1, .int z2, .int y3, .int z4, .int y5, .null]) ⟨Or.inl rfl, ⟨Or.inr rfl, ⟨Or.inr rfl, ⟨Or.inr rfl, ⟨Or.inr rfl, ⟨Or.inr rfl, ⟨Or.inl rfl, trivial⟩⟩⟩⟩⟩⟩⟩ (hJ4 _)
                · exact vSub (l' := [.null, .int z1, .int z2, .int y3, .int z4, .int y5, .null]) ⟨Or.inl rfl, ⟨Or.inr rfl, ⟨Or.inr rfl, ⟨Or.inr rfl, ⟨Or.inr rfl, ⟨Or.inr rfl, ⟨Or.inl rfl, trivial⟩⟩⟩⟩⟩⟩⟩ (hJ6 )
              · refine r_iload dX12_corners_108 rfl ?_
                refine r_iload_n dX12_corners_110 rfl rfl ?_
                refine r_icmp_gt dX12_corners_111 (fun h => eT h ?_) (fun h => eF h ?_)
                · exact vSub (l' := [.null, .int z1, .int z2, .int y3, .int z4, .int y5, .null]) ⟨Or.inl rfl, ⟨Or.inr rfl, ⟨Or.inr rfl, ⟨Or.inr rfl, ⟨Or.inr rfl, ⟨Or.inr rfl, ⟨Or.inl rfl, trivial⟩⟩⟩⟩⟩⟩⟩ (hJ4 _)
                · refine r_goto dX12_corners_114 ?_
                  exact vSub (l' := [.null, .int z1, .int z2, .int y3, .int z4, .int y5, .null]) ⟨Or.inl rfl, ⟨Or.inr rfl, ⟨Or.inr rfl, ⟨Or.inr rfl, ⟨Or.inr rfl, ⟨Or.inr rfl, ⟨Or.inl rfl, trivial⟩⟩⟩⟩⟩⟩⟩ (hJ6 )
          · refine r_goto dX12_corners_101 ?_
            exact vSub (l' := [.null, .int z1, .int z2, .int y3, .int z4, .int y5, .null]) ⟨Or.inl rfl, ⟨Or.inr rfl, ⟨Or.inr rfl, ⟨Or.inr rfl, ⟨Or.inr rfl, ⟨Or.inr rfl, ⟨Or.inl rfl, trivial⟩⟩⟩⟩⟩⟩⟩ (hJ4 _)
set_option maxHeartbeats 4000000 in
set_option maxRecDepth 100000 in
theorem vX12_corners_L34 {g : G}   (z1 : Int32) (z2 : Int32)  (M : Mem)   : ∀ (n : Nat) (y3 : Int32) (y4 : Int32), V g uX12_corners 2 rvW rmW 34 [.null, .int z1, .int z2, .int y3, .int y4, .null, .null] [] M (fX12_corners_L34 z1 z2 M n y3 y4) := by
  intro n
  induction n with
  | zero => intro y3 y4; exact vNone
  | succ n ih =>
    intro y3 y4
    rw [fX12_corners_L34]
    refine r_iload dX12_corners_34 rfl ?_
    refine r_iload_n dX12_corners_36 rfl rfl ?_
    refine r_icmp_ge dX12_corners_37 (fun h => eT h ?_) (fun h => eF h ?_)
    · refine r_iload_n dX12_corners_145 rfl rfl ?_
      exact vRet rfl rfl rfl dX12_corners_146
    · refine r_iload dX12_corners_40 rfl ?_
      refine r_istore (l' := [.null, .int z1, .int z2, .int y3, .int y4, .int y4, .null]) dX12_corners_42 (Nat.le_of_ble_eq_true rfl) rfl rfl ?_
      refine vX12_corners_L44 _ _ _ _ _ (fun e8 => ?_) FU _ _
      · refine r_iinc (l' := [.null, .int z1, .int z2, .int e8, .int (y4 + 1), .null, .null]) dX12_corners_139 rfl (inc_1 _) (Nat.le_of_ble_eq_true rfl) rfl rfl ?_
        refine r_goto dX12_corners_142 ?_
        exact ih _ _
set_option maxHeartbeats 4000000 in
set_option maxRecDepth 100000 in
theorem vX12_corners {g : G}   (p1 : Int32) (p2 : Int32) (M : Mem) : V g uX12_corners 2 rvW rmW 0 [.ref (ga g 198), .int p1, .int p2, .null, .null, .null, .null] [] M (fX12_corners p1 p2 M) := by
  unfold fX12_corners
  refine r_aload_n dX12_corners_0 rfl rfl ?_
  refine r_iconst ic_0 dX12_corners_1 ?_
  refine r_put dX12_corners_2 fw_X12_122 kdc_198 (fun M1 => ?_)
  refine r_aload_n dX12_corners_5 rfl rfl ?_
  refine r_iload_n dX12_corners_6 rfl rfl ?_
  refine r_iconst ic_1 dX12_corners_7 ?_
  refine r_sipush sp_200 dX12_corners_8 ?_
  refine r_calliT (cl_V [.int p1, .int 1, .int 200] bX12_isIn (by decide) dX12_corners_11 ml_X12_140 kdc_198 rfl (Nat.le_of_ble_eq_true rfl) rfl) (kX12_isIn _ _ _ _) ?_
  refine r_if_eq dX12_corners_14 (fun h => eT h ?_) (fun h => eF h ?_)
  · refine r_iconst ic_m1 dX12_corners_27 ?_
    exact vRet rfl rfl rfl dX12_corners_28
  · refine r_aload_n dX12_corners_17 rfl rfl ?_
    refine r_iload_n dX12_corners_18 rfl rfl ?_
    refine r_iconst ic_0 dX12_corners_19 ?_
    refine r_iconst ic_1 dX12_corners_20 ?_
    refine r_calliT (cl_V [.int p2, .int 0, .int 1] bX12_isIn (by decide) dX12_corners_21 ml_X12_140 kdc_198 rfl (Nat.le_of_ble_eq_true rfl) rfl) (kX12_isIn _ _ _ _) ?_
    refine r_if_ne dX12_corners_24 (fun h => eF h ?_) (fun h => eT h ?_)
    · refine r_iconst ic_0 dX12_corners_29 ?_
      refine r_istore_n (l' := [.ref (ga g 198), .int p1, .int p2, .int 0, .null, .null, .null]) dX12_corners_30 rfl (Nat.le_of_ble_eq_true rfl) rfl rfl ?_
      refine r_iconst ic_1 dX12_corners_31 ?_
      refine r_istore (l' := [.ref (ga g 198), .int p1, .int p2, .int 0, .int 1, .null, .null]) dX12_corners_32 (Nat.le_of_ble_eq_true rfl) rfl rfl ?_
      refine vSub (l' := [.null, .int p1, .int p2, .int 0, .int 1, .null, .null]) ⟨Or.inl rfl, ⟨Or.inr rfl, ⟨Or.inr rfl, ⟨Or.inr rfl, ⟨Or.inr rfl, ⟨Or.inl rfl, ⟨Or.inl rfl, trivial⟩⟩⟩⟩⟩⟩⟩ ?_
      refine vX12_corners_L34 _ _ _ FU _ _
    · refine r_iconst ic_m1 dX12_corners_27 ?_
      exact vRet rfl rfl rfl dX12_corners_28
theorem kX12_corners {g : G}   (p1 : Int32) (p2 : Int32) (M : Mem) : CtrI g uX12_corners 2 (fun r => r.1) rmW [.ref (ga g 198), .int p1, .int p2] M (fX12_corners p1 p2 M) := CtrI.of mX12_corners rfl (Nat.le_of_ble_eq_true rfl) rfl (vX12_corners p1 p2 M)
set_option maxHeartbeats 4000000 in
set_option maxRecDepth 100000 in
theorem vX5_sumOfParts_L13 {g : G}   (z0 : Int32)  (M : Mem)   : ∀ (n : Nat) (y1 : Int32) (y2 : Int32), V g uX5_sumOfParts 1 rvI (rmP M) 13 [.int z0, .int y1, .int y2] [] M (fX5_sumOfParts_L13 z0 n y1 y2) := by
  intro n
  induction n with
  | zero => intro y1 y2; exact vNone
  | succ n ih =>
    intro y1 y2
    rw [fX5_sumOfParts_L13]
    refine r_iload_n dX5_sumOfParts_13 rfl rfl ?_
    refine r_iload_n dX5_sumOfParts_14 rfl rfl ?_
    refine r_imul dX5_sumOfParts_15 ?_
    refine r_iload_n dX5_sumOfParts_16 rfl rfl ?_
    refine r_icmp_gt dX5_sumOfParts_17 (fun h => eT h ?_) (fun h => eF h ?_)
    · refine r_iload_n dX5_sumOfParts_51 rfl rfl ?_
      exact vRet rfl rfl rfl dX5_sumOfParts_52
    · refine r_iload_n dX5_sumOfParts_20 rfl rfl ?_
      refine r_iload_n dX5_sumOfParts_21 rfl rfl ?_
      refine r_iremG dX5_sumOfParts_22 ?_
      refine eJ (fun (J3 : (Int32) → Option (Int32)) => ∀ (a4 : Int32), V g uX5_sumOfParts 1 rvI (rmP M) 45 [.int z0, .int a4, .int y2] [] M (J3 a4)) (fun a4 => ?_) (fun J3 hJ3 => ?_)
      · refine r_iinc (l' := [.int z0, .int a4, .int (y2 + 1)]) dX5_sumOfParts_45 rfl (inc_1 _) (Nat.le_of_ble_eq_true rfl) rfl rfl ?_
        refine r_goto dX5_sumOfParts_48 ?_
        exact ih _ _
      · refine r_if_ne dX5_sumOfParts_23 (fun h => eF h ?_) (fun h => eT h ?_)
        · exact hJ3 _
        · refine r_iload_n dX5_sumOfParts_26 rfl rfl ?_
          refine r_iload_n dX5_sumOfParts_27 rfl rfl ?_
          refine r_iload_n dX5_sumOfParts_28 rfl rfl ?_
          refine r_imul dX5_sumOfParts_29 ?_
          refine r_iload_n dX5_sumOfParts_30 rfl rfl ?_
          refine eJ (fun (J5 : (Int32) → Option (Int32)) => ∀ (t6 : Int32), V g uX5_sumOfParts 1 rvI (rmP M) 43 [.int z0, .null, .int y2] [.int t6, .int y1] M (J5 t6)) (fun t6 => ?_) (fun J5 hJ5 => ?_)
          · refine r_iadd dX5_sumOfParts_43 ?_
            refine r_bndi (fun x7 => ?_)
            refine r_istore_n (l' := [.int z0, .int x7, .int y2]) dX5_sumOfParts_44 rfl (Nat.le_of_ble_eq_true rfl) rfl rfl ?_
            exact hJ3 _
          · refine r_icmp_ne dX5_sumOfParts_31 (fun h => eF h ?_) (fun h => eT h ?_)
            · refine r_iload_n dX5_sumOfParts_38 rfl rfl ?_
              refine r_iload_n dX5_sumOfParts_39 rfl rfl ?_
              refine r_iload_n dX5_sumOfParts_40 rfl rfl ?_
              refine r_idivG dX5_sumOfParts_41 ?_
              refine r_iadd dX5_sumOfParts_42 ?_
              exact vSub (l' := [.int z0, .null, .int y2]) ⟨Or.inr rfl, ⟨Or.inl rfl, ⟨Or.inr rfl, trivial⟩⟩⟩ (hJ5 _)
            · refine r_iload_n dX5_sumOfParts_34 rfl rfl ?_
              refine r_goto dX5_sumOfParts_35 ?_
              exact vSub (l' := [.int z0, .null, .int y2]) ⟨Or.inr rfl, ⟨Or.inl rfl, ⟨Or.inr rfl, trivial⟩⟩⟩ (hJ5 _)
set_option maxHeartbeats 4000000 in
set_option maxRecDepth 100000 in
theorem vX5_sumOfParts {g : G}   (p0 : Int32) (M : Mem) : V g uX5_sumOfParts 1 rvI (rmP M) 0 [.int p0, .null, .null] [] M (fX5_sumOfParts p0) := by
  unfold fX5_sumOfParts
  refine r_iload_n dX5_sumOfParts_0 rfl rfl ?_
  refine r_iconst ic_1 dX5_sumOfParts_1 ?_
  refine eJ (fun (J1 : (Int32) → Option (Int32)) => ∀ (t2 : Int32), V g uX5_sumOfParts 1 rvI (rmP M) 10 [.int p0, .null, .null] [.int t2] M (J1 t2)) (fun t2 => ?_) (fun J1 hJ1 => ?_)
  · refine r_istore_n (l' := [.int p0, .int t2, .null]) dX5_sumOfParts_10 rfl (Nat.le_of_ble_eq_true rfl) rfl rfl ?_
    refine r_iconst ic_2 dX5_sumOfParts_11 ?_
    refine r_istore_n (l' := [.int p0, .int t2, .int 2]) dX5_sumOfParts_12 rfl (Nat.le_of_ble_eq_true rfl) rfl rfl ?_
    refine vX5_sumOfParts_L13 _ _ FU _ _
  · refine r_icmp_le dX5_sumOfParts_2 (fun h => eT h ?_) (fun h => eF h ?_)
    · refine r_iconst ic_0 dX5_sumOfParts_9 ?_
      exact hJ1 _
    · refine r_iconst ic_1 dX5_sumOfParts_5 ?_
      refine r_goto dX5_sumOfParts_6 ?_
      exact hJ1 _
theorem kX5_sumOfParts {g : G}   (p0 : Int32) (M : Mem) : CtrI g uX5_sumOfParts 1 (fun r => r) (rmP M) [.int p0] M (fX5_sumOfParts p0) := CtrI.of mX5_sumOfParts rfl (Nat.le_of_ble_eq_true rfl) rfl (vX5_sumOfParts p0 M)
set_option maxHeartbeats 4000000 in
set_option maxRecDepth 100000 in
theorem vX5_chainOfParts_L2 {g : G}  (K24 : Mem → Option (Int32 × Mem))  (c1 : Int32) (c2 : Int32)  (hK24 : ∀ (M : Mem), V g uX5_chainOfParts 2 rvW rmW 24 [.ref (ga g 195), .int c1, .int c2, .null, .null] [] M (K24 M)) : ∀ (n : Nat) (y3 : Int32) (M : Mem), V g uX5_chainOfParts 2 rvW rmW 2 [.ref (ga g 195), .int c1, .int c2, .int y3, .null] [] M (fX5_chainOfParts_L2 K24 n y3 M) := by
  intro n
  induction n with
  | zero => intro y3 M; exact vNone
  | succ n ih =>
    intro y3 M
    rw [fX5_chainOfParts_L2]
    refine r_iload_n dX5_chainOfParts_2 rfl rfl ?_
    refine r_aload_n dX5_chainOfParts_3 rfl rfl ?_
    refine r_getR (k' := 197) dX5_chainOfParts_4 fl_X5_15 kdc_195 rfl ?_
    refine r_alen (v := 313) dX5_chainOfParts_7 kdc_197 (by decide) (by decide) (by decide) ?_
    refine r_icmp_ge dX5_chainOfParts_8 (fun h => eT h ?_) (fun h => eF h ?_)
    · exact vSub (l' := [.ref (ga g 195), .int c1, .int c2, .null, .null]) ⟨Or.inr rfl, ⟨Or.inr rfl, ⟨Or.inr rfl, ⟨Or.inl rfl, ⟨Or.inl rfl, trivial⟩⟩⟩⟩⟩ (hK24 _)
    · refine r_aload_n dX5_chainOfParts_11 rfl rfl ?_
      refine r_getR (k' := 197) dX5_chainOfParts_12 fl_X5_15 kdc_195 rfl ?_
      refine r_iload_n dX5_chainOfParts_15 rfl rfl ?_
      refine r_iconst ic_0 dX5_chainOfParts_16 ?_
      refine r_iast dX5_chainOfParts_17 kdc_197 (fun M1 => ?_)
      refine r_iinc (l' := [.ref (ga g 195), .int c1, .int c2, .int (y3 + 1), .null]) dX5_chainOfParts_18 rfl (inc_1 _) (Nat.le_of_ble_eq_true rfl) rfl rfl ?_
      refine r_goto dX5_chainOfParts_21 ?_
      exact ih _ _
set_option maxHeartbeats 4000000 in
set_option maxRecDepth 100000 in
theorem vX5_chainOfParts_L29 {g : G}  (K67 : Int32 → Int32 → Mem → Option (Int32 × Mem))  (c2 : Int32)  (hK67 : ∀ (e3 : Int32) (e4 : Int32) (M : Mem), V g uX5_chainOfParts 2 rvW rmW 67 [.null, .null, .int c2, .int e3, .int e4] [] M (K67 e3 e4 M)) : ∀ (n : Nat) (y3 : Int32) (y4 : Int32) (M : Mem), V g uX5_chainOfParts 2 rvW rmW 29 [.ref (ga g 195), .null, .int c2, .int y3, .int y4] [] M (fX5_chainOfParts_L29 K67 n y3 y4 M) := by
  intro n
  induction n with
  | zero => intro y3 y4 M; exact vNone
  | succ n ih =>
    intro y3 y4 M
    rw [fX5_chainOfParts_L29]
    refine r_iload dX5_chainOfParts_29 rfl ?_
    refine r_sipush sp_10000 dX5_chainOfParts_31 ?_
    refine r_icmp_gt dX5_chainOfParts_34 (fun h => eT h ?_) (fun h => eF h ?_)
    · refine r_iconst ic_m1 dX5_chainOfParts_106 ?_
      exact vRet rfl rfl rfl dX5_chainOfParts_107
    · refine r_iload_n dX5_chainOfParts_37 rfl rfl ?_
      refine r_if_le dX5_chainOfParts_38 (fun h => eT h ?_) (fun h => eF h ?_)
      · exact vSub (l' := [.null, .null, .int c2, .int y3, .int y4]) ⟨Or.inl rfl, ⟨Or.inl rfl, ⟨Or.inr rfl, ⟨Or.inr rfl, ⟨Or.inr rfl, trivial⟩⟩⟩⟩⟩ (hK67 _ _ _)
      · refine r_iload_n dX5_chainOfParts_41 rfl rfl ?_
        refine r_sipush sp_9999 dX5_chainOfParts_42 ?_
        refine r_icmp_gt dX5_chainOfParts_45 (fun h => eT h ?_) (fun h => eF h ?_)
        · exact vSub (l' := [.null, .null, .int c2, .int y3, .int y4]) ⟨Or.inl rfl, ⟨Or.inl rfl, ⟨Or.inr rfl, ⟨Or.inr rfl, ⟨Or.inr rfl, trivial⟩⟩⟩⟩⟩ (hK67 _ _ _)
        · refine r_aload_n dX5_chainOfParts_48 rfl rfl ?_
          refine r_getR (k' := 197) dX5_chainOfParts_49 fl_X5_15 kdc_195 rfl ?_
          refine r_iload_n dX5_chainOfParts_52 rfl rfl ?_
          refine r_iconst ic_5 dX5_chainOfParts_53 ?_
          refine r_ishr dX5_chainOfParts_54 ?_
          refine r_iald dX5_chainOfParts_55 kdc_197 (fun v3 => ?_)
          refine r_iload_n dX5_chainOfParts_56 rfl rfl ?_
          refine r_bipush bp_31 dX5_chainOfParts_57 ?_
          refine r_iand dX5_chainOfParts_59 ?_
          refine r_ishr dX5_chainOfParts_60 ?_
          refine r_iconst ic_1 dX5_chainOfParts_61 ?_
          refine r_iand dX5_chainOfParts_62 ?_
          refine r_iconst ic_1 dX5_chainOfParts_63 ?_
          refine r_icmp_ne dX5_chainOfParts_64 (fun h => eF h ?_) (fun h => eT h ?_)
          · refine r_aload_n dX5_chainOfParts_78 rfl rfl ?_
            refine r_getR (k' := 197) dX5_chainOfParts_79 fl_X5_15 kdc_195 rfl ?_
            refine r_iload_n dX5_chainOfParts_82 rfl rfl ?_
            refine r_iconst ic_5 dX5_chainOfParts_83 ?_
            refine r_ishr dX5_chainOfParts_84 ?_
            refine r_dup2 dX5_chainOfParts_85 rfl rfl ?_
            refine r_iald dX5_chainOfParts_86 kdc_197 (fun v4 => ?_)
            refine r_iconst ic_1 dX5_chainOfParts_87 ?_
            refine r_iload_n dX5_chainOfParts_88 rfl rfl ?_
            refine r_bipush bp_31 dX5_chainOfParts_89 ?_
            refine r_iand dX5_chainOfParts_91 ?_
            refine r_ishl dX5_chainOfParts_92 ?_
            refine r_ior dX5_chainOfParts_93 ?_
            refine r_iast dX5_chainOfParts_94 kdc_197 (fun M5 => ?_)
            refine r_iload_n dX5_chainOfParts_95 rfl rfl ?_
            refine r_calli (cl_S [.int y3] bX5_sumOfParts (by decide) dX5_chainOfParts_96 ml_X5_23 rfl (Nat.le_of_ble_eq_true rfl) rfl) (kX5_sumOfParts _ _) (fun v6 _ => ?_)
            refine r_istore_n (l' := [.ref (ga g 195), .null, .int c2, .int v6, .int y4]) dX5_chainOfParts_99 rfl (Nat.le_of_ble_eq_true rfl) rfl rfl ?_
            refine r_iinc (l' := [.ref (ga g 195), .null, .int c2, .int v6, .int (y4 + 1)]) dX5_chainOfParts_100 rfl (inc_1 _) (Nat.le_of_ble_eq_true rfl) rfl rfl ?_
            refine r_goto dX5_chainOfParts_103 ?_
            exact ih _ _ _
          · exact vSub (l' := [.null, .null, .int c2, .int y3, .int y4]) ⟨Or.inl rfl, ⟨Or.inl rfl, ⟨Or.inr rfl, ⟨Or.inr rfl, ⟨Or.inr rfl, trivial⟩⟩⟩⟩⟩ (hK67 _ _ _)
set_option maxHeartbeats 4000000 in
set_option maxRecDepth 100000 in
theorem vX5_chainOfParts {g : G}   (p1 : Int32) (p2 : Int32) (M : Mem) : V g uX5_chainOfParts 2 rvW rmW 0 [.ref (ga g 195), .int p1, .int p2, .null, .null] [] M (fX5_chainOfParts p1 p2 M) := by
  unfold fX5_chainOfParts
  refine r_iconst ic_0 dX5_chainOfParts_0 ?_
  refine r_istore_n (l' := [.ref (ga g 195), .int p1, .int p2, .int 0, .null]) dX5_chainOfParts_1 rfl (Nat.le_of_ble_eq_true rfl) rfl rfl ?_
  refine vX5_chainOfParts_L2 _ _ _ (fun M2 => ?_) FU _ _
  · refine r_iload_n dX5_chainOfParts_24 rfl rfl ?_
    refine r_istore_n (l' := [.ref (ga g 195), .int p1, .int p2, .int p1, .null]) dX5_chainOfParts_25 rfl (Nat.le_of_ble_eq_true rfl) rfl rfl ?_
    refine r_iconst ic_0 dX5_chainOfParts_26 ?_
    refine r_istore (l' := [.ref (ga g 195), .int p1, .int p2, .int p1, .int 0]) dX5_chainOfParts_27 (Nat.le_of_ble_eq_true rfl) rfl rfl ?_
    refine vSub (l' := [.ref (ga g 195), .null, .int p2, .int p1, .int 0]) ⟨Or.inr rfl, ⟨Or.inl rfl, ⟨Or.inr rfl, ⟨Or.inr rfl, ⟨Or.inr rfl, trivial⟩⟩⟩⟩⟩ ?_
    refine vX5_chainOfParts_L29 _ _ (fun e7 e8 M9 => ?_) FU _ _ _
    · refine r_iload_n dX5_chainOfParts_67 rfl rfl ?_
      refine r_if_eq dX5_chainOfParts_68 (fun h => eT h ?_) (fun h => eF h ?_)
      · refine r_iload_n dX5_chainOfParts_76 rfl rfl ?_
        exact vRet rfl rfl rfl dX5_chainOfParts_77
      · refine r_iload dX5_chainOfParts_71 rfl ?_
        refine r_goto dX5_chainOfParts_73 ?_
        exact vRet rfl rfl rfl dX5_chainOfParts_77
theorem kX5_chainOfParts {g : G}   (p1 : Int32) (p2 : Int32) (M : Mem) : CtrI g uX5_chainOfParts 2 (fun r => r.1) rmW [.ref (ga g 195), .int p1, .int p2] M (fX5_chainOfParts p1 p2 M) := CtrI.of mX5_chainOfParts rfl (Nat.le_of_ble_eq_true rfl) rfl (vX5_chainOfParts p1 p2 M)
set_option maxHeartbeats 4000000 in
set_option maxRecDepth 100000 in
theorem vX11_parts {g : G}   (p1 : Int32) (p2 : Int32) (M : Mem) : V g uX11_parts 3 rvW rmW 0 [.ref (ga g 0), .int p1, .int p2] [] M (fX11_parts p1 p2 M) := by
  unfold fX11_parts
  refine r_iload_n dX11_parts_0 rfl rfl ?_
  refine r_iconst ic_1 dX11_parts_1 ?_
  refine r_sipush sp_999 dX11_parts_2 ?_
  refine r_calliT (cl_S [.int p1, .int 1, .int 999] bX11_isWithin (by decide) dX11_parts_5 ml_X11_71 rfl (Nat.le_of_ble_eq_true rfl) rfl) (kX11_isWithin _ _ _ _) ?_
  refine r_if_eq dX11_parts_8 (fun h => eT h ?_) (fun h => eF h ?_)
  · refine r_iconst ic_m1 dX11_parts_20 ?_
    exact vRet rfl rfl rfl dX11_parts_21
  · refine r_iload_n dX11_parts_11 rfl rfl ?_
    refine r_iconst ic_0 dX11_parts_12 ?_
    refine r_iconst ic_1 dX11_parts_13 ?_
    refine r_calliT (cl_S [.int p2, .int 0, .int 1] bX11_isWithin (by decide) dX11_parts_14 ml_X11_71 rfl (Nat.le_of_ble_eq_true rfl) rfl) (kX11_isWithin _ _ _ _) ?_
    refine r_if_ne dX11_parts_17 (fun h => eF h ?_) (fun h => eT h ?_)
    · refine r_aload_n dX11_parts_22 rfl rfl ?_
      refine r_getR (k' := 195) dX11_parts_23 fl_X11_57 kdc_0 rfl ?_
      refine r_iload_n dX11_parts_26 rfl rfl ?_
      refine r_iload_n dX11_parts_27 rfl rfl ?_
      refine eJ (fun (J1 : (Int32) → Option (Int32 × Mem)) => ∀ (t2 : Int32), V g uX11_parts 3 rvW rmW 36 [.null, .null, .null] [.int t2, .int p1, .ref (ga g 195)] M (J1 t2)) (fun t2 => ?_) (fun J1 hJ1 => ?_)
      · refine r_calli (cl_V [.int p1, .int t2] bX5_chainOfParts (by decide) dX11_parts_36 ml_X11_296 kdc_195 rfl (Nat.le_of_ble_eq_true rfl) rfl) (kX5_chainOfParts _ _ _) (fun r3 _ => ?_)
        exact vRet rfl rfl rfl dX11_parts_39
      · refine r_if_ne dX11_parts_28 (fun h => eF h ?_) (fun h => eT h ?_)
        · refine r_iconst ic_0 dX11_parts_35 ?_
          exact vSub (l' := [.null, .null, .null]) ⟨Or.inl rfl, ⟨Or.inl rfl, ⟨Or.inl rfl, trivial⟩⟩⟩ (hJ1 _)
        · refine r_iconst ic_1 dX11_parts_31 ?_
          refine r_goto dX11_parts_32 ?_
          exact vSub (l' := [.null, .null, .null]) ⟨Or.inl rfl, ⟨Or.inl rfl, ⟨Or.inl rfl, trivial⟩⟩⟩ (hJ1 _)
    · refine r_iconst ic_m1 dX11_parts_20 ?_
      exact vRet rfl rfl rfl dX11_parts_21
theorem kX11_parts {g : G}   (p1 : Int32) (p2 : Int32) (M : Mem) : CtrI g uX11_parts 3 (fun r => r.1) rmW [.ref (ga g 0), .int p1, .int p2] M (fX11_parts p1 p2 M) := CtrI.of mX11_parts rfl (Nat.le_of_ble_eq_true rfl) rfl (vX11_parts p1 p2 M)
set_option maxHeartbeats 4000000 in
set_option maxRecDepth 100000 in
theorem vX12_partsTogether_L4 {g : G}   (z1 : Int32)  (M : Mem)   : ∀ (n : Nat) (y2 : Int32) (y3 : Int32), V g uX12_partsTogether 1 rvI (rmP M) 4 [.null, .int z1, .int y2, .int y3] [] M (fX12_partsTogether_L4 z1 n y2 y3) := by
  intro n
  induction n with
  | zero => intro y2 y3; exact vNone
  | succ n ih =>
    intro y2 y3
    rw [fX12_partsTogether_L4]
    refine r_iconst ic_2 dX12_partsTogether_4 ?_
    refine r_iload_n dX12_partsTogether_5 rfl rfl ?_
    refine r_imul dX12_partsTogether_6 ?_
    refine r_iload_n dX12_partsTogether_7 rfl rfl ?_
    refine r_icmp_gt dX12_partsTogether_8 (fun h => eT h ?_) (fun h => eF h ?_)
    · refine r_iload_n dX12_partsTogether_27 rfl rfl ?_
      exact vRet rfl rfl rfl dX12_partsTogether_28
    · refine r_iload_n dX12_partsTogether_11 rfl rfl ?_
      refine r_iload_n dX12_partsTogether_12 rfl rfl ?_
      refine r_iremG dX12_partsTogether_13 ?_
      refine eJ (fun (J1 : (Int32) → Option (Int32)) => ∀ (a2 : Int32), V g uX12_partsTogether 1 rvI (rmP M) 21 [.null, .int z1, .int a2, .int y3] [] M (J1 a2)) (fun a2 => ?_) (fun J1 hJ1 => ?_)
      · refine r_iinc (l' := [.null, .int z1, .int a2, .int (y3 + 1)]) dX12_partsTogether_21 rfl (inc_1 _) (Nat.le_of_ble_eq_true rfl) rfl rfl ?_
        refine r_goto dX12_partsTogether_24 ?_
        exact ih _ _
      · refine r_if_ne dX12_partsTogether_14 (fun h => eF h ?_) (fun h => eT h ?_)
        · exact hJ1 _
        · refine r_iload_n dX12_partsTogether_17 rfl rfl ?_
          refine r_iload_n dX12_partsTogether_18 rfl rfl ?_
          refine r_iadd dX12_partsTogether_19 ?_
          refine r_bndi (fun x3 => ?_)
          refine r_istore_n (l' := [.null, .int z1, .int x3, .int y3]) dX12_partsTogether_20 rfl (Nat.le_of_ble_eq_true rfl) rfl rfl ?_
          exact hJ1 _
set_option maxHeartbeats 4000000 in
set_option maxRecDepth 100000 in
theorem vX12_partsTogether {g : G}   (p1 : Int32) (M : Mem) : V g uX12_partsTogether 1 rvI (rmP M) 0 [.ref (ga g 198), .int p1, .null, .null] [] M (fX12_partsTogether p1) := by
  unfold fX12_partsTogether
  refine r_iconst ic_0 dX12_partsTogether_0 ?_
  refine r_istore_n (l' := [.ref (ga g 198), .int p1, .int 0, .null]) dX12_partsTogether_1 rfl (Nat.le_of_ble_eq_true rfl) rfl rfl ?_
  refine r_iconst ic_1 dX12_partsTogether_2 ?_
  refine r_istore_n (l' := [.ref (ga g 198), .int p1, .int 0, .int 1]) dX12_partsTogether_3 rfl (Nat.le_of_ble_eq_true rfl) rfl rfl ?_
  refine vSub (l' := [.null, .int p1, .int 0, .int 1]) ⟨Or.inl rfl, ⟨Or.inr rfl, ⟨Or.inr rfl, ⟨Or.inr rfl, trivial⟩⟩⟩⟩ ?_
  refine vX12_partsTogether_L4 _ _ FU _ _
theorem kX12_partsTogether {g : G}   (p1 : Int32) (M : Mem) : CtrI g uX12_partsTogether 1 (fun r => r) (rmP M) [.ref (ga g 198), .int p1] M (fX12_partsTogether p1) := CtrI.of mX12_partsTogether rfl (Nat.le_of_ble_eq_true rfl) rfl (vX12_partsTogether p1 M)
set_option maxHeartbeats 4000000 in
set_option maxRecDepth 100000 in
theorem vX12_parts_L31 {g : G}  (K51 : Mem → Option (Int32 × Mem))  (c1 : Int32) (c2 : Int32)  (hK51 : ∀ (M : Mem), V g uX12_parts 2 rvW rmW 51 [.ref (ga g 198), .int c1, .int c2, .null, .null] [] M (K51 M)) : ∀ (n : Nat) (y3 : Int32) (M : Mem), V g uX12_parts 2 rvW rmW 31 [.ref (ga g 198), .int c1, .int c2, .int y3, .null] [] M (fX12_parts_L31 K51 n y3 M) := by
  intro n
  induction n with
  | zero => intro y3 M; exact vNone
  | succ n ih =>
    intro y3 M
    rw [fX12_parts_L31]
    refine r_iload_n dX12_parts_31 rfl rfl ?_
    refine r_sipush sp_10000 dX12_parts_32 ?_
    refine r_icmp_ge dX12_parts_35 (fun h => eT h ?_) (fun h => eF h ?_)
    · exact vSub (l' := [.ref (ga g 198), .int c1, .int c2, .null, .null]) ⟨Or.inr rfl, ⟨Or.inr rfl, ⟨Or.inr rfl, ⟨Or.inl rfl, ⟨Or.inl rfl, trivial⟩⟩⟩⟩⟩ (hK51 _)
    · refine r_aload_n dX12_parts_38 rfl rfl ?_
      refine r_getR (k' := 224) dX12_parts_39 fl_X12_89 kdc_198 rfl ?_
      refine r_iload_n dX12_parts_42 rfl rfl ?_
      refine r_iconst ic_0 dX12_parts_43 ?_
      refine r_iast dX12_parts_44 kdc_224 (fun M2 => ?_)
      refine r_iinc (l' := [.ref (ga g 198), .int c1, .int c2, .int (y3 + 1), .null]) dX12_parts_45 rfl (inc_1 _) (Nat.le_of_ble_eq_true rfl) rfl rfl ?_
      refine r_goto dX12_parts_48 ?_
      exact ih _ _
set_option maxHeartbeats 4000000 in
set_option maxRecDepth 100000 in
theorem vX12_parts_L56 {g : G}  (K99 : Int32 → Int32 → Mem → Option (Int32 × Mem))  (c2 : Int32)  (hK99 : ∀ (e3 : Int32) (e4 : Int32) (M : Mem), V g uX12_parts 2 rvW rmW 99 [.null, .null, .int c2, .int e3, .int e4] [] M (K99 e3 e4 M)) : ∀ (n : Nat) (y3 : Int32) (y4 : Int32) (M : Mem), V g uX12_parts 2 rvW rmW 56 [.ref (ga g 198), .null, .int c2, .int y3, .int y4] [] M (fX12_parts_L56 K99 n y3 y4 M) := by
  intro n
  induction n with
  | zero => intro y3 y4 M; exact vNone
  | succ n ih =>
    intro y3 y4 M
    rw [fX12_parts_L56]
    refine r_aload_n dX12_parts_56 rfl rfl ?_
    refine r_iload_n dX12_parts_57 rfl rfl ?_
    refine r_iconst ic_1 dX12_parts_58 ?_
    refine r_sipush sp_9999 dX12_parts_59 ?_
    refine r_calliT (cl_V [.int y3, .int 1, .int 9999] bX12_isIn (by decide) dX12_parts_62 ml_X12_140 kdc_198 rfl (Nat.le_of_ble_eq_true rfl) rfl) (kX12_isIn _ _ _ _) ?_
    refine r_if_eq dX12_parts_65 (fun h => eT h ?_) (fun h => eF h ?_)
    · exact vSub (l' := [.null, .null, .int c2, .int y3, .int y4]) ⟨Or.inl rfl, ⟨Or.inl rfl, ⟨Or.inr rfl, ⟨Or.inr rfl, ⟨Or.inr rfl, trivial⟩⟩⟩⟩⟩ (hK99 _ _ _)
    · refine r_aload_n dX12_parts_68 rfl rfl ?_
      refine r_getR (k' := 224) dX12_parts_69 fl_X12_89 kdc_198 rfl ?_
      refine r_iload_n dX12_parts_72 rfl rfl ?_
      refine r_iald dX12_parts_73 kdc_224 (fun v4 => ?_)
      refine r_if_ne dX12_parts_74 (fun h => eF h ?_) (fun h => eT h ?_)
      · exact vSub (l' := [.null, .null, .int c2, .int y3, .int y4]) ⟨Or.inl rfl, ⟨Or.inl rfl, ⟨Or.inr rfl, ⟨Or.inr rfl, ⟨Or.inr rfl, trivial⟩⟩⟩⟩⟩ (hK99 _ _ _)
      · refine r_aload_n dX12_parts_77 rfl rfl ?_
        refine r_getR (k' := 224) dX12_parts_78 fl_X12_89 kdc_198 rfl ?_
        refine r_iload_n dX12_parts_81 rfl rfl ?_
        refine r_iconst ic_1 dX12_parts_82 ?_
        refine r_iast dX12_parts_83 kdc_224 (fun M5 => ?_)
        refine r_aload_n dX12_parts_84 rfl rfl ?_
        refine r_iload_n dX12_parts_85 rfl rfl ?_
        refine r_calli (cl_V [.int y3] bX12_partsTogether (by decide) dX12_parts_86 ml_X12_404 kdc_198 rfl (Nat.le_of_ble_eq_true rfl) rfl) (kX12_partsTogether _ _) (fun v6 _ => ?_)
        refine r_istore_n (l' := [.ref (ga g 198), .null, .int c2, .int v6, .int y4]) dX12_parts_89 rfl (Nat.le_of_ble_eq_true rfl) rfl rfl ?_
        refine r_iload dX12_parts_90 rfl ?_
        refine r_iconst ic_1 dX12_parts_92 ?_
        refine r_iadd dX12_parts_93 ?_
        refine r_bndi (fun x7 => ?_)
        refine r_istore (l' := [.ref (ga g 198), .null, .int c2, .int v6, .int x7]) dX12_parts_94 (Nat.le_of_ble_eq_true rfl) rfl rfl ?_
        refine r_goto dX12_parts_96 ?_
        exact ih _ _ _
set_option maxHeartbeats 4000000 in
set_option maxRecDepth 100000 in
theorem vX12_parts {g : G}   (p1 : Int32) (p2 : Int32) (M : Mem) : V g uX12_parts 2 rvW rmW 0 [.ref (ga g 198), .int p1, .int p2, .null, .null] [] M (fX12_parts p1 p2 M) := by
  unfold fX12_parts
  refine r_aload_n dX12_parts_0 rfl rfl ?_
  refine r_iconst ic_0 dX12_parts_1 ?_
  refine r_put dX12_parts_2 fw_X12_122 kdc_198 (fun M1 => ?_)
  refine r_aload_n dX12_parts_5 rfl rfl ?_
  refine r_iload_n dX12_parts_6 rfl rfl ?_
  refine r_iconst ic_1 dX12_parts_7 ?_
  refine r_sipush sp_999 dX12_parts_8 ?_
  refine r_calliT (cl_V [.int p1, .int 1, .int 999] bX12_isIn (by decide) dX12_parts_11 ml_X12_140 kdc_198 rfl (Nat.le_of_ble_eq_true rfl) rfl) (kX12_isIn _ _ _ _) ?_
  refine r_if_eq dX12_parts_14 (fun h => eT h ?_) (fun h => eF h ?_)
  · refine r_iconst ic_m1 dX12_parts_27 ?_
    exact vRet rfl rfl rfl dX12_parts_28
  · refine r_aload_n dX12_parts_17 rfl rfl ?_
    refine r_iload_n dX12_parts_18 rfl rfl ?_
    refine r_iconst ic_0 dX12_parts_19 ?_
    refine r_iconst ic_1 dX12_parts_20 ?_
    refine r_calliT (cl_V [.int p2, .int 0, .int 1] bX12_isIn (by decide) dX12_parts_21 ml_X12_140 kdc_198 rfl (Nat.le_of_ble_eq_true rfl) rfl) (kX12_isIn _ _ _ _) ?_
    refine r_if_ne dX12_parts_24 (fun h => eF h ?_) (fun h => eT h ?_)
    · refine r_iconst ic_0 dX12_parts_29 ?_
      refine r_istore_n (l' := [.ref (ga g 198), .int p1, .int p2, .int 0, .null]) dX12_parts_30 rfl (Nat.le_of_ble_eq_true rfl) rfl rfl ?_
      refine vX12_parts_L31 _ _ _ (fun M3 => ?_) FU _ _
      · refine r_iload_n dX12_parts_51 rfl rfl ?_
        refine r_istore_n (l' := [.ref (ga g 198), .int p1, .int p2, .int p1, .null]) dX12_parts_52 rfl (Nat.le_of_ble_eq_true rfl) rfl rfl ?_
        refine r_iconst ic_0 dX12_parts_53 ?_
        refine r_istore (l' := [.ref (ga g 198), .int p1, .int p2, .int p1, .int 0]) dX12_parts_54 (Nat.le_of_ble_eq_true rfl) rfl rfl ?_
        refine vSub (l' := [.ref (ga g 198), .null, .int p2, .int p1, .int 0]) ⟨Or.inr rfl, ⟨Or.inl rfl, ⟨Or.inr rfl, ⟨Or.inr rfl, ⟨Or.inr rfl, trivial⟩⟩⟩⟩⟩ ?_
        refine vX12_parts_L56 _ _ (fun e8 e9 M10 => ?_) FU _ _ _
        · refine r_iload_n dX12_parts_99 rfl rfl ?_
          refine r_if_ne dX12_parts_100 (fun h => eF h ?_) (fun h => eT h ?_)
          · refine r_iload_n dX12_parts_108 rfl rfl ?_
            exact vRet rfl rfl rfl dX12_parts_109
          · refine r_iload dX12_parts_103 rfl ?_
            refine r_goto dX12_parts_105 ?_
            exact vRet rfl rfl rfl dX12_parts_109
    · refine r_iconst ic_m1 dX12_parts_27 ?_
      exact vRet rfl rfl rfl dX12_parts_28
theorem kX12_parts {g : G}   (p1 : Int32) (p2 : Int32) (M : Mem) : CtrI g uX12_parts 2 (fun r => r.1) rmW [.ref (ga g 198), .int p1, .int p2] M (fX12_parts p1 p2 M) := CtrI.of mX12_parts rfl (Nat.le_of_ble_eq_true rfl) rfl (vX12_parts p1 p2 M)
set_option maxHeartbeats 4000000 in
set_option maxRecDepth 100000 in
theorem vX5_ofDigits_L12 {g : G}   (z1 : Int32)  (M : Mem)   : ∀ (n : Nat) (y2 : Int32) (y3 : Int32), V g uX5_ofDigits 1 rvI (rmP M) 12 [.null, .int z1, .int y2, .int y3] [] M (fX5_ofDigits_L12 z1 n y2 y3) := by
  intro n
  induction n with
  | zero => intro y2 y3; exact vNone
  | succ n ih =>
    intro y2 y3
    rw [fX5_ofDigits_L12]
    refine r_iload_n dX5_ofDigits_12 rfl rfl ?_
    refine r_if_le dX5_ofDigits_13 (fun h => eT h ?_) (fun h => eF h ?_)
    · refine r_iload_n dX5_ofDigits_44 rfl rfl ?_
      exact vRet rfl rfl rfl dX5_ofDigits_45
    · refine r_iload_n dX5_ofDigits_16 rfl rfl ?_
      refine eJ (fun (J3 : (Int32) → Option (Int32)) => ∀ (t4 : Int32), V g uX5_ofDigits 1 rvI (rmP M) 35 [.null, .int z1, .null, .int y3] [.int t4] M (J3 t4)) (fun t4 => ?_) (fun J3 hJ3 => ?_)
      · refine r_istore_n (l' := [.null, .int z1, .int t4, .int y3]) dX5_ofDigits_35 rfl (Nat.le_of_ble_eq_true rfl) rfl rfl ?_
        refine r_iload_n dX5_ofDigits_36 rfl rfl ?_
        refine r_bipush bp_10 dX5_ofDigits_37 ?_
        refine r_idiv dX5_ofDigits_39 (by decide) ?_
        refine r_bndi (fun x5 => ?_)
        refine r_istore_n (l' := [.null, .int z1, .int t4, .int x5]) dX5_ofDigits_40 rfl (Nat.le_of_ble_eq_true rfl) rfl rfl ?_
        refine r_goto dX5_ofDigits_41 ?_
        exact ih _ _
      · refine r_if_eq dX5_ofDigits_17 (fun h => eT h ?_) (fun h => eF h ?_)
        · refine r_iload_n dX5_ofDigits_29 rfl rfl ?_
          refine r_iload_n dX5_ofDigits_30 rfl rfl ?_
          refine r_bipush bp_10 dX5_ofDigits_31 ?_
          refine r_irem dX5_ofDigits_33 (by decide) ?_
          refine r_iadd dX5_ofDigits_34 ?_
          exact vSub (l' := [.null, .int z1, .null, .int y3]) ⟨Or.inl rfl, ⟨Or.inr rfl, ⟨Or.inl rfl, ⟨Or.inr rfl, trivial⟩⟩⟩⟩ (hJ3 _)
        · refine r_iload_n dX5_ofDigits_20 rfl rfl ?_
          refine r_iload_n dX5_ofDigits_21 rfl rfl ?_
          refine r_bipush bp_10 dX5_ofDigits_22 ?_
          refine r_irem dX5_ofDigits_24 (by decide) ?_
          refine r_imul dX5_ofDigits_25 ?_
          refine r_goto dX5_ofDigits_26 ?_
          exact vSub (l' := [.null, .int z1, .null, .int y3]) ⟨Or.inl rfl, ⟨Or.inr rfl, ⟨Or.inl rfl, ⟨Or.inr rfl, trivial⟩⟩⟩⟩ (hJ3 _)
set_option maxHeartbeats 4000000 in
set_option maxRecDepth 100000 in
theorem vX5_ofDigits {g : G}   (p0 : Int32) (p1 : Int32) (M : Mem) : V g uX5_ofDigits 1 rvI (rmP M) 0 [.int p0, .int p1, .null, .null] [] M (fX5_ofDigits p0 p1) := by
  unfold fX5_ofDigits
  refine r_iload_n dX5_ofDigits_0 rfl rfl ?_
  refine eJ (fun (J1 : (Int32) → Option (Int32)) => ∀ (t2 : Int32), V g uX5_ofDigits 1 rvI (rmP M) 9 [.int p0, .int p1, .null, .null] [.int t2] M (J1 t2)) (fun t2 => ?_) (fun J1 hJ1 => ?_)
  · refine r_istore_n (l' := [.int p0, .int p1, .int t2, .null]) dX5_ofDigits_9 rfl (Nat.le_of_ble_eq_true rfl) rfl rfl ?_
    refine r_iload_n dX5_ofDigits_10 rfl rfl ?_
    refine r_istore_n (l' := [.int p0, .int p1, .int t2, .int p0]) dX5_ofDigits_11 rfl (Nat.le_of_ble_eq_true rfl) rfl rfl ?_
    refine vSub (l' := [.null, .int p1, .int t2, .int p0]) ⟨Or.inl rfl, ⟨Or.inr rfl, ⟨Or.inr rfl, ⟨Or.inr rfl, trivial⟩⟩⟩⟩ ?_
    refine vX5_ofDigits_L12 _ _ FU _ _
  · refine r_if_eq dX5_ofDigits_1 (fun h => eT h ?_) (fun h => eF h ?_)
    · refine r_iconst ic_0 dX5_ofDigits_8 ?_
      exact hJ1 _
    · refine r_iconst ic_1 dX5_ofDigits_4 ?_
      refine r_goto dX5_ofDigits_5 ?_
      exact hJ1 _
theorem kX5_ofDigits {g : G}   (p0 : Int32) (p1 : Int32) (M : Mem) : CtrI g uX5_ofDigits 1 (fun r => r) (rmP M) [.int p0, .int p1] M (fX5_ofDigits p0 p1) := CtrI.of mX5_ofDigits rfl (Nat.le_of_ble_eq_true rfl) rfl (vX5_ofDigits p0 p1 M)
set_option maxHeartbeats 4000000 in
set_option maxRecDepth 100000 in
theorem vX5_lasting_L5 {g : G}  (K31 : Int32 → Int32 → Option (Int32)) (z1 : Int32) (c2 : Int32) (M : Mem)  (hK31 : ∀ (e3 : Int32) (e4 : Int32), V g uX5_lasting 2 rvI (rmP M) 31 [.null, .null, .int c2, .int e3, .int e4] [] M (K31 e3 e4)) : ∀ (n : Nat) (y3 : Int32) (y4 : Int32), V g uX5_lasting 2 rvI (rmP M) 5 [.null, .int z1, .int c2, .int y3, .int y4] [] M (fX5_lasting_L5 K31 z1 n y3 y4) := by
  intro n
  induction n with
  | zero => intro y3 y4; exact vNone
  | succ n ih =>
    intro y3 y4
    rw [fX5_lasting_L5]
    refine r_iload_n dX5_lasting_5 rfl rfl ?_
    refine r_bipush bp_9 dX5_lasting_6 ?_
    refine r_icmp_le dX5_lasting_8 (fun h => eT h ?_) (fun h => eF h ?_)
    · exact vSub (l' := [.null, .null, .int c2, .int y3, .int y4]) ⟨Or.inl rfl, ⟨Or.inl rfl, ⟨Or.inr rfl, ⟨Or.inr rfl, ⟨Or.inr rfl, trivial⟩⟩⟩⟩⟩ (hK31 _ _)
    · refine r_iload dX5_lasting_11 rfl ?_
      refine r_sipush sp_1000 dX5_lasting_13 ?_
      refine r_icmp_ge dX5_lasting_16 (fun h => eT h ?_) (fun h => eF h ?_)
      · exact vSub (l' := [.null, .null, .int c2, .int y3, .int y4]) ⟨Or.inl rfl, ⟨Or.inl rfl, ⟨Or.inr rfl, ⟨Or.inr rfl, ⟨Or.inr rfl, trivial⟩⟩⟩⟩⟩ (hK31 _ _)
      · refine r_iload_n dX5_lasting_19 rfl rfl ?_
        refine r_iload_n dX5_lasting_20 rfl rfl ?_
        refine r_calli (cl_S [.int y3, .int z1] bX5_ofDigits (by decide) dX5_lasting_21 ml_X5_27 rfl (Nat.le_of_ble_eq_true rfl) rfl) (kX5_ofDigits _ _ _) (fun v1 _ => ?_)
        refine r_istore_n (l' := [.null, .int z1, .int c2, .int v1, .int y4]) dX5_lasting_24 rfl (Nat.le_of_ble_eq_true rfl) rfl rfl ?_
        refine r_iinc (l' := [.null, .int z1, .int c2, .int v1, .int (y4 + 1)]) dX5_lasting_25 rfl (inc_1 _) (Nat.le_of_ble_eq_true rfl) rfl rfl ?_
        refine r_goto dX5_lasting_28 ?_
        exact ih _ _
set_option maxHeartbeats 4000000 in
set_option maxRecDepth 100000 in
theorem vX5_lasting {g : G}   (p0 : Int32) (p1 : Int32) (p2 : Int32) (M : Mem) : V g uX5_lasting 2 rvI (rmP M) 0 [.int p0, .int p1, .int p2, .null, .null] [] M (fX5_lasting p0 p1 p2) := by
  unfold fX5_lasting
  refine r_iload_n dX5_lasting_0 rfl rfl ?_
  refine r_istore_n (l' := [.int p0, .int p1, .int p2, .int p0, .null]) dX5_lasting_1 rfl (Nat.le_of_ble_eq_true rfl) rfl rfl ?_
  refine r_iconst ic_0 dX5_lasting_2 ?_
  refine r_istore (l' := [.int p0, .int p1, .int p2, .int p0, .int 0]) dX5_lasting_3 (Nat.le_of_ble_eq_true rfl) rfl rfl ?_
  refine vSub (l' := [.null, .int p1, .int p2, .int p0, .int 0]) ⟨Or.inl rfl, ⟨Or.inr rfl, ⟨Or.inr rfl, ⟨Or.inr rfl, ⟨Or.inr rfl, trivial⟩⟩⟩⟩⟩ ?_
  refine vX5_lasting_L5 _ _ _ _ (fun e2 e3 => ?_) FU _ _
  · refine r_iload_n dX5_lasting_31 rfl rfl ?_
    refine r_if_eq dX5_lasting_32 (fun h => eT h ?_) (fun h => eF h ?_)
    · refine r_iload_n dX5_lasting_40 rfl rfl ?_
      exact vRet rfl rfl rfl dX5_lasting_41
    · refine r_iload dX5_lasting_35 rfl ?_
      refine r_goto dX5_lasting_37 ?_
      exact vRet rfl rfl rfl dX5_lasting_41
theorem kX5_lasting {g : G}   (p0 : Int32) (p1 : Int32) (p2 : Int32) (M : Mem) : CtrI g uX5_lasting 2 (fun r => r) (rmP M) [.int p0, .int p1, .int p2] M (fX5_lasting p0 p1 p2) := CtrI.of mX5_lasting rfl (Nat.le_of_ble_eq_true rfl) rfl (vX5_lasting p0 p1 p2 M)
set_option maxHeartbeats 4000000 in
set_option maxRecDepth 100000 in
theorem vX11_lasts {g : G}   (p1 : Int32) (p2 : Int32) (M : Mem) : V g uX11_lasts 3 rvI (rmP M) 0 [.ref (ga g 0), .int p1, .int p2] [] M (fX11_lasts p1 p2) := by
  unfold fX11_lasts
  refine r_iload_n dX11_lasts_0 rfl rfl ?_
  refine r_iconst ic_0 dX11_lasts_1 ?_
  refine r_ldcw lc_X11_299 dX11_lasts_2 ?_
  refine r_calliT (cl_S [.int p1, .int 0, .int 999999] bX11_isWithin (by decide) dX11_lasts_5 ml_X11_71 rfl (Nat.le_of_ble_eq_true rfl) rfl) (kX11_isWithin _ _ _ _) ?_
  refine r_if_eq dX11_lasts_8 (fun h => eT h ?_) (fun h => eF h ?_)
  · refine r_iconst ic_m1 dX11_lasts_20 ?_
    exact vRet rfl rfl rfl dX11_lasts_21
  · refine r_iload_n dX11_lasts_11 rfl rfl ?_
    refine r_iconst ic_0 dX11_lasts_12 ?_
    refine r_iconst ic_3 dX11_lasts_13 ?_
    refine r_calliT (cl_S [.int p2, .int 0, .int 3] bX11_isWithin (by decide) dX11_lasts_14 ml_X11_71 rfl (Nat.le_of_ble_eq_true rfl) rfl) (kX11_isWithin _ _ _ _) ?_
    refine r_if_ne dX11_lasts_17 (fun h => eF h ?_) (fun h => eT h ?_)
    · refine r_iload_n dX11_lasts_22 rfl rfl ?_
      refine r_iload_n dX11_lasts_23 rfl rfl ?_
      refine r_iconst ic_2 dX11_lasts_24 ?_
      refine eJ (fun (J1 : (Int32) → Option (Int32)) => ∀ (t2 : Int32), V g uX11_lasts 3 rvI (rmP M) 33 [.null, .null, .int p2] [.int t2, .int p1] M (J1 t2)) (fun t2 => ?_) (fun J1 hJ1 => ?_)
      · refine r_iload_n dX11_lasts_33 rfl rfl ?_
        refine r_iconst ic_2 dX11_lasts_34 ?_
        refine r_irem dX11_lasts_35 (by decide) ?_
        refine eJ (fun (J3 : (Int32) → Option (Int32)) => ∀ (t4 : Int32), V g uX11_lasts 3 rvI (rmP M) 44 [.null, .null, .null] [.int t4, .int t2, .int p1] M (J3 t4)) (fun t4 => ?_) (fun J3 hJ3 => ?_)
        · refine r_calli (cl_S [.int p1, .int t2, .int t4] bX5_lasting (by decide) dX11_lasts_44 ml_X11_300 rfl (Nat.le_of_ble_eq_true rfl) rfl) (kX5_lasting _ _ _ _) (fun v5 _ => ?_)
          exact vRet rfl rfl rfl dX11_lasts_47
        · refine r_if_ne dX11_lasts_36 (fun h => eF h ?_) (fun h => eT h ?_)
          · refine r_iconst ic_0 dX11_lasts_43 ?_
            exact vSub (l' := [.null, .null, .null]) ⟨Or.inl rfl, ⟨Or.inl rfl, ⟨Or.inl rfl, trivial⟩⟩⟩ (hJ3 _)
          · refine r_iconst ic_1 dX11_lasts_39 ?_
            refine r_goto dX11_lasts_40 ?_
            exact vSub (l' := [.null, .null, .null]) ⟨Or.inl rfl, ⟨Or.inl rfl, ⟨Or.inl rfl, trivial⟩⟩⟩ (hJ3 _)
      · refine r_icmp_lt dX11_lasts_25 (fun h => eT h ?_) (fun h => eF h ?_)
        · refine r_iconst ic_0 dX11_lasts_32 ?_
          exact vSub (l' := [.null, .null, .int p2]) ⟨Or.inl rfl, ⟨Or.inl rfl, ⟨Or.inr rfl, trivial⟩⟩⟩ (hJ1 _)
        · refine r_iconst ic_1 dX11_lasts_28 ?_
          refine r_goto dX11_lasts_29 ?_
          exact vSub (l' := [.null, .null, .int p2]) ⟨Or.inl rfl, ⟨Or.inl rfl, ⟨Or.inr rfl, trivial⟩⟩⟩ (hJ1 _)
    · refine r_iconst ic_m1 dX11_lasts_20 ?_
      exact vRet rfl rfl rfl dX11_lasts_21
theorem kX11_lasts {g : G}   (p1 : Int32) (p2 : Int32) (M : Mem) : CtrI g uX11_lasts 3 (fun r => r) (rmP M) [.ref (ga g 0), .int p1, .int p2] M (fX11_lasts p1 p2) := CtrI.of mX11_lasts rfl (Nat.le_of_ble_eq_true rfl) rfl (vX11_lasts p1 p2 M)
set_option maxHeartbeats 4000000 in
set_option maxRecDepth 100000 in
theorem vX12_digitsOf_L13 {g : G}   (z2 : Int32)  (M : Mem)   : ∀ (n : Nat) (y3 : Int32) (y4 : Int32), V g uX12_digitsOf 1 rvI (rmP M) 13 [.null, .null, .int z2, .int y3, .int y4] [] M (fX12_digitsOf_L13 z2 n y3 y4) := by
  intro n
  induction n with
  | zero => intro y3 y4; exact vNone
  | succ n ih =>
    intro y3 y4
    rw [fX12_digitsOf_L13]
    refine r_iload dX12_digitsOf_13 rfl ?_
    refine r_if_le dX12_digitsOf_15 (fun h => eT h ?_) (fun h => eF h ?_)
    · refine r_iload_n dX12_digitsOf_50 rfl rfl ?_
      exact vRet rfl rfl rfl dX12_digitsOf_51
    · refine r_iload_n dX12_digitsOf_18 rfl rfl ?_
      refine eJ (fun (J3 : (Int32) → Option (Int32)) => ∀ (t4 : Int32), V g uX12_digitsOf 1 rvI (rmP M) 39 [.null, .null, .int z2, .null, .int y4] [.int t4] M (J3 t4)) (fun t4 => ?_) (fun J3 hJ3 => ?_)
      · refine r_istore_n (l' := [.null, .null, .int z2, .int t4, .int y4]) dX12_digitsOf_39 rfl (Nat.le_of_ble_eq_true rfl) rfl rfl ?_
        refine r_iload dX12_digitsOf_40 rfl ?_
        refine r_bipush bp_10 dX12_digitsOf_42 ?_
        refine r_idiv dX12_digitsOf_44 (by decide) ?_
        refine r_bndi (fun x5 => ?_)
        refine r_istore (l' := [.null, .null, .int z2, .int t4, .int x5]) dX12_digitsOf_45 (Nat.le_of_ble_eq_true rfl) rfl rfl ?_
        refine r_goto dX12_digitsOf_47 ?_
        exact ih _ _
      · refine r_if_eq dX12_digitsOf_19 (fun h => eT h ?_) (fun h => eF h ?_)
        · refine r_iload_n dX12_digitsOf_32 rfl rfl ?_
          refine r_iload dX12_digitsOf_33 rfl ?_
          refine r_bipush bp_10 dX12_digitsOf_35 ?_
          refine r_irem dX12_digitsOf_37 (by decide) ?_
          refine r_iadd dX12_digitsOf_38 ?_
          exact vSub (l' := [.null, .null, .int z2, .null, .int y4]) ⟨Or.inl rfl, ⟨Or.inl rfl, ⟨Or.inr rfl, ⟨Or.inl rfl, ⟨Or.inr rfl, trivial⟩⟩⟩⟩⟩ (hJ3 _)
        · refine r_iload_n dX12_digitsOf_22 rfl rfl ?_
          refine r_iload dX12_digitsOf_23 rfl ?_
          refine r_bipush bp_10 dX12_digitsOf_25 ?_
          refine r_irem dX12_digitsOf_27 (by decide) ?_
          refine r_imul dX12_digitsOf_28 ?_
          refine r_goto dX12_digitsOf_29 ?_
          exact vSub (l' := [.null, .null, .int z2, .null, .int y4]) ⟨Or.inl rfl, ⟨Or.inl rfl, ⟨Or.inr rfl, ⟨Or.inl rfl, ⟨Or.inr rfl, trivial⟩⟩⟩⟩⟩ (hJ3 _)
set_option maxHeartbeats 4000000 in
set_option maxRecDepth 100000 in
theorem vX12_digitsOf {g : G}   (p1 : Int32) (p2 : Int32) (M : Mem) : V g uX12_digitsOf 1 rvI (rmP M) 0 [.ref (ga g 198), .int p1, .int p2, .null, .null] [] M (fX12_digitsOf p1 p2) := by
  unfold fX12_digitsOf
  refine r_iload_n dX12_digitsOf_0 rfl rfl ?_
  refine eJ (fun (J1 : (Int32) → Option (Int32)) => ∀ (t2 : Int32), V g uX12_digitsOf 1 rvI (rmP M) 9 [.null, .int p1, .int p2, .null, .null] [.int t2] M (J1 t2)) (fun t2 => ?_) (fun J1 hJ1 => ?_)
  · refine r_istore_n (l' := [.null, .int p1, .int p2, .int t2, .null]) dX12_digitsOf_9 rfl (Nat.le_of_ble_eq_true rfl) rfl rfl ?_
    refine r_iload_n dX12_digitsOf_10 rfl rfl ?_
    refine r_istore (l' := [.null, .int p1, .int p2, .int t2, .int p1]) dX12_digitsOf_11 (Nat.le_of_ble_eq_true rfl) rfl rfl ?_
    refine vSub (l' := [.null, .null, .int p2, .int t2, .int p1]) ⟨Or.inl rfl, ⟨Or.inl rfl, ⟨Or.inr rfl, ⟨Or.inr rfl, ⟨Or.inr rfl, trivial⟩⟩⟩⟩⟩ ?_
    refine vX12_digitsOf_L13 _ _ FU _ _
  · refine r_if_eq dX12_digitsOf_1 (fun h => eT h ?_) (fun h => eF h ?_)
    · refine r_iconst ic_0 dX12_digitsOf_8 ?_
      exact vSub (l' := [.null, .int p1, .int p2, .null, .null]) ⟨Or.inl rfl, ⟨Or.inr rfl, ⟨Or.inr rfl, ⟨Or.inl rfl, ⟨Or.inl rfl, trivial⟩⟩⟩⟩⟩ (hJ1 _)
    · refine r_iconst ic_1 dX12_digitsOf_4 ?_
      refine r_goto dX12_digitsOf_5 ?_
      exact vSub (l' := [.null, .int p1, .int p2, .null, .null]) ⟨Or.inl rfl, ⟨Or.inr rfl, ⟨Or.inr rfl, ⟨Or.inl rfl, ⟨Or.inl rfl, trivial⟩⟩⟩⟩⟩ (hJ1 _)
theorem kX12_digitsOf {g : G}   (p1 : Int32) (p2 : Int32) (M : Mem) : CtrI g uX12_digitsOf 1 (fun r => r) (rmP M) [.ref (ga g 198), .int p1, .int p2] M (fX12_digitsOf p1 p2) := CtrI.of mX12_digitsOf rfl (Nat.le_of_ble_eq_true rfl) rfl (vX12_digitsOf p1 p2 M)
set_option maxHeartbeats 4000000 in
set_option maxRecDepth 100000 in
theorem vX12_lasts_L34 {g : G}  (K66 : Int32 → Int32 → Option (Int32 × Mem)) (z2 : Int32)  (M : Mem)  (hK66 : ∀ (e3 : Int32) (e4 : Int32), V g uX12_lasts 2 rvW rmW 66 [.null, .null, .int z2, .int e3, .int e4] [] M (K66 e3 e4)) : ∀ (n : Nat) (y3 : Int32) (y4 : Int32), V g uX12_lasts 2 rvW rmW 34 [.ref (ga g 198), .null, .int z2, .int y3, .int y4] [] M (fX12_lasts_L34 K66 z2 M n y3 y4) := by
  intro n
  induction n with
  | zero => intro y3 y4; exact vNone
  | succ n ih =>
    intro y3 y4
    rw [fX12_lasts_L34]
    refine r_iload dX12_lasts_34 rfl ?_
    refine r_bipush bp_9 dX12_lasts_36 ?_
    refine r_icmp_le dX12_lasts_38 (fun h => eT h ?_) (fun h => eF h ?_)
    · exact vSub (l' := [.null, .null, .int z2, .int y3, .int y4]) ⟨Or.inl rfl, ⟨Or.inl rfl, ⟨Or.inr rfl, ⟨Or.inr rfl, ⟨Or.inr rfl, trivial⟩⟩⟩⟩⟩ (hK66 _ _)
    · refine r_aload_n dX12_lasts_41 rfl rfl ?_
      refine r_iload dX12_lasts_42 rfl ?_
      refine r_iload_n dX12_lasts_44 rfl rfl ?_
      refine r_iconst ic_1 dX12_lasts_45 ?_
      refine eJ (fun (J2 : (Int32) → Option (Int32 × Mem)) => ∀ (t3 : Int32), V g uX12_lasts 2 rvW rmW 54 [.ref (ga g 198), .null, .int z2, .int y3, .null] [.int t3, .int y4, .ref (ga g 198)] M (J2 t3)) (fun t3 => ?_) (fun J2 hJ2 => ?_)
      · refine r_calli (cl_V [.int y4, .int t3] bX12_digitsOf (by decide) dX12_lasts_54 ml_X12_408 kdc_198 rfl (Nat.le_of_ble_eq_true rfl) rfl) (kX12_digitsOf _ _ _) (fun v4 _ => ?_)
        refine r_istore (l' := [.ref (ga g 198), .null, .int z2, .int y3, .int v4]) dX12_lasts_57 (Nat.le_of_ble_eq_true rfl) rfl rfl ?_
        refine r_iload_n dX12_lasts_59 rfl rfl ?_
        refine r_iconst ic_1 dX12_lasts_60 ?_
        refine r_iadd dX12_lasts_61 ?_
        refine r_bndi (fun x5 => ?_)
        refine r_istore_n (l' := [.ref (ga g 198), .null, .int z2, .int x5, .int v4]) dX12_lasts_62 rfl (Nat.le_of_ble_eq_true rfl) rfl rfl ?_
        refine r_goto dX12_lasts_63 ?_
        exact ih _ _
      · refine r_icmp_le dX12_lasts_46 (fun h => eT h ?_) (fun h => eF h ?_)
        · refine r_iconst ic_0 dX12_lasts_53 ?_
          exact vSub (l' := [.ref (ga g 198), .null, .int z2, .int y3, .null]) ⟨Or.inr rfl, ⟨Or.inl rfl, ⟨Or.inr rfl, ⟨Or.inr rfl, ⟨Or.inl rfl, trivial⟩⟩⟩⟩⟩ (hJ2 _)
        · refine r_iconst ic_1 dX12_lasts_49 ?_
          refine r_goto dX12_lasts_50 ?_
          exact vSub (l' := [.ref (ga g 198), .null, .int z2, .int y3, .null]) ⟨Or.inr rfl, ⟨Or.inl rfl, ⟨Or.inr rfl, ⟨Or.inr rfl, ⟨Or.inl rfl, trivial⟩⟩⟩⟩⟩ (hJ2 _)
set_option maxHeartbeats 4000000 in
set_option maxRecDepth 100000 in
theorem vX12_lasts {g : G}   (p1 : Int32) (p2 : Int32) (M : Mem) : V g uX12_lasts 2 rvW rmW 0 [.ref (ga g 198), .int p1, .int p2, .null, .null] [] M (fX12_lasts p1 p2 M) := by
  unfold fX12_lasts
  refine r_aload_n dX12_lasts_0 rfl rfl ?_
  refine r_iconst ic_0 dX12_lasts_1 ?_
  refine r_put dX12_lasts_2 fw_X12_122 kdc_198 (fun M1 => ?_)
  refine r_aload_n dX12_lasts_5 rfl rfl ?_
  refine r_iload_n dX12_lasts_6 rfl rfl ?_
  refine r_iconst ic_0 dX12_lasts_7 ?_
  refine r_ldcw lc_X12_407 dX12_lasts_8 ?_
  refine r_calliT (cl_V [.int p1, .int 0, .int 999999] bX12_isIn (by decide) dX12_lasts_11 ml_X12_140 kdc_198 rfl (Nat.le_of_ble_eq_true rfl) rfl) (kX12_isIn _ _ _ _) ?_
  refine r_if_eq dX12_lasts_14 (fun h => eT h ?_) (fun h => eF h ?_)
  · refine r_iconst ic_m1 dX12_lasts_27 ?_
    exact vRet rfl rfl rfl dX12_lasts_28
  · refine r_aload_n dX12_lasts_17 rfl rfl ?_
    refine r_iload_n dX12_lasts_18 rfl rfl ?_
    refine r_iconst ic_0 dX12_lasts_19 ?_
    refine r_iconst ic_3 dX12_lasts_20 ?_
    refine r_calliT (cl_V [.int p2, .int 0, .int 3] bX12_isIn (by decide) dX12_lasts_21 ml_X12_140 kdc_198 rfl (Nat.le_of_ble_eq_true rfl) rfl) (kX12_isIn _ _ _ _) ?_
    refine r_if_ne dX12_lasts_24 (fun h => eF h ?_) (fun h => eT h ?_)
    · refine r_iconst ic_0 dX12_lasts_29 ?_
      refine r_istore_n (l' := [.ref (ga g 198), .int p1, .int p2, .int 0, .null]) dX12_lasts_30 rfl (Nat.le_of_ble_eq_true rfl) rfl rfl ?_
      refine r_iload_n dX12_lasts_31 rfl rfl ?_
      refine r_istore (l' := [.ref (ga g 198), .int p1, .int p2, .int 0, .int p1]) dX12_lasts_32 (Nat.le_of_ble_eq_true rfl) rfl rfl ?_
      refine vSub (l' := [.ref (ga g 198), .null, .int p2, .int 0, .int p1]) ⟨Or.inr rfl, ⟨Or.inl rfl, ⟨Or.inr rfl, ⟨Or.inr rfl, ⟨Or.inr rfl, trivial⟩⟩⟩⟩⟩ ?_
      refine vX12_lasts_L34 _ _ _ (fun e6 e7 => ?_) FU _ _
      · refine r_iload_n dX12_lasts_66 rfl rfl ?_
        refine r_iconst ic_2 dX12_lasts_67 ?_
        refine r_irem dX12_lasts_68 (by decide) ?_
        refine r_if_ne dX12_lasts_69 (fun h => eF h ?_) (fun h => eT h ?_)
        · refine r_iload dX12_lasts_76 rfl ?_
          exact vRet rfl rfl rfl dX12_lasts_78
        · refine r_iload_n dX12_lasts_72 rfl rfl ?_
          refine r_goto dX12_lasts_73 ?_
          exact vRet rfl rfl rfl dX12_lasts_78
    · refine r_iconst ic_m1 dX12_lasts_27 ?_
      exact vRet rfl rfl rfl dX12_lasts_28
theorem kX12_lasts {g : G}   (p1 : Int32) (p2 : Int32) (M : Mem) : CtrI g uX12_lasts 2 (fun r => r.1) rmW [.ref (ga g 198), .int p1, .int p2] M (fX12_lasts p1 p2 M) := CtrI.of mX12_lasts rfl (Nat.le_of_ble_eq_true rfl) rfl (vX12_lasts p1 p2 M)
set_option maxHeartbeats 4000000 in
set_option maxRecDepth 100000 in
theorem vX11_turn {g : G}   (p1 : Int32) (M : Mem) : V g uX11_turn 3 rvW rmW 0 [.ref (ga g 0), .int p1] [] M (fX11_turn p1 M) := by
  unfold fX11_turn
  refine r_aload_n dX11_turn_0 rfl rfl ?_
  refine r_getR (k' := 1) dX11_turn_1 fl_X11_12 kdc_0 rfl ?_
  refine r_getR (k' := 40) dX11_turn_4 fl_X11_262 kdc_1 rfl ?_
  refine r_getR (k' := 43) dX11_turn_7 fl_X11_304 kdc_40 rfl ?_
  refine r_iload_n dX11_turn_10 rfl rfl ?_
  refine r_calli (cl_V [.int p1] bX7_tell (by decide) dX11_turn_11 ml_X11_272 kdc_43 rfl (Nat.le_of_ble_eq_true rfl) rfl) (kX7_tell kdc_43 _ _) (fun r1 _ => ?_)
  exact vRet rfl rfl rfl dX11_turn_14
theorem kX11_turn {g : G}   (p1 : Int32) (M : Mem) : CtrI g uX11_turn 3 (fun r => r.1) rmW [.ref (ga g 0), .int p1] M (fX11_turn p1 M) := CtrI.of mX11_turn rfl (Nat.le_of_ble_eq_true rfl) rfl (vX11_turn p1 M)
set_option maxHeartbeats 4000000 in
set_option maxRecDepth 100000 in
theorem vX12_turn {g : G}   (p1 : Int32) (M : Mem) : V g uX12_turn 2 rvW rmW 0 [.ref (ga g 198), .int p1] [] M (fX12_turn p1 M) := by
  unfold fX12_turn
  refine r_aload_n dX12_turn_0 rfl rfl ?_
  refine r_iconst ic_0 dX12_turn_1 ?_
  refine r_put dX12_turn_2 fw_X12_122 kdc_198 (fun M1 => ?_)
  refine r_iload_n dX12_turn_5 rfl rfl ?_
  refine r_iconst ic_m1 dX12_turn_6 ?_
  refine r_icmp_ne dX12_turn_7 (fun h => eF h ?_) (fun h => eT h ?_)
  · refine r_aload_n dX12_turn_17 rfl rfl ?_
    refine r_iload_n dX12_turn_18 rfl rfl ?_
    refine r_iconst ic_0 dX12_turn_19 ?_
    refine r_iconst ic_2 dX12_turn_20 ?_
    refine r_calliT (cl_V [.int p1, .int 0, .int 2] bX12_isIn (by decide) dX12_turn_21 ml_X12_140 kdc_198 rfl (Nat.le_of_ble_eq_true rfl) rfl) (kX12_isIn _ _ _ _) ?_
    refine r_if_eq dX12_turn_24 (fun h => eT h ?_) (fun h => eF h ?_)
    · refine r_iconst ic_m1 dX12_turn_36 ?_
      exact vRet rfl rfl rfl dX12_turn_37
    · refine r_aload_n dX12_turn_27 rfl rfl ?_
      refine r_getI dX12_turn_28 fl_X12_412 kdc_198 ?_
      refine r_bipush bp_16 dX12_turn_31 ?_
      refine r_icmp_ne dX12_turn_33 (fun h => eF h ?_) (fun h => eT h ?_)
      · refine r_aload_n dX12_turn_38 rfl rfl ?_
        refine r_getR (k' := 225) dX12_turn_39 fl_X12_92 kdc_198 rfl ?_
        refine r_aload_n dX12_turn_42 rfl rfl ?_
        refine r_getI dX12_turn_43 fl_X12_412 kdc_198 ?_
        refine r_iload_n dX12_turn_46 rfl rfl ?_
        refine r_iast dX12_turn_47 kdc_225 (fun M2 => ?_)
        refine r_aload_n dX12_turn_48 rfl rfl ?_
        refine r_aload_n dX12_turn_49 rfl rfl ?_
        refine r_getI dX12_turn_50 fl_X12_412 kdc_198 ?_
        refine r_iconst ic_1 dX12_turn_53 ?_
        refine r_iadd dX12_turn_54 ?_
        refine r_put dX12_turn_55 fw_X12_412 kdc_198 (fun M3 => ?_)
        refine r_aload_n dX12_turn_58 rfl rfl ?_
        refine r_getI dX12_turn_59 fl_X12_412 kdc_198 ?_
        exact vRet rfl rfl rfl dX12_turn_62
      · refine r_iconst ic_m1 dX12_turn_36 ?_
        exact vRet rfl rfl rfl dX12_turn_37
  · refine r_aload_n dX12_turn_10 rfl rfl ?_
    refine r_iconst ic_0 dX12_turn_11 ?_
    refine r_put dX12_turn_12 fw_X12_412 kdc_198 (fun M4 => ?_)
    refine r_iconst ic_0 dX12_turn_15 ?_
    exact vRet rfl rfl rfl dX12_turn_16
theorem kX12_turn {g : G}   (p1 : Int32) (M : Mem) : CtrI g uX12_turn 2 (fun r => r.1) rmW [.ref (ga g 198), .int p1] M (fX12_turn p1 M) := CtrI.of mX12_turn rfl (Nat.le_of_ble_eq_true rfl) rfl (vX12_turn p1 M)
set_option maxHeartbeats 4000000 in
set_option maxRecDepth 100000 in
theorem vX10_stand_L11 {g : G}  (K37 : Option (Int32 × Mem)) (z1 : Int32) (z4 : Int32)  (M : Mem)  (hK37 : V g uX10_stand 1 rvW rmW 37 [.ref (ga g 40), .int z1, .null, .null, .int z4, .null] [] M (K37)) : ∀ (n : Nat) (y5 : Int32), V g uX10_stand 1 rvW rmW 11 [.ref (ga g 40), .int z1, .null, .null, .int z4, .int y5] [] M (fX10_stand_L11 K37 z1 z4 M n y5) := by
  intro n
  induction n with
  | zero => intro y5; exact vNone
  | succ n ih =>
    intro y5
    rw [fX10_stand_L11]
    refine r_iload dX10_stand_11 rfl ?_
    refine r_iload_n dX10_stand_13 rfl rfl ?_
    refine r_icmp_ge dX10_stand_14 (fun h => eT h ?_) (fun h => eF h ?_)
    · exact vSub (l' := [.ref (ga g 40), .int z1, .null, .null, .int z4, .null]) ⟨Or.inr rfl, ⟨Or.inr rfl, ⟨Or.inl rfl, ⟨Or.inl rfl, ⟨Or.inr rfl, ⟨Or.inl rfl, trivial⟩⟩⟩⟩⟩⟩ (hK37 )
    · refine r_aload_n dX10_stand_17 rfl rfl ?_
      refine r_getR (k' := 51) dX10_stand_18 fl_X10_36 kdc_40 rfl ?_
      refine r_iload dX10_stand_21 rfl ?_
      refine r_iald dX10_stand_23 kdc_51 (fun v2 => ?_)
      refine r_iload dX10_stand_24 rfl ?_
      refine r_icmp_ne dX10_stand_26 (fun h => eF h ?_) (fun h => eT h ?_)
      · refine r_iinc (l' := [.ref (ga g 40), .int z1, .null, .null, .int z4, .int (y5 + 1)]) dX10_stand_31 rfl (inc_1 _) (Nat.le_of_ble_eq_true rfl) rfl rfl ?_
        refine r_goto dX10_stand_34 ?_
        exact ih _
      · refine r_iload_n dX10_stand_29 rfl rfl ?_
        exact vRet rfl rfl rfl dX10_stand_30
set_option maxHeartbeats 4000000 in
set_option maxRecDepth 100000 in
theorem vX10_stand {g : G}   (p1 : Int32) (p2 : Int32) (p3 : Int32) (M : Mem) : V g uX10_stand 1 rvW rmW 0 [.ref (ga g 40), .int p1, .int p2, .int p3, .null, .null] [] M (fX10_stand p1 p2 p3 M) := by
  unfold fX10_stand
  refine r_bipush bp_100 dX10_stand_0 ?_
  refine r_iload_n dX10_stand_2 rfl rfl ?_
  refine r_imul dX10_stand_3 ?_
  refine r_iload_n dX10_stand_4 rfl rfl ?_
  refine r_iadd dX10_stand_5 ?_
  refine r_bndi (fun x1 => ?_)
  refine r_istore (l' := [.ref (ga g 40), .int p1, .int p2, .int p3, .int x1, .null]) dX10_stand_6 (Nat.le_of_ble_eq_true rfl) rfl rfl ?_
  refine r_iconst ic_0 dX10_stand_8 ?_
  refine r_istore (l' := [.ref (ga g 40), .int p1, .int p2, .int p3, .int x1, .int 0]) dX10_stand_9 (Nat.le_of_ble_eq_true rfl) rfl rfl ?_
  refine vSub (l' := [.ref (ga g 40), .int p1, .null, .null, .int x1, .int 0]) ⟨Or.inr rfl, ⟨Or.inr rfl, ⟨Or.inl rfl, ⟨Or.inl rfl, ⟨Or.inr rfl, ⟨Or.inr rfl, trivial⟩⟩⟩⟩⟩⟩ ?_
  refine vX10_stand_L11 _ _ _ _ (?_) FU _
  · refine r_iload_n dX10_stand_37 rfl rfl ?_
    refine r_bipush bp_16 dX10_stand_38 ?_
    refine r_icmp_le dX10_stand_40 (fun h => eT h ?_) (fun h => eF h ?_)
    · refine r_aload_n dX10_stand_45 rfl rfl ?_
      refine r_getR (k' := 51) dX10_stand_46 fl_X10_36 kdc_40 rfl ?_
      refine r_iload_n dX10_stand_49 rfl rfl ?_
      refine r_iload dX10_stand_50 rfl ?_
      refine r_iast dX10_stand_52 kdc_51 (fun M3 => ?_)
      refine r_iload_n dX10_stand_53 rfl rfl ?_
      refine r_iconst ic_1 dX10_stand_54 ?_
      refine r_iadd dX10_stand_55 ?_
      exact vRet rfl rfl rfl dX10_stand_56
    · refine r_iload_n dX10_stand_43 rfl rfl ?_
      exact vRet rfl rfl rfl dX10_stand_44
theorem kX10_stand {g : G}   (p1 : Int32) (p2 : Int32) (p3 : Int32) (M : Mem) : CtrI g uX10_stand 1 (fun r => r.1) rmW [.ref (ga g 40), .int p1, .int p2, .int p3] M (fX10_stand p1 p2 p3 M) := CtrI.of mX10_stand rfl (Nat.le_of_ble_eq_true rfl) rfl (vX10_stand p1 p2 p3 M)
set_option maxHeartbeats 4000000 in
set_option maxRecDepth 100000 in
theorem vX10_turned_L25 {g : G}  (K133 : Int32 → Int32 → Int32 → Int32 → Mem → Option (Int32 × Mem))  (c1 : Int32)  (hK133 : ∀ (e2 : Int32) (e3 : Int32) (e6 : Int32) (e7 : Int32) (M : Mem), V g uX10_turned 2 rvW rmW 133 [.null, .int c1, .int e2, .int e3, .null, .null, .int e6, .int e7, .null, .null, .null, .null] [] M (K133 e2 e3 e6 e7 M)) : ∀ (n : Nat) (y2 : Int32) (y3 : Int32) (y4 : Int32) (y5 : Int32) (y6 : Int32) (y7 : Int32) (y8 : Int32) (M : Mem), V g uX10_turned 2 rvW rmW 25 [.ref (ga g 40), .int c1, .int y2, .int y3, .int y4, .int y5, .int y6, .int y7, .int y8, .null, .null, .null] [] M (fX10_turned_L25 K133 n y2 y3 y4 y5 y6 y7 y8 M) := by
  intro n
  induction n with
  | zero => intro y2 y3 y4 y5 y6 y7 y8 M; exact vNone
  | succ n ih =>
    intro y2 y3 y4 y5 y6 y7 y8 M
    rw [fX10_turned_L25]
    refine r_iload dX10_turned_25 rfl ?_
    refine r_aload_n dX10_turned_27 rfl rfl ?_
    refine r_getR (k' := 43) dX10_turned_28 fl_X10_20 kdc_40 rfl ?_
    refine r_getI dX10_turned_31 fl_X10_53 kdc_43 ?_
    refine r_icmp_ge dX10_turned_34 (fun h => eT h ?_) (fun h => eF h ?_)
    · exact vSub (l' := [.null, .int c1, .int y2, .int y3, .null, .null, .int y6, .int y7, .null, .null, .null, .null]) ⟨Or.inl rfl, ⟨Or.inr rfl, ⟨Or.inr rfl, ⟨Or.inr rfl, ⟨Or.inl rfl, ⟨Or.inl rfl, ⟨Or.inr rfl, ⟨Or.inr rfl, ⟨Or.inl rfl, ⟨Or.inl rfl, ⟨Or.inl rfl, ⟨Or.inl rfl, trivial⟩⟩⟩⟩⟩⟩⟩⟩⟩⟩⟩⟩ (hK133 _ _ _ _ _)
    · refine r_aload_n dX10_turned_37 rfl rfl ?_
      refine r_getR (k' := 43) dX10_turned_38 fl_X10_20 kdc_40 rfl ?_
      refine r_getR (k' := 44) dX10_turned_41 fl_X10_57 kdc_43 rfl ?_
      refine r_iload dX10_turned_44 rfl ?_
      refine r_iald dX10_turned_46 kdc_44 (fun v2 => ?_)
      refine r_istore (l' := [.ref (ga g 40), .int c1, .int y2, .int y3, .int y4, .int y5, .int y6, .int y7, .int y8, .int v2, .null, .null]) dX10_turned_47 (Nat.le_of_ble_eq_true rfl) rfl rfl ?_
      refine r_iload dX10_turned_49 rfl ?_
      refine eJ (fun (J3 : (Int32) → (Int32) → (Int32) → (Int32) → (Int32) → (Int32) → (Mem) → Option (Int32 × Mem)) => ∀ (a4 : Int32) (a5 : Int32) (a6 : Int32) (a7 : Int32) (a8 : Int32) (a9 : Int32) (M10 : Mem), V g uX10_turned 2 rvW rmW 127 [.ref (ga g 40), .int c1, .int a4, .int a5, .int a6, .int a7, .int a8, .int a9, .int y8, .null, .null, .null] [] M10 (J3 a4 a5 a6 a7 a8 a9 M10)) (fun a4 a5 a6 a7 a8 a9 M10 => ?_) (fun J3 hJ3 => ?_)
      · refine r_iinc (l' := [.ref (ga g 40), .int c1, .int a4, .int a5, .int a6, .int a7, .int a8, .int a9, .int (y8 + 1), .null, .null, .null]) dX10_turned_127 rfl (inc_1 _) (Nat.le_of_ble_eq_true rfl) rfl rfl ?_
        refine r_goto dX10_turned_130 ?_
        exact ih _ _ _ _ _ _ _ _
      · refine r_if_ne dX10_turned_51 (fun h => eF h ?_) (fun h => eT h ?_)
        · refine r_iload dX10_turned_95 rfl ?_
          refine r_iconst ic_1 dX10_turned_97 ?_
          refine eJ (fun (J11 : (Int32) → Option (Int32 × Mem)) => ∀ (t12 : Int32), V g uX10_turned 2 rvW rmW 106 [.ref (ga g 40), .int c1, .int y2, .int y3, .int y4, .int y5, .int y6, .int y7, .int y8, .null, .null, .null] [.int t12] M (J11 t12)) (fun t12 => ?_) (fun J11 hJ11 => ?_)
          · refine r_istore (l' := [.ref (ga g 40), .int c1, .int y2, .int y3, .int y4, .int y5, .int y6, .int y7, .int y8, .null, .int t12, .null]) dX10_turned_106 (Nat.le_of_ble_eq_true rfl) rfl rfl ?_
            refine r_iload dX10_turned_108 rfl ?_
            refine r_istore (l' := [.ref (ga g 40), .int c1, .int y2, .int y3, .int y4, .int y5, .int y6, .int y7, .int y8, .null, .int t12, .int y4]) dX10_turned_110 (Nat.le_of_ble_eq_true rfl) rfl rfl ?_
            refine r_iload dX10_turned_112 rfl ?_
            refine r_ineg dX10_turned_114 ?_
            refine r_iload dX10_turned_115 rfl ?_
            refine r_imul dX10_turned_117 ?_
            refine r_bndi (fun x13 => ?_)
            refine r_istore (l' := [.ref (ga g 40), .int c1, .int y2, .int y3, .int x13, .int y5, .int y6, .int y7, .int y8, .null, .int t12, .int y4]) dX10_turned_118 (Nat.le_of_ble_eq_true rfl) rfl rfl ?_
            refine r_iload dX10_turned_120 rfl ?_
            refine r_iload dX10_turned_122 rfl ?_
            refine r_imul dX10_turned_124 ?_
            refine r_bndi (fun x14 => ?_)
            refine r_istore (l' := [.ref (ga g 40), .int c1, .int y2, .int y3, .int x13, .int x14, .int y6, .int y7, .int y8, .null, .int t12, .int y4]) dX10_turned_125 (Nat.le_of_ble_eq_true rfl) rfl rfl ?_
            exact vSub (l' := [.ref (ga g 40), .int c1, .int y2, .int y3, .int x13, .int x14, .int y6, .int y7, .int y8, .null, .null, .null]) ⟨Or.inr rfl, ⟨Or.inr rfl, ⟨Or.inr rfl, ⟨Or.inr rfl, ⟨Or.inr rfl, ⟨Or.inr rfl, ⟨Or.inr rfl, ⟨Or.inr rfl, ⟨Or.inr rfl, ⟨Or.inl rfl, ⟨Or.inl rfl, ⟨Or.inl rfl, trivial⟩⟩⟩⟩⟩⟩⟩⟩⟩⟩⟩⟩ (hJ3 _ _ _ _ _ _ _)
          · refine r_icmp_ne dX10_turned_98 (fun h => eF h ?_) (fun h => eT h ?_)
            · refine r_iconst ic_m1 dX10_turned_105 ?_
              exact vSub (l' := [.ref (ga g 40), .int c1, .int y2, .int y3, .int y4, .int y5, .int y6, .int y7, .int y8, .null, .null, .null]) ⟨Or.inr rfl, ⟨Or.inr rfl, ⟨Or.inr rfl, ⟨Or.inr rfl, ⟨Or.inr rfl, ⟨Or.inr rfl, ⟨Or.inr rfl, ⟨Or.inr rfl, ⟨Or.inr rfl, ⟨Or.inl rfl, ⟨Or.inl rfl, ⟨Or.inl rfl, trivial⟩⟩⟩⟩⟩⟩⟩⟩⟩⟩⟩⟩ (hJ11 _)
            · refine r_iconst ic_1 dX10_turned_101 ?_
              refine r_goto dX10_turned_102 ?_
              exact vSub (l' := [.ref (ga g 40), .int c1, .int y2, .int y3, .int y4, .int y5, .int y6, .int y7, .int y8, .null, .null, .null]) ⟨Or.inr rfl, ⟨Or.inr rfl, ⟨Or.inr rfl, ⟨Or.inr rfl, ⟨Or.inr rfl, ⟨Or.inr rfl, ⟨Or.inr rfl, ⟨Or.inr rfl, ⟨Or.inr rfl, ⟨Or.inl rfl, ⟨Or.inl rfl, ⟨Or.inl rfl, trivial⟩⟩⟩⟩⟩⟩⟩⟩⟩⟩⟩⟩ (hJ11 _)
        · refine r_iload dX10_turned_54 rfl ?_
          refine r_iload_n dX10_turned_56 rfl rfl ?_
          refine r_iload_n dX10_turned_57 rfl rfl ?_
          refine r_iload dX10_turned_58 rfl ?_
          refine r_iadd dX10_turned_60 ?_
          refine r_imul dX10_turned_61 ?_
          refine r_iload_n dX10_turned_62 rfl rfl ?_
          refine r_iload dX10_turned_63 rfl ?_
          refine r_iadd dX10_turned_65 ?_
          refine r_iload_n dX10_turned_66 rfl rfl ?_
          refine r_imul dX10_turned_67 ?_
          refine r_isub dX10_turned_68 ?_
          refine r_iadd dX10_turned_69 ?_
          refine r_bndi (fun x15 => ?_)
          refine r_istore (l' := [.ref (ga g 40), .int c1, .int y2, .int y3, .int y4, .int y5, .int x15, .int y7, .int y8, .int v2, .null, .null]) dX10_turned_70 (Nat.le_of_ble_eq_true rfl) rfl rfl ?_
          refine r_iload_n dX10_turned_72 rfl rfl ?_
          refine r_iload dX10_turned_73 rfl ?_
          refine r_iadd dX10_turned_75 ?_
          refine r_bndi (fun x16 => ?_)
          refine r_istore_n (l' := [.ref (ga g 40), .int c1, .int x16, .int y3, .int y4, .int y5, .int x15, .int y7, .int y8, .int v2, .null, .null]) dX10_turned_76 rfl (Nat.le_of_ble_eq_true rfl) rfl rfl ?_
          refine r_iload_n dX10_turned_77 rfl rfl ?_
          refine r_iload dX10_turned_78 rfl ?_
          refine r_iadd dX10_turned_80 ?_
          refine r_bndi (fun x17 => ?_)
          refine r_istore_n (l' := [.ref (ga g 40), .int c1, .int x16, .int x17, .int y4, .int y5, .int x15, .int y7, .int y8, .int v2, .null, .null]) dX10_turned_81 rfl (Nat.le_of_ble_eq_true rfl) rfl rfl ?_
          refine r_aload_n dX10_turned_82 rfl rfl ?_
          refine r_iload dX10_turned_83 rfl ?_
          refine r_iload_n dX10_turned_85 rfl rfl ?_
          refine r_iload_n dX10_turned_86 rfl rfl ?_
          refine r_calli (cl_V [.int y7, .int x16, .int x17] bX10_stand (by decide) dX10_turned_87 ml_X10_69 kdc_40 rfl (Nat.le_of_ble_eq_true rfl) rfl) (kX10_stand _ _ _ _) (fun r18 _ => ?_)
          refine r_istore (l' := [.ref (ga g 40), .int c1, .int x16, .int x17, .int y4, .int y5, .int x15, .int r18.1, .int y8, .int v2, .null, .null]) dX10_turned_90 (Nat.le_of_ble_eq_true rfl) rfl rfl ?_
          refine r_goto dX10_turned_92 ?_
          exact vSub (l' := [.ref (ga g 40), .int c1, .int x16, .int x17, .int y4, .int y5, .int x15, .int r18.1, .int y8, .null, .null, .null]) ⟨Or.inr rfl, ⟨Or.inr rfl, ⟨Or.inr rfl, ⟨Or.inr rfl, ⟨Or.inr rfl, ⟨Or.inr rfl, ⟨Or.inr rfl, ⟨Or.inr rfl, ⟨Or.inr rfl, ⟨Or.inl rfl, ⟨Or.inl rfl, ⟨Or.inl rfl, trivial⟩⟩⟩⟩⟩⟩⟩⟩⟩⟩⟩⟩ (hJ3 _ _ _ _ _ _ _)
set_option maxHeartbeats 4000000 in
set_option maxRecDepth 100000 in
theorem vX10_turned {g : G}   (p1 : Int32) (M : Mem) : V g uX10_turned 2 rvW rmW 0 [.ref (ga g 40), .int p1, .null, .null, .null, .null, .null, .null, .null, .null, .null, .null] [] M (fX10_turned p1 M) := by
  unfold fX10_turned
  refine r_iconst ic_0 dX10_turned_0 ?_
  refine r_istore_n (l' := [.ref (ga g 40), .int p1, .int 0, .null, .null, .null, .null, .null, .null, .null, .null, .null]) dX10_turned_1 rfl (Nat.le_of_ble_eq_true rfl) rfl rfl ?_
  refine r_iconst ic_0 dX10_turned_2 ?_
  refine r_istore_n (l' := [.ref (ga g 40), .int p1, .int 0, .int 0, .null, .null, .null, .null, .null, .null, .null, .null]) dX10_turned_3 rfl (Nat.le_of_ble_eq_true rfl) rfl rfl ?_
  refine r_iconst ic_1 dX10_turned_4 ?_
  refine r_istore (l' := [.ref (ga g 40), .int p1, .int 0, .int 0, .int 1, .null, .null, .null, .null, .null, .null, .null]) dX10_turned_5 (Nat.le_of_ble_eq_true rfl) rfl rfl ?_
  refine r_iconst ic_0 dX10_turned_7 ?_
  refine r_istore (l' := [.ref (ga g 40), .int p1, .int 0, .int 0, .int 1, .int 0, .null, .null, .null, .null, .null, .null]) dX10_turned_8 (Nat.le_of_ble_eq_true rfl) rfl rfl ?_
  refine r_iconst ic_0 dX10_turned_10 ?_
  refine r_istore (l' := [.ref (ga g 40), .int p1, .int 0, .int 0, .int 1, .int 0, .int 0, .null, .null, .null, .null, .null]) dX10_turned_11 (Nat.le_of_ble_eq_true rfl) rfl rfl ?_
  refine r_aload_n dX10_turned_13 rfl rfl ?_
  refine r_iconst ic_0 dX10_turned_14 ?_
  refine r_iload_n dX10_turned_15 rfl rfl ?_
  refine r_iload_n dX10_turned_16 rfl rfl ?_
  refine r_calli (cl_V [.int 0, .int 0, .int 0] bX10_stand (by decide) dX10_turned_17 ml_X10_69 kdc_40 rfl (Nat.le_of_ble_eq_true rfl) rfl) (kX10_stand _ _ _ _) (fun r1 _ => ?_)
  refine r_istore (l' := [.ref (ga g 40), .int p1, .int 0, .int 0, .int 1, .int 0, .int 0, .int r1.1, .null, .null, .null, .null]) dX10_turned_20 (Nat.le_of_ble_eq_true rfl) rfl rfl ?_
  refine r_iconst ic_0 dX10_turned_22 ?_
  refine r_istore (l' := [.ref (ga g 40), .int p1, .int 0, .int 0, .int 1, .int 0, .int 0, .int r1.1, .int 0, .null, .null, .null]) dX10_turned_23 (Nat.le_of_ble_eq_true rfl) rfl rfl ?_
  refine vX10_turned_L25 _ _ (fun e19 e20 e21 e22 M23 => ?_) FU _ _ _ _ _ _ _ _
  · refine r_iload_n dX10_turned_133 rfl rfl ?_
    refine r_tsw (n := 3) (tg := [160, 162, 164]) (td := 167) dX10_turned_134 rfl (by decide) (by decide) (by decide) (by decide) (by decide +kernel) (by decide) (lt_s (lt_s (lt_s (lt_0) ?_) ?_) ?_) ?_
    · refine r_iload_n dX10_turned_160 rfl rfl ?_
      exact vRet rfl rfl rfl dX10_turned_161
    · refine r_iload_n dX10_turned_162 rfl rfl ?_
      exact vRet rfl rfl rfl dX10_turned_163
    · refine r_iload dX10_turned_164 rfl ?_
      exact vRet rfl rfl rfl dX10_turned_166
    · refine r_iload_n dX10_turned_167 rfl rfl ?_
      refine r_if_ne dX10_turned_168 (fun h => eF h ?_) (fun h => eT h ?_)
      · refine r_sipush sp_m1000 dX10_turned_180 ?_
        exact vRet rfl rfl rfl dX10_turned_183
      · refine r_iload_n dX10_turned_171 rfl rfl ?_
        refine r_if_ne dX10_turned_172 (fun h => eF h ?_) (fun h => eT h ?_)
        · refine r_sipush sp_m1000 dX10_turned_180 ?_
          exact vRet rfl rfl rfl dX10_turned_183
        · refine r_iload dX10_turned_175 rfl ?_
          refine r_goto dX10_turned_177 ?_
          exact vRet rfl rfl rfl dX10_turned_183
theorem kX10_turned {g : G}   (p1 : Int32) (M : Mem) : CtrI g uX10_turned 2 (fun r => r.1) rmW [.ref (ga g 40), .int p1] M (fX10_turned p1 M) := CtrI.of mX10_turned rfl (Nat.le_of_ble_eq_true rfl) rfl (vX10_turned p1 M)
set_option maxHeartbeats 4000000 in
set_option maxRecDepth 100000 in
theorem vX11_turning {g : G}   (p1 : Int32) (M : Mem) : V g uX11_turning 3 rvW rmW 0 [.ref (ga g 0), .int p1] [] M (fX11_turning p1 M) := by
  unfold fX11_turning
  refine r_iload_n dX11_turning_0 rfl rfl ?_
  refine r_iconst ic_0 dX11_turning_1 ?_
  refine r_iconst ic_3 dX11_turning_2 ?_
  refine r_calliT (cl_S [.int p1, .int 0, .int 3] bX11_isWithin (by decide) dX11_turning_3 ml_X11_71 rfl (Nat.le_of_ble_eq_true rfl) rfl) (kX11_isWithin _ _ _ _) ?_
  refine r_if_ne dX11_turning_6 (fun h => eF h ?_) (fun h => eT h ?_)
  · refine r_aload_n dX11_turning_13 rfl rfl ?_
    refine r_getR (k' := 1) dX11_turning_14 fl_X11_12 kdc_0 rfl ?_
    refine r_getR (k' := 40) dX11_turning_17 fl_X11_262 kdc_1 rfl ?_
    refine r_iload_n dX11_turning_20 rfl rfl ?_
    refine r_calli (cl_V [.int p1] bX10_turned (by decide) dX11_turning_21 ml_X11_307 kdc_40 rfl (Nat.le_of_ble_eq_true rfl) rfl) (kX10_turned _ _) (fun r1 _ => ?_)
    exact vRet rfl rfl rfl dX11_turning_24
  · refine r_sipush sp_m10000 dX11_turning_9 ?_
    exact vRet rfl rfl rfl dX11_turning_12
theorem kX11_turning {g : G}   (p1 : Int32) (M : Mem) : CtrI g uX11_turning 3 (fun r => r.1) rmW [.ref (ga g 0), .int p1] M (fX11_turning p1 M) := CtrI.of mX11_turning rfl (Nat.le_of_ble_eq_true rfl) rfl (vX11_turning p1 M)
set_option maxHeartbeats 4000000 in
set_option maxRecDepth 100000 in
theorem vX12_turning_L190 {g : G}  (K237 : Int32 → Option (Int32 × Mem)) (z2 : Int32) (c1 : Int32) (c3 : Int32) (c4 : Int32) (c5 : Int32) (c6 : Int32) (M : Mem)  (hK237 : ∀ (e7 : Int32), V g uX12_turning 2 rvW rmW 237 [.ref (ga g 198), .int c1, .int z2, .int c3, .int c4, .int c5, .int c6, .int e7, .null] [] M (K237 e7)) : ∀ (n : Nat) (y7 : Int32) (y8 : Int32), V g uX12_turning 2 rvW rmW 190 [.ref (ga g 198), .int c1, .int z2, .int c3, .int c4, .int c5, .int c6, .int y7, .int y8] [] M (fX12_turning_L190 K237 z2 M n y7 y8) := by
  intro n
  induction n with
  | zero => intro y7 y8; exact vNone
  | succ n ih =>
    intro y7 y8
    rw [fX12_turning_L190]
    refine r_iload dX12_turning_190 rfl ?_
    refine r_iload_n dX12_turning_192 rfl rfl ?_
    refine r_icmp_ge dX12_turning_193 (fun h => eT h ?_) (fun h => eF h ?_)
    · exact vSub (l' := [.ref (ga g 198), .int c1, .int z2, .int c3, .int c4, .int c5, .int c6, .int y7, .null]) ⟨Or.inr rfl, ⟨Or.inr rfl, ⟨Or.inr rfl, ⟨Or.inr rfl, ⟨Or.inr rfl, ⟨Or.inr rfl, ⟨Or.inr rfl, ⟨Or.inr rfl, ⟨Or.inl rfl, trivial⟩⟩⟩⟩⟩⟩⟩⟩⟩ (hK237 _)
    · refine r_aload_n dX12_turning_196 rfl rfl ?_
      refine r_getR (k' := 226) dX12_turning_197 fl_X12_95 kdc_198 rfl ?_
      refine r_iload dX12_turning_200 rfl ?_
      refine r_iald dX12_turning_202 kdc_226 (fun v22 => ?_)
      refine r_aload_n dX12_turning_203 rfl rfl ?_
      refine r_getR (k' := 226) dX12_turning_204 fl_X12_95 kdc_198 rfl ?_
      refine r_iload_n dX12_turning_207 rfl rfl ?_
      refine r_iald dX12_turning_208 kdc_226 (fun v23 => ?_)
      refine eJ (fun (J24 : (Int32) → Option (Int32 × Mem)) => ∀ (a25 : Int32), V g uX12_turning 2 rvW rmW 231 [.ref (ga g 198), .int c1, .int z2, .int c3, .int c4, .int c5, .int c6, .int a25, .int y8] [] M (J24 a25)) (fun a25 => ?_) (fun J24 hJ24 => ?_)
      · refine r_iinc (l' := [.ref (ga g 198), .int c1, .int z2, .int c3, .int c4, .int c5, .int c6, .int a25, .int (y8 + 1)]) dX12_turning_231 rfl (inc_1 _) (Nat.le_of_ble_eq_true rfl) rfl rfl ?_
        refine r_goto dX12_turning_234 ?_
        exact ih _ _
      · refine r_icmp_ne dX12_turning_209 (fun h => eF h ?_) (fun h => eT h ?_)
        · exact hJ24 _
        · refine r_aload_n dX12_turning_212 rfl rfl ?_
          refine r_getR (k' := 227) dX12_turning_213 fl_X12_98 kdc_198 rfl ?_
          refine r_iload dX12_turning_216 rfl ?_
          refine r_iald dX12_turning_218 kdc_227 (fun v26 => ?_)
          refine r_aload_n dX12_turning_219 rfl rfl ?_
          refine r_getR (k' := 227) dX12_turning_220 fl_X12_98 kdc_198 rfl ?_
          refine r_iload_n dX12_turning_223 rfl rfl ?_
          refine r_iald dX12_turning_224 kdc_227 (fun v27 => ?_)
          refine r_icmp_ne dX12_turning_225 (fun h => eF h ?_) (fun h => eT h ?_)
          · exact hJ24 _
          · refine r_iconst ic_0 dX12_turning_228 ?_
            refine r_istore (l' := [.ref (ga g 198), .int c1, .int z2, .int c3, .int c4, .int c5, .int c6, .int 0, .int y8]) dX12_turning_229 (Nat.le_of_ble_eq_true rfl) rfl rfl ?_
            exact hJ24 _
set_option maxHeartbeats 4000000 in
set_option maxRecDepth 100000 in
theorem vX12_turning_L32 {g : G}  (K256 : Int32 → Int32 → Int32 → Mem → Option (Int32 × Mem))  (c1 : Int32)  (hK256 : ∀ (e2 : Int32) (e3 : Int32) (e5 : Int32) (M : Mem), V g uX12_turning 2 rvW rmW 256 [.ref (ga g 198), .int c1, .int e2, .int e3, .null, .int e5, .null, .null, .null] [] M (K256 e2 e3 e5 M)) : ∀ (n : Nat) (y2 : Int32) (y3 : Int32) (y4 : Int32) (y5 : Int32) (y6 : Int32) (M : Mem), V g uX12_turning 2 rvW rmW 32 [.ref (ga g 198), .int c1, .int y2, .int y3, .int y4, .int y5, .int y6, .null, .null] [] M (fX12_turning_L32 K256 n y2 y3 y4 y5 y6 M) := by
  intro n
  induction n with
  | zero => intro y2 y3 y4 y5 y6 M; exact vNone
  | succ n ih =>
    intro y2 y3 y4 y5 y6 M
    rw [fX12_turning_L32]
    refine r_iload dX12_turning_32 rfl ?_
    refine r_aload_n dX12_turning_34 rfl rfl ?_
    refine r_getI dX12_turning_35 fl_X12_412 kdc_198 ?_
    refine r_icmp_ge dX12_turning_38 (fun h => eT h ?_) (fun h => eF h ?_)
    · exact vSub (l' := [.ref (ga g 198), .int c1, .int y2, .int y3, .null, .int y5, .null, .null, .null]) ⟨Or.inr rfl, ⟨Or.inr rfl, ⟨Or.inr rfl, ⟨Or.inr rfl, ⟨Or.inl rfl, ⟨Or.inr rfl, ⟨Or.inl rfl, ⟨Or.inl rfl, ⟨Or.inl rfl, trivial⟩⟩⟩⟩⟩⟩⟩⟩⟩ (hK256 _ _ _ _)
    · refine r_aload_n dX12_turning_41 rfl rfl ?_
      refine r_getR (k' := 225) dX12_turning_42 fl_X12_92 kdc_198 rfl ?_
      refine r_iload dX12_turning_45 rfl ?_
      refine r_iald dX12_turning_47 kdc_225 (fun v2 => ?_)
      refine eJ (fun (J3 : (Int32) → (Int32) → (Int32) → (Int32) → (Mem) → Option (Int32 × Mem)) => ∀ (a4 : Int32) (a5 : Int32) (a6 : Int32) (a7 : Int32) (M8 : Mem), V g uX12_turning 2 rvW rmW 250 [.ref (ga g 198), .int c1, .int a4, .int a5, .int a6, .int a7, .int y6, .null, .null] [] M8 (J3 a4 a5 a6 a7 M8)) (fun a4 a5 a6 a7 M8 => ?_) (fun J3 hJ3 => ?_)
      · refine r_iinc (l' := [.ref (ga g 198), .int c1, .int a4, .int a5, .int a6, .int a7, .int (y6 + 1), .null, .null]) dX12_turning_250 rfl (inc_1 _) (Nat.le_of_ble_eq_true rfl) rfl rfl ?_
        refine r_goto dX12_turning_253 ?_
        exact ih _ _ _ _ _ _
      · refine r_if_le dX12_turning_48 (fun h => eT h ?_) (fun h => eF h ?_)
        · refine r_aload_n dX12_turning_77 rfl rfl ?_
          refine r_getR (k' := 226) dX12_turning_78 fl_X12_95 kdc_198 rfl ?_
          refine r_iload_n dX12_turning_81 rfl rfl ?_
          refine r_aload_n dX12_turning_82 rfl rfl ?_
          refine r_getR (k' := 226) dX12_turning_83 fl_X12_95 kdc_198 rfl ?_
          refine r_iload_n dX12_turning_86 rfl rfl ?_
          refine r_iconst ic_1 dX12_turning_87 ?_
          refine r_isub dX12_turning_88 ?_
          refine r_iald dX12_turning_89 kdc_226 (fun v9 => ?_)
          refine r_iload dX12_turning_90 rfl ?_
          refine eJ (fun (J10 : (Int32) → Option (Int32 × Mem)) => ∀ (t11 : Int32), V g uX12_turning 2 rvW rmW 110 [.ref (ga g 198), .int c1, .int y2, .int y3, .int y4, .int y5, .int y6, .null, .null] [.int t11, .int v9, .int y2, .ref (ga g 226)] M (J10 t11)) (fun t11 => ?_) (fun J10 hJ10 => ?_)
          · refine r_iadd dX12_turning_110 ?_
            refine r_iast dX12_turning_111 kdc_226 (fun M12 => ?_)
            refine r_aload_n dX12_turning_112 rfl rfl ?_
            refine r_getR (k' := 227) dX12_turning_113 fl_X12_98 kdc_198 rfl ?_
            refine r_iload_n dX12_turning_116 rfl rfl ?_
            refine r_aload_n dX12_turning_117 rfl rfl ?_
            refine r_getR (k' := 227) dX12_turning_118 fl_X12_98 kdc_198 rfl ?_
            refine r_iload_n dX12_turning_121 rfl rfl ?_
            refine r_iconst ic_1 dX12_turning_122 ?_
            refine r_isub dX12_turning_123 ?_
            refine r_iald dX12_turning_124 kdc_227 (fun v13 => ?_)
            refine r_iload dX12_turning_125 rfl ?_
            refine r_iconst ic_1 dX12_turning_127 ?_
            refine eJ (fun (J14 : (Int32) → Option (Int32 × Mem)) => ∀ (t15 : Int32), V g uX12_turning 2 rvW rmW 146 [.ref (ga g 198), .int c1, .int y2, .int y3, .int y4, .int y5, .int y6, .null, .null] [.int t15, .int v13, .int y2, .ref (ga g 227)] M12 (J14 t15)) (fun t15 => ?_) (fun J14 hJ14 => ?_)
            · refine r_iadd dX12_turning_146 ?_
              refine r_iast dX12_turning_147 kdc_227 (fun M16 => ?_)
              refine r_iload dX12_turning_148 rfl ?_
              refine r_aload_n dX12_turning_150 rfl rfl ?_
              refine r_getR (k' := 226) dX12_turning_151 fl_X12_95 kdc_198 rfl ?_
              refine r_iload_n dX12_turning_154 rfl rfl ?_
              refine r_iconst ic_1 dX12_turning_155 ?_
              refine r_isub dX12_turning_156 ?_
              refine r_iald dX12_turning_157 kdc_226 (fun v17 => ?_)
              refine r_aload_n dX12_turning_158 rfl rfl ?_
              refine r_getR (k' := 227) dX12_turning_159 fl_X12_98 kdc_198 rfl ?_
              refine r_iload_n dX12_turning_162 rfl rfl ?_
              refine r_iald dX12_turning_163 kdc_227 (fun v18 => ?_)
              refine r_imul dX12_turning_164 ?_
              refine r_iadd dX12_turning_165 ?_
              refine r_aload_n dX12_turning_166 rfl rfl ?_
              refine r_getR (k' := 226) dX12_turning_167 fl_X12_95 kdc_198 rfl ?_
              refine r_iload_n dX12_turning_170 rfl rfl ?_
              refine r_iald dX12_turning_171 kdc_226 (fun v19 => ?_)
              refine r_aload_n dX12_turning_172 rfl rfl ?_
              refine r_getR (k' := 227) dX12_turning_173 fl_X12_98 kdc_198 rfl ?_
              refine r_iload_n dX12_turning_176 rfl rfl ?_
              refine r_iconst ic_1 dX12_turning_177 ?_
              refine r_isub dX12_turning_178 ?_
              refine r_iald dX12_turning_179 kdc_227 (fun v20 => ?_)
              refine r_imul dX12_turning_180 ?_
              refine r_isub dX12_turning_181 ?_
              refine r_bndi (fun x21 => ?_)
              refine r_istore (l' := [.ref (ga g 198), .int c1, .int y2, .int y3, .int y4, .int x21, .int y6, .null, .null]) dX12_turning_182 (Nat.le_of_ble_eq_true rfl) rfl rfl ?_
              refine r_iconst ic_1 dX12_turning_184 ?_
              refine r_istore (l' := [.ref (ga g 198), .int c1, .int y2, .int y3, .int y4, .int x21, .int y6, .int 1, .null]) dX12_turning_185 (Nat.le_of_ble_eq_true rfl) rfl rfl ?_
              refine r_iconst ic_0 dX12_turning_187 ?_
              refine r_istore (l' := [.ref (ga g 198), .int c1, .int y2, .int y3, .int y4, .int x21, .int y6, .int 1, .int 0]) dX12_turning_188 (Nat.le_of_ble_eq_true rfl) rfl rfl ?_
              refine vX12_turning_L190 _ _ _ _ _ _ _ _ (fun e28 => ?_) FU _ _
              · refine r_iload dX12_turning_237 rfl ?_
                refine eJ (fun (J29 : (Int32) → Option (Int32 × Mem)) => ∀ (a30 : Int32), V g uX12_turning 2 rvW rmW 246 [.ref (ga g 198), .int c1, .int y2, .int a30, .int y4, .int x21, .int y6, .null, .null] [] M16 (J29 a30)) (fun a30 => ?_) (fun J29 hJ29 => ?_)
                · refine r_iload_n dX12_turning_246 rfl rfl ?_
                  refine r_iconst ic_1 dX12_turning_247 ?_
                  refine r_iadd dX12_turning_248 ?_
                  refine r_bndi (fun x31 => ?_)
                  refine r_istore_n (l' := [.ref (ga g 198), .int c1, .int x31, .int a30, .int y4, .int x21, .int y6, .null, .null]) dX12_turning_249 rfl (Nat.le_of_ble_eq_true rfl) rfl rfl ?_
                  exact hJ3 _ _ _ _ _
                · refine r_if_eq dX12_turning_239 (fun h => eT h ?_) (fun h => eF h ?_)
                  · exact vSub (l' := [.ref (ga g 198), .int c1, .int y2, .int y3, .int y4, .int x21, .int y6, .null, .null]) ⟨Or.inr rfl, ⟨Or.inr rfl, ⟨Or.inr rfl, ⟨Or.inr rfl, ⟨Or.inr rfl, ⟨Or.inr rfl, ⟨Or.inr rfl, ⟨Or.inl rfl, ⟨Or.inl rfl, trivial⟩⟩⟩⟩⟩⟩⟩⟩⟩ (hJ29 _)
                  · refine r_iload_n dX12_turning_242 rfl rfl ?_
                    refine r_iconst ic_1 dX12_turning_243 ?_
                    refine r_iadd dX12_turning_244 ?_
                    refine r_bndi (fun x32 => ?_)
                    refine r_istore_n (l' := [.ref (ga g 198), .int c1, .int y2, .int x32, .int y4, .int x21, .int y6, .int e28, .null]) dX12_turning_245 rfl (Nat.le_of_ble_eq_true rfl) rfl rfl ?_
                    exact vSub (l' := [.ref (ga g 198), .int c1, .int y2, .int x32, .int y4, .int x21, .int y6, .null, .null]) ⟨Or.inr rfl, ⟨Or.inr rfl, ⟨Or.inr rfl, ⟨Or.inr rfl, ⟨Or.inr rfl, ⟨Or.inr rfl, ⟨Or.inr rfl, ⟨Or.inl rfl, ⟨Or.inl rfl, trivial⟩⟩⟩⟩⟩⟩⟩⟩⟩ (hJ29 _)
            · refine r_icmp_ne dX12_turning_128 (fun h => eF h ?_) (fun h => eT h ?_)
              · refine r_iload dX12_turning_135 rfl ?_
                refine r_iconst ic_3 dX12_turning_137 ?_
                refine r_icmp_ne dX12_turning_138 (fun h => eF h ?_) (fun h => eT h ?_)
                · refine r_iconst ic_0 dX12_turning_145 ?_
                  exact hJ14 _
                · refine r_iconst ic_m1 dX12_turning_141 ?_
                  refine r_goto dX12_turning_142 ?_
                  exact hJ14 _
              · refine r_iconst ic_1 dX12_turning_131 ?_
                refine r_goto dX12_turning_132 ?_
                exact hJ14 _
          · refine r_if_ne dX12_turning_92 (fun h => eF h ?_) (fun h => eT h ?_)
            · refine r_iload dX12_turning_99 rfl ?_
              refine r_iconst ic_2 dX12_turning_101 ?_
              refine r_icmp_ne dX12_turning_102 (fun h => eF h ?_) (fun h => eT h ?_)
              · refine r_iconst ic_0 dX12_turning_109 ?_
                exact hJ10 _
              · refine r_iconst ic_m1 dX12_turning_105 ?_
                refine r_goto dX12_turning_106 ?_
                exact hJ10 _
            · refine r_iconst ic_1 dX12_turning_95 ?_
              refine r_goto dX12_turning_96 ?_
              exact hJ10 _
        · refine r_iload dX12_turning_51 rfl ?_
          refine r_aload_n dX12_turning_53 rfl rfl ?_
          refine r_getR (k' := 225) dX12_turning_54 fl_X12_92 kdc_198 rfl ?_
          refine r_iload dX12_turning_57 rfl ?_
          refine r_iald dX12_turning_59 kdc_225 (fun v33 => ?_)
          refine r_iconst ic_1 dX12_turning_60 ?_
          refine eJ (fun (J34 : (Int32) → Option (Int32 × Mem)) => ∀ (t35 : Int32), V g uX12_turning 2 rvW rmW 69 [.ref (ga g 198), .int c1, .int y2, .int y3, .null, .int y5, .int y6, .null, .null] [.int t35, .int y4] M (J34 t35)) (fun t35 => ?_) (fun J34 hJ34 => ?_)
          · refine r_iadd dX12_turning_69 ?_
            refine r_iconst ic_4 dX12_turning_70 ?_
            refine r_irem dX12_turning_71 (by decide) ?_
            refine r_bndi (fun x36 => ?_)
            refine r_istore (l' := [.ref (ga g 198), .int c1, .int y2, .int y3, .int x36, .int y5, .int y6, .null, .null]) dX12_turning_72 (Nat.le_of_ble_eq_true rfl) rfl rfl ?_
            refine r_goto dX12_turning_74 ?_
            exact hJ3 _ _ _ _ _
          · refine r_icmp_ne dX12_turning_61 (fun h => eF h ?_) (fun h => eT h ?_)
            · refine r_iconst ic_3 dX12_turning_68 ?_
              exact vSub (l' := [.ref (ga g 198), .int c1, .int y2, .int y3, .null, .int y5, .int y6, .null, .null]) ⟨Or.inr rfl, ⟨Or.inr rfl, ⟨Or.inr rfl, ⟨Or.inr rfl, ⟨Or.inl rfl, ⟨Or.inr rfl, ⟨Or.inr rfl, ⟨Or.inl rfl, ⟨Or.inl rfl, trivial⟩⟩⟩⟩⟩⟩⟩⟩⟩ (hJ34 _)
            · refine r_iconst ic_1 dX12_turning_64 ?_
              refine r_goto dX12_turning_65 ?_
              exact vSub (l' := [.ref (ga g 198), .int c1, .int y2, .int y3, .null, .int y5, .int y6, .null, .null]) ⟨Or.inr rfl, ⟨Or.inr rfl, ⟨Or.inr rfl, ⟨Or.inr rfl, ⟨Or.inl rfl, ⟨Or.inr rfl, ⟨Or.inr rfl, ⟨Or.inl rfl, ⟨Or.inl rfl, trivial⟩⟩⟩⟩⟩⟩⟩⟩⟩ (hJ34 _)
set_option maxHeartbeats 4000000 in
set_option maxRecDepth 100000 in
theorem vX12_turning {g : G}   (p1 : Int32) (M : Mem) : V g uX12_turning 2 rvW rmW 0 [.ref (ga g 198), .int p1, .null, .null, .null, .null, .null, .null, .null] [] M (fX12_turning p1 M) := by
  unfold fX12_turning
  refine r_aload_n dX12_turning_0 rfl rfl ?_
  refine r_iconst ic_0 dX12_turning_1 ?_
  refine r_put dX12_turning_2 fw_X12_122 kdc_198 (fun M1 => ?_)
  refine r_aload_n dX12_turning_5 rfl rfl ?_
  refine r_iload_n dX12_turning_6 rfl rfl ?_
  refine r_iconst ic_0 dX12_turning_7 ?_
  refine r_iconst ic_3 dX12_turning_8 ?_
  refine r_calliT (cl_V [.int p1, .int 0, .int 3] bX12_isIn (by decide) dX12_turning_9 ml_X12_140 kdc_198 rfl (Nat.le_of_ble_eq_true rfl) rfl) (kX12_isIn _ _ _ _) ?_
  refine r_if_ne dX12_turning_12 (fun h => eF h ?_) (fun h => eT h ?_)
  · refine r_iconst ic_1 dX12_turning_19 ?_
    refine r_istore_n (l' := [.ref (ga g 198), .int p1, .int 1, .null, .null, .null, .null, .null, .null]) dX12_turning_20 rfl (Nat.le_of_ble_eq_true rfl) rfl rfl ?_
    refine r_iconst ic_1 dX12_turning_21 ?_
    refine r_istore_n (l' := [.ref (ga g 198), .int p1, .int 1, .int 1, .null, .null, .null, .null, .null]) dX12_turning_22 rfl (Nat.le_of_ble_eq_true rfl) rfl rfl ?_
    refine r_iconst ic_0 dX12_turning_23 ?_
    refine r_istore (l' := [.ref (ga g 198), .int p1, .int 1, .int 1, .int 0, .null, .null, .null, .null]) dX12_turning_24 (Nat.le_of_ble_eq_true rfl) rfl rfl ?_
    refine r_iconst ic_0 dX12_turning_26 ?_
    refine r_istore (l' := [.ref (ga g 198), .int p1, .int 1, .int 1, .int 0, .int 0, .null, .null, .null]) dX12_turning_27 (Nat.le_of_ble_eq_true rfl) rfl rfl ?_
    refine r_iconst ic_0 dX12_turning_29 ?_
    refine r_istore (l' := [.ref (ga g 198), .int p1, .int 1, .int 1, .int 0, .int 0, .int 0, .null, .null]) dX12_turning_30 (Nat.le_of_ble_eq_true rfl) rfl rfl ?_
    refine vX12_turning_L32 _ _ (fun e37 e38 e39 M40 => ?_) FU _ _ _ _ _ _
    · refine r_aload_n dX12_turning_256 rfl rfl ?_
      refine r_getR (k' := 226) dX12_turning_257 fl_X12_95 kdc_198 rfl ?_
      refine r_iload_n dX12_turning_260 rfl rfl ?_
      refine r_iconst ic_1 dX12_turning_261 ?_
      refine r_isub dX12_turning_262 ?_
      refine r_iald dX12_turning_263 kdc_226 (fun v41 => ?_)
      refine r_istore (l' := [.ref (ga g 198), .int p1, .int e37, .int e38, .null, .int e39, .int v41, .null, .null]) dX12_turning_264 (Nat.le_of_ble_eq_true rfl) rfl rfl ?_
      refine r_aload_n dX12_turning_266 rfl rfl ?_
      refine r_getR (k' := 227) dX12_turning_267 fl_X12_98 kdc_198 rfl ?_
      refine r_iload_n dX12_turning_270 rfl rfl ?_
      refine r_iconst ic_1 dX12_turning_271 ?_
      refine r_isub dX12_turning_272 ?_
      refine r_iald dX12_turning_273 kdc_227 (fun v42 => ?_)
      refine r_istore (l' := [.ref (ga g 198), .int p1, .int e37, .int e38, .null, .int e39, .int v41, .int v42, .null]) dX12_turning_274 (Nat.le_of_ble_eq_true rfl) rfl rfl ?_
      refine r_iload_n dX12_turning_276 rfl rfl ?_
      refine r_iconst ic_3 dX12_turning_277 ?_
      refine r_icmp_ne dX12_turning_278 (fun h => eF h ?_) (fun h => eT h ?_)
      · refine r_iload_n dX12_turning_300 rfl rfl ?_
        refine r_if_ne dX12_turning_301 (fun h => eF h ?_) (fun h => eT h ?_)
        · refine r_iload_n dX12_turning_309 rfl rfl ?_
          refine r_iconst ic_1 dX12_turning_310 ?_
          refine r_icmp_ne dX12_turning_311 (fun h => eF h ?_) (fun h => eT h ?_)
          · refine r_iload_n dX12_turning_319 rfl rfl ?_
            exact vRet rfl rfl rfl dX12_turning_320
          · refine r_iload dX12_turning_314 rfl ?_
            refine r_goto dX12_turning_316 ?_
            exact vRet rfl rfl rfl dX12_turning_320
        · refine r_iload dX12_turning_304 rfl ?_
          refine r_goto dX12_turning_306 ?_
          exact vRet rfl rfl rfl dX12_turning_320
      · refine r_iload dX12_turning_281 rfl ?_
        refine r_if_ne dX12_turning_283 (fun h => eF h ?_) (fun h => eT h ?_)
        · refine r_sipush sp_m1000 dX12_turning_296 ?_
          exact vRet rfl rfl rfl dX12_turning_299
        · refine r_iload dX12_turning_286 rfl ?_
          refine r_if_ne dX12_turning_288 (fun h => eF h ?_) (fun h => eT h ?_)
          · refine r_sipush sp_m1000 dX12_turning_296 ?_
            exact vRet rfl rfl rfl dX12_turning_299
          · refine r_iload dX12_turning_291 rfl ?_
            refine r_goto dX12_turning_293 ?_
            exact vRet rfl rfl rfl dX12_turning_299
  · refine r_sipush sp_m10000 dX12_turning_15 ?_
    exact vRet rfl rfl rfl dX12_turning_18
theorem kX12_turning {g : G}   (p1 : Int32) (M : Mem) : CtrI g uX12_turning 2 (fun r => r.1) rmW [.ref (ga g 198), .int p1] M (fX12_turning p1 M) := CtrI.of mX12_turning rfl (Nat.le_of_ble_eq_true rfl) rfl (vX12_turning p1 M)
