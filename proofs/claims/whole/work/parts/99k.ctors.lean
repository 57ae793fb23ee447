/-! printed: the constructors of the class, a contract for each cell -/
set_option maxRecDepth 100000 in
set_option maxHeartbeats 4000000 in
theorem ctX9_2 {g : G} {N0 : Nat} : Ctor g N0 uX9_init 1 2 3 9 120 (.inr (9, [.int 0, .int 0, .int 0, .int 0, .int 0, .int 0, .null, .null, .null, .null, .null, .null, .null, .null, .null])) [] := by
  refine Ctor.of (l := [.ref (ga g 2)]) okX9_init rfl rfl (Nat.le_of_ble_eq_true rfl) rfl eX9_init_76.1 (fun C hC => ?_)
  refine z_begin hC ?_
  refine y_aload_n eX9_init_0 rfl rfl ?_
  refine y_objInit (by decide) kmX9_3 k_obi k_obc eX9_init_1 ?_
  refine y_aload_n eX9_init_4 rfl rfl ?_
  refine y_bipush (v := 12) (by decide) eX9_init_5 ?_
  refine z_newi (N := 12) (q := 3) (q' := 4) (i' := 1) (z' := 12) (by decide) (by decide) (Nat.le_of_ble_eq_true rfl) eX9_init_7 rfl rfl rfl (by decide) (by decide) (by decide) rfl (M0_0 (by decide)) rfl k_arr_int ?_
  refine z_put (j := 6) (fs' := [.int 0, .int 0, .int 0, .int 0, .int 0, .int 0, .ref (ga g 3), .null, .null, .null, .null, .null, .null, .null, .null]) clX9 (by decide) kfX9_9 rfl rfl rfl rfl rfl eX9_init_9 (by decide) (Nat.le_of_ble_eq_true rfl) rfl ?_
  refine y_aload_n eX9_init_12 rfl rfl ?_
  refine y_bipush (v := 12) (by decide) eX9_init_13 ?_
  refine z_newi (N := 12) (q := 4) (q' := 5) (i' := 2) (z' := 24) (by decide) (by decide) (Nat.le_of_ble_eq_true rfl) eX9_init_15 rfl rfl rfl (by decide) (by decide) (by decide) rfl (M0_0 (by decide)) rfl k_arr_int ?_
  refine z_put (j := 7) (fs' := [.int 0, .int 0, .int 0, .int 0, .int 0, .int 0, .ref (ga g 3), .ref (ga g 4), .null, .null, .null, .null, .null, .null, .null]) clX9 (by decide) kfX9_15 rfl rfl rfl rfl rfl eX9_init_17 (by decide) (Nat.le_of_ble_eq_true rfl) rfl ?_
  refine y_aload_n eX9_init_20 rfl rfl ?_
  refine y_bipush (v := 12) (by decide) eX9_init_21 ?_
  refine z_newi (N := 12) (q := 5) (q' := 6) (i' := 3) (z' := 36) (by decide) (by decide) (Nat.le_of_ble_eq_true rfl) eX9_init_23 rfl rfl rfl (by decide) (by decide) (by decide) rfl (M0_0 (by decide)) rfl k_arr_int ?_
  refine z_put (j := 8) (fs' := [.int 0, .int 0, .int 0, .int 0, .int 0, .int 0, .ref (ga g 3), .ref (ga g 4), .ref (ga g 5), .null, .null, .null, .null, .null, .null]) clX9 (by decide) kfX9_18 rfl rfl rfl rfl rfl eX9_init_25 (by decide) (Nat.le_of_ble_eq_true rfl) rfl ?_
  refine y_aload_n eX9_init_28 rfl rfl ?_
  refine y_bipush (v := 14) (by decide) eX9_init_29 ?_
  refine z_newi (N := 14) (q := 6) (q' := 7) (i' := 4) (z' := 50) (by decide) (by decide) (Nat.le_of_ble_eq_true rfl) eX9_init_31 rfl rfl rfl (by decide) (by decide) (by decide) rfl (M0_0 (by decide)) rfl k_arr_int ?_
  refine z_put (j := 9) (fs' := [.int 0, .int 0, .int 0, .int 0, .int 0, .int 0, .ref (ga g 3), .ref (ga g 4), .ref (ga g 5), .ref (ga g 6), .null, .null, .null, .null, .null]) clX9 (by decide) kfX9_21 rfl rfl rfl rfl rfl eX9_init_33 (by decide) (Nat.le_of_ble_eq_true rfl) rfl ?_
  refine y_aload_n eX9_init_36 rfl rfl ?_
  refine y_bipush (v := 14) (by decide) eX9_init_37 ?_
  refine z_newi (N := 14) (q := 7) (q' := 8) (i' := 5) (z' := 64) (by decide) (by decide) (Nat.le_of_ble_eq_true rfl) eX9_init_39 rfl rfl rfl (by decide) (by decide) (by decide) rfl (M0_0 (by decide)) rfl k_arr_int ?_
  refine z_put (j := 10) (fs' := [.int 0, .int 0, .int 0, .int 0, .int 0, .int 0, .ref (ga g 3), .ref (ga g 4), .ref (ga g 5), .ref (ga g 6), .ref (ga g 7), .null, .null, .null, .null]) clX9 (by decide) kfX9_24 rfl rfl rfl rfl rfl eX9_init_41 (by decide) (Nat.le_of_ble_eq_true rfl) rfl ?_
  refine y_aload_n eX9_init_44 rfl rfl ?_
  refine y_bipush (v := 14) (by decide) eX9_init_45 ?_
  refine z_newi (N := 14) (q := 8) (q' := 9) (i' := 6) (z' := 78) (by decide) (by decide) (Nat.le_of_ble_eq_true rfl) eX9_init_47 rfl rfl rfl (by decide) (by decide) (by decide) rfl (M0_0 (by decide)) rfl k_arr_int ?_
  refine z_put (j := 11) (fs' := [.int 0, .int 0, .int 0, .int 0, .int 0, .int 0, .ref (ga g 3), .ref (ga g 4), .ref (ga g 5), .ref (ga g 6), .ref (ga g 7), .ref (ga g 8), .null, .null, .null]) clX9 (by decide) kfX9_27 rfl rfl rfl rfl rfl eX9_init_49 (by decide) (Nat.le_of_ble_eq_true rfl) rfl ?_
  refine y_aload_n eX9_init_52 rfl rfl ?_
  refine y_bipush (v := 14) (by decide) eX9_init_53 ?_
  refine z_newi (N := 14) (q := 9) (q' := 10) (i' := 7) (z' := 92) (by decide) (by decide) (Nat.le_of_ble_eq_true rfl) eX9_init_55 rfl rfl rfl (by decide) (by decide) (by decide) rfl (M0_0 (by decide)) rfl k_arr_int ?_
  refine z_put (j := 12) (fs' := [.int 0, .int 0, .int 0, .int 0, .int 0, .int 0, .ref (ga g 3), .ref (ga g 4), .ref (ga g 5), .ref (ga g 6), .ref (ga g 7), .ref (ga g 8), .ref (ga g 9), .null, .null]) clX9 (by decide) kfX9_30 rfl rfl rfl rfl rfl eX9_init_57 (by decide) (Nat.le_of_ble_eq_true rfl) rfl ?_
  refine y_aload_n eX9_init_60 rfl rfl ?_
  refine y_bipush (v := 14) (by decide) eX9_init_61 ?_
  refine z_newi (N := 14) (q := 10) (q' := 11) (i' := 8) (z' := 106) (by decide) (by decide) (Nat.le_of_ble_eq_true rfl) eX9_init_63 rfl rfl rfl (by decide) (by decide) (by decide) rfl (M0_0 (by decide)) rfl k_arr_int ?_
  refine z_put (j := 13) (fs' := [.int 0, .int 0, .int 0, .int 0, .int 0, .int 0, .ref (ga g 3), .ref (ga g 4), .ref (ga g 5), .ref (ga g 6), .ref (ga g 7), .ref (ga g 8), .ref (ga g 9), .ref (ga g 10), .null]) clX9 (by decide) kfX9_33 rfl rfl rfl rfl rfl eX9_init_65 (by decide) (Nat.le_of_ble_eq_true rfl) rfl ?_
  refine y_aload_n eX9_init_68 rfl rfl ?_
  refine y_bipush (v := 14) (by decide) eX9_init_69 ?_
  refine z_newi (N := 14) (q := 11) (q' := 12) (i' := 9) (z' := 120) (by decide) (by decide) (Nat.le_of_ble_eq_true rfl) eX9_init_71 rfl rfl rfl (by decide) (by decide) (by decide) rfl (M0_0 (by decide)) rfl k_arr_int ?_
  refine z_put (j := 14) (fs' := [.int 0, .int 0, .int 0, .int 0, .int 0, .int 0, .ref (ga g 3), .ref (ga g 4), .ref (ga g 5), .ref (ga g 6), .ref (ga g 7), .ref (ga g 8), .ref (ga g 9), .ref (ga g 10), .ref (ga g 11)]) clX9 (by decide) kfX9_36 rfl rfl rfl rfl rfl eX9_init_73 (by decide) (Nat.le_of_ble_eq_true rfl) rfl ?_
  exact z_end (by decide) rfl (by rw [ent_obj g M0 rfl (by decide)]; rfl)
set_option maxRecDepth 100000 in
set_option maxHeartbeats 4000000 in
theorem ctX3_12 {g : G} {N0 : Nat} : Ctor g N0 uX3_init 1 12 13 4 600 (.inr (3, [.int 0, .int 0, .null, .null, .null, .null])) [.int 150] := by
  refine Ctor.of (l := [.ref (ga g 12), .int 150]) okX3_init rfl rfl (Nat.le_of_ble_eq_true rfl) rfl eX3_init_53.1 (fun C hC => ?_)
  refine z_begin hC ?_
  refine y_aload_n eX3_init_0 rfl rfl ?_
  refine y_objInit (by decide) kmX3_1 k_obi k_obc eX3_init_1 ?_
  refine y_aload_n eX3_init_4 rfl rfl ?_
  refine y_iconst (v := 0) (by decide) eX3_init_5 ?_
  refine y_iload_n eX3_init_6 rfl rfl ?_
  refine y_max (v := 150) (by decide) (Nat.le_of_ble_eq_true rfl) kmX3_7 k_mxs k_mxi k_mxc eX3_init_7 (by decide) (by decide) (by decide) ?_
  refine z_put (j := 1) (fs' := [.int 0, .int 150, .null, .null, .null, .null]) clX3 (by decide) kfX3_13 rfl rfl rfl rfl rfl eX3_init_10 (by decide) (Nat.le_of_ble_eq_true rfl) rfl ?_
  refine y_aload_n eX3_init_13 rfl rfl ?_
  refine y_aload_n eX3_init_14 rfl rfl ?_
  refine z_get (j := 1) (v := .int 150) clX3 (by decide) kfX3_13 eX3_init_15 (by decide) rfl ?_
  refine z_newi (N := 150) (q := 13) (q' := 14) (i' := 1) (z' := 150) (by decide) (by decide) (Nat.le_of_ble_eq_true rfl) eX3_init_18 rfl rfl rfl (by decide) (by decide) (by decide) rfl (M0_0 (by decide)) rfl k_arr_int ?_
  refine z_put (j := 2) (fs' := [.int 0, .int 150, .ref (ga g 13), .null, .null, .null]) clX3 (by decide) kfX3_19 rfl rfl rfl rfl rfl eX3_init_20 (by decide) (Nat.le_of_ble_eq_true rfl) rfl ?_
  refine y_aload_n eX3_init_23 rfl rfl ?_
  refine y_aload_n eX3_init_24 rfl rfl ?_
  refine z_get (j := 1) (v := .int 150) clX3 (by decide) kfX3_13 eX3_init_25 (by decide) rfl ?_
  refine z_newi (N := 150) (q := 14) (q' := 15) (i' := 2) (z' := 300) (by decide) (by decide) (Nat.le_of_ble_eq_true rfl) eX3_init_28 rfl rfl rfl (by decide) (by decide) (by decide) rfl (M0_0 (by decide)) rfl k_arr_int ?_
  refine z_put (j := 3) (fs' := [.int 0, .int 150, .ref (ga g 13), .ref (ga g 14), .null, .null]) clX3 (by decide) kfX3_23 rfl rfl rfl rfl rfl eX3_init_30 (by decide) (Nat.le_of_ble_eq_true rfl) rfl ?_
  refine y_aload_n eX3_init_33 rfl rfl ?_
  refine y_aload_n eX3_init_34 rfl rfl ?_
  refine z_get (j := 1) (v := .int 150) clX3 (by decide) kfX3_13 eX3_init_35 (by decide) rfl ?_
  refine z_newi (N := 150) (q := 15) (q' := 16) (i' := 3) (z' := 450) (by decide) (by decide) (Nat.le_of_ble_eq_true rfl) eX3_init_38 rfl rfl rfl (by decide) (by decide) (by decide) rfl (M0_0 (by decide)) rfl k_arr_int ?_
  refine z_put (j := 4) (fs' := [.int 0, .int 150, .ref (ga g 13), .ref (ga g 14), .ref (ga g 15), .null]) clX3 (by decide) kfX3_26 rfl rfl rfl rfl rfl eX3_init_40 (by decide) (Nat.le_of_ble_eq_true rfl) rfl ?_
  refine y_aload_n eX3_init_43 rfl rfl ?_
  refine y_aload_n eX3_init_44 rfl rfl ?_
  refine z_get (j := 1) (v := .int 150) clX3 (by decide) kfX3_13 eX3_init_45 (by decide) rfl ?_
  refine z_newi (N := 150) (q := 16) (q' := 17) (i' := 4) (z' := 600) (by decide) (by decide) (Nat.le_of_ble_eq_true rfl) eX3_init_48 rfl rfl rfl (by decide) (by decide) (by decide) rfl (M0_0 (by decide)) rfl k_arr_int ?_
  refine z_put (j := 5) (fs' := [.int 0, .int 150, .ref (ga g 13), .ref (ga g 14), .ref (ga g 15), .ref (ga g 16)]) clX3 (by decide) kfX3_29 rfl rfl rfl rfl rfl eX3_init_50 (by decide) (Nat.le_of_ble_eq_true rfl) rfl ?_
  exact z_end (by decide) rfl (by rw [ent_obj g M0 rfl (by decide)]; rfl)
set_option maxRecDepth 100000 in
set_option maxHeartbeats 4000000 in
theorem ctX1_17 {g : G} {N0 : Nat} : Ctor g N0 uX1_init 1 17 18 7 506 (.inr (1, [.int 0, .int 0, .null, .null, .null, .null, .null, .null, .null])) [] := by
  refine Ctor.of (l := [.ref (ga g 17)]) okX1_init rfl rfl (Nat.le_of_ble_eq_true rfl) rfl eX1_init_61.1 (fun C hC => ?_)
  refine z_begin hC ?_
  refine y_aload_n eX1_init_0 rfl rfl ?_
  refine y_objInit (by decide) kmX1_3 k_obi k_obc eX1_init_1 ?_
  refine y_aload_n eX1_init_4 rfl rfl ?_
  refine y_bipush (v := 16) (by decide) eX1_init_5 ?_
  refine z_newi (N := 16) (q := 18) (q' := 19) (i' := 1) (z' := 16) (by decide) (by decide) (Nat.le_of_ble_eq_true rfl) eX1_init_7 rfl rfl rfl (by decide) (by decide) (by decide) rfl (M0_0 (by decide)) rfl k_arr_int ?_
  refine z_put (j := 2) (fs' := [.int 0, .int 0, .ref (ga g 18), .null, .null, .null, .null, .null, .null]) clX1 (by decide) kfX1_9 rfl rfl rfl rfl rfl eX1_init_9 (by decide) (Nat.le_of_ble_eq_true rfl) rfl ?_
  refine y_aload_n eX1_init_12 rfl rfl ?_
  refine y_bipush (v := 16) (by decide) eX1_init_13 ?_
  refine z_newi (N := 16) (q := 19) (q' := 20) (i' := 2) (z' := 32) (by decide) (by decide) (Nat.le_of_ble_eq_true rfl) eX1_init_15 rfl rfl rfl (by decide) (by decide) (by decide) rfl (M0_0 (by decide)) rfl k_arr_int ?_
  refine z_put (j := 3) (fs' := [.int 0, .int 0, .ref (ga g 18), .ref (ga g 19), .null, .null, .null, .null, .null]) clX1 (by decide) kfX1_15 rfl rfl rfl rfl rfl eX1_init_17 (by decide) (Nat.le_of_ble_eq_true rfl) rfl ?_
  refine y_aload_n eX1_init_20 rfl rfl ?_
  refine y_bipush (v := 16) (by decide) eX1_init_21 ?_
  refine z_newi (N := 16) (q := 20) (q' := 21) (i' := 3) (z' := 48) (by decide) (by decide) (Nat.le_of_ble_eq_true rfl) eX1_init_23 rfl rfl rfl (by decide) (by decide) (by decide) rfl (M0_0 (by decide)) rfl k_arr_int ?_
  refine z_put (j := 4) (fs' := [.int 0, .int 0, .ref (ga g 18), .ref (ga g 19), .ref (ga g 20), .null, .null, .null, .null]) clX1 (by decide) kfX1_18 rfl rfl rfl rfl rfl eX1_init_25 (by decide) (Nat.le_of_ble_eq_true rfl) rfl ?_
  refine y_aload_n eX1_init_28 rfl rfl ?_
  refine y_bipush (v := 16) (by decide) eX1_init_29 ?_
  refine z_newi (N := 16) (q := 21) (q' := 22) (i' := 4) (z' := 64) (by decide) (by decide) (Nat.le_of_ble_eq_true rfl) eX1_init_31 rfl rfl rfl (by decide) (by decide) (by decide) rfl (M0_0 (by decide)) rfl k_arr_int ?_
  refine z_put (j := 5) (fs' := [.int 0, .int 0, .ref (ga g 18), .ref (ga g 19), .ref (ga g 20), .ref (ga g 21), .null, .null, .null]) clX1 (by decide) kfX1_21 rfl rfl rfl rfl rfl eX1_init_33 (by decide) (Nat.le_of_ble_eq_true rfl) rfl ?_
  refine y_aload_n eX1_init_36 rfl rfl ?_
  refine y_sipush (v := 400) (by decide) eX1_init_37 ?_
  refine z_newi (N := 400) (q := 22) (q' := 23) (i' := 5) (z' := 464) (by decide) (by decide) (Nat.le_of_ble_eq_true rfl) eX1_init_40 rfl rfl rfl (by decide) (by decide) (by decide) rfl (M0_0 (by decide)) rfl k_arr_int ?_
  refine z_put (j := 6) (fs' := [.int 0, .int 0, .ref (ga g 18), .ref (ga g 19), .ref (ga g 20), .ref (ga g 21), .ref (ga g 22), .null, .null]) clX1 (by decide) kfX1_24 rfl rfl rfl rfl rfl eX1_init_42 (by decide) (Nat.le_of_ble_eq_true rfl) rfl ?_
  refine y_aload_n eX1_init_45 rfl rfl ?_
  refine y_bipush (v := 10) (by decide) eX1_init_46 ?_
  refine z_newi (N := 10) (q := 23) (q' := 24) (i' := 6) (z' := 474) (by decide) (by decide) (Nat.le_of_ble_eq_true rfl) eX1_init_48 rfl rfl rfl (by decide) (by decide) (by decide) rfl (M0_0 (by decide)) rfl k_arr_int ?_
  refine z_put (j := 7) (fs' := [.int 0, .int 0, .ref (ga g 18), .ref (ga g 19), .ref (ga g 20), .ref (ga g 21), .ref (ga g 22), .ref (ga g 23), .null]) clX1 (by decide) kfX1_27 rfl rfl rfl rfl rfl eX1_init_50 (by decide) (Nat.le_of_ble_eq_true rfl) rfl ?_
  refine y_aload_n eX1_init_53 rfl rfl ?_
  refine y_bipush (v := 32) (by decide) eX1_init_54 ?_
  refine z_newi (N := 32) (q := 24) (q' := 25) (i' := 7) (z' := 506) (by decide) (by decide) (Nat.le_of_ble_eq_true rfl) eX1_init_56 rfl rfl rfl (by decide) (by decide) (by decide) rfl (M0_0 (by decide)) rfl k_arr_int ?_
  refine z_put (j := 8) (fs' := [.int 0, .int 0, .ref (ga g 18), .ref (ga g 19), .ref (ga g 20), .ref (ga g 21), .ref (ga g 22), .ref (ga g 23), .ref (ga g 24)]) clX1 (by decide) kfX1_30 rfl rfl rfl rfl rfl eX1_init_58 (by decide) (Nat.le_of_ble_eq_true rfl) rfl ?_
  exact z_end (by decide) rfl (by rw [ent_obj g M0 rfl (by decide)]; rfl)
set_option maxRecDepth 100000 in
set_option maxHeartbeats 4000000 in
theorem ctX3_25 {g : G} {N0 : Nat} : Ctor g N0 uX3_init 1 25 26 4 64 (.inr (3, [.int 0, .int 0, .null, .null, .null, .null])) [.int 16] := by
  refine Ctor.of (l := [.ref (ga g 25), .int 16]) okX3_init rfl rfl (Nat.le_of_ble_eq_true rfl) rfl eX3_init_53.1 (fun C hC => ?_)
  refine z_begin hC ?_
  refine y_aload_n eX3_init_0 rfl rfl ?_
  refine y_objInit (by decide) kmX3_1 k_obi k_obc eX3_init_1 ?_
  refine y_aload_n eX3_init_4 rfl rfl ?_
  refine y_iconst (v := 0) (by decide) eX3_init_5 ?_
  refine y_iload_n eX3_init_6 rfl rfl ?_
  refine y_max (v := 16) (by decide) (Nat.le_of_ble_eq_true rfl) kmX3_7 k_mxs k_mxi k_mxc eX3_init_7 (by decide) (by decide) (by decide) ?_
  refine z_put (j := 1) (fs' := [.int 0, .int 16, .null, .null, .null, .null]) clX3 (by decide) kfX3_13 rfl rfl rfl rfl rfl eX3_init_10 (by decide) (Nat.le_of_ble_eq_true rfl) rfl ?_
  refine y_aload_n eX3_init_13 rfl rfl ?_
  refine y_aload_n eX3_init_14 rfl rfl ?_
  refine z_get (j := 1) (v := .int 16) clX3 (by decide) kfX3_13 eX3_init_15 (by decide) rfl ?_
  refine z_newi (N := 16) (q := 26) (q' := 27) (i' := 1) (z' := 16) (by decide) (by decide) (Nat.le_of_ble_eq_true rfl) eX3_init_18 rfl rfl rfl (by decide) (by decide) (by decide) rfl (M0_0 (by decide)) rfl k_arr_int ?_
  refine z_put (j := 2) (fs' := [.int 0, .int 16, .ref (ga g 26), .null, .null, .null]) clX3 (by decide) kfX3_19 rfl rfl rfl rfl rfl eX3_init_20 (by decide) (Nat.le_of_ble_eq_true rfl) rfl ?_
  refine y_aload_n eX3_init_23 rfl rfl ?_
  refine y_aload_n eX3_init_24 rfl rfl ?_
  refine z_get (j := 1) (v := .int 16) clX3 (by decide) kfX3_13 eX3_init_25 (by decide) rfl ?_
  refine z_newi (N := 16) (q := 27) (q' := 28) (i' := 2) (z' := 32) (by decide) (by decide) (Nat.le_of_ble_eq_true rfl) eX3_init_28 rfl rfl rfl (by decide) (by decide) (by decide) rfl (M0_0 (by decide)) rfl k_arr_int ?_
  refine z_put (j := 3) (fs' := [.int 0, .int 16, .ref (ga g 26), .ref (ga g 27), .null, .null]) clX3 (by decide) kfX3_23 rfl rfl rfl rfl rfl eX3_init_30 (by decide) (Nat.le_of_ble_eq_true rfl) rfl ?_
  refine y_aload_n eX3_init_33 rfl rfl ?_
  refine y_aload_n eX3_init_34 rfl rfl ?_
  refine z_get (j := 1) (v := .int 16) clX3 (by decide) kfX3_13 eX3_init_35 (by decide) rfl ?_
  refine z_newi (N := 16) (q := 28) (q' := 29) (i' := 3) (z' := 48) (by decide) (by decide) (Nat.le_of_ble_eq_true rfl) eX3_init_38 rfl rfl rfl (by decide) (by decide) (by decide) rfl (M0_0 (by decide)) rfl k_arr_int ?_
  refine z_put (j := 4) (fs' := [.int 0, .int 16, .ref (ga g 26), .ref (ga g 27), .ref (ga g 28), .null]) clX3 (by decide) kfX3_26 rfl rfl rfl rfl rfl eX3_init_40 (by decide) (Nat.le_of_ble_eq_true rfl) rfl ?_
  refine y_aload_n eX3_init_43 rfl rfl ?_
  refine y_aload_n eX3_init_44 rfl rfl ?_
  refine z_get (j := 1) (v := .int 16) clX3 (by decide) kfX3_13 eX3_init_45 (by decide) rfl ?_
  refine z_newi (N := 16) (q := 29) (q' := 30) (i' := 4) (z' := 64) (by decide) (by decide) (Nat.le_of_ble_eq_true rfl) eX3_init_48 rfl rfl rfl (by decide) (by decide) (by decide) rfl (M0_0 (by decide)) rfl k_arr_int ?_
  refine z_put (j := 5) (fs' := [.int 0, .int 16, .ref (ga g 26), .ref (ga g 27), .ref (ga g 28), .ref (ga g 29)]) clX3 (by decide) kfX3_29 rfl rfl rfl rfl rfl eX3_init_50 (by decide) (Nat.le_of_ble_eq_true rfl) rfl ?_
  exact z_end (by decide) rfl (by rw [ent_obj g M0 rfl (by decide)]; rfl)
set_option maxRecDepth 100000 in
set_option maxHeartbeats 4000000 in
theorem ctX3_30 {g : G} {N0 : Nat} : Ctor g N0 uX3_init 1 30 31 4 64 (.inr (3, [.int 0, .int 0, .null, .null, .null, .null])) [.int 16] := by
  refine Ctor.of (l := [.ref (ga g 30), .int 16]) okX3_init rfl rfl (Nat.le_of_ble_eq_true rfl) rfl eX3_init_53.1 (fun C hC => ?_)
  refine z_begin hC ?_
  refine y_aload_n eX3_init_0 rfl rfl ?_
  refine y_objInit (by decide) kmX3_1 k_obi k_obc eX3_init_1 ?_
  refine y_aload_n eX3_init_4 rfl rfl ?_
  refine y_iconst (v := 0) (by decide) eX3_init_5 ?_
  refine y_iload_n eX3_init_6 rfl rfl ?_
  refine y_max (v := 16) (by decide) (Nat.le_of_ble_eq_true rfl) kmX3_7 k_mxs k_mxi k_mxc eX3_init_7 (by decide) (by decide) (by decide) ?_
  refine z_put (j := 1) (fs' := [.int 0, .int 16, .null, .null, .null, .null]) clX3 (by decide) kfX3_13 rfl rfl rfl rfl rfl eX3_init_10 (by decide) (Nat.le_of_ble_eq_true rfl) rfl ?_
  refine y_aload_n eX3_init_13 rfl rfl ?_
  refine y_aload_n eX3_init_14 rfl rfl ?_
  refine z_get (j := 1) (v := .int 16) clX3 (by decide) kfX3_13 eX3_init_15 (by decide) rfl ?_
  refine z_newi (N := 16) (q := 31) (q' := 32) (i' := 1) (z' := 16) (by decide) (by decide) (Nat.le_of_ble_eq_true rfl) eX3_init_18 rfl rfl rfl (by decide) (by decide) (by decide) rfl (M0_0 (by decide)) rfl k_arr_int ?_
  refine z_put (j := 2) (fs' := [.int 0, .int 16, .ref (ga g 31), .null, .null, .null]) clX3 (by decide) kfX3_19 rfl rfl rfl rfl rfl eX3_init_20 (by decide) (Nat.le_of_ble_eq_true rfl) rfl ?_
  refine y_aload_n eX3_init_23 rfl rfl ?_
  refine y_aload_n eX3_init_24 rfl rfl ?_
  refine z_get (j := 1) (v := .int 16) clX3 (by decide) kfX3_13 eX3_init_25 (by decide) rfl ?_
  refine z_newi (N := 16) (q := 32) (q' := 33) (i' := 2) (z' := 32) (by decide) (by decide) (Nat.le_of_ble_eq_true rfl) eX3_init_28 rfl rfl rfl (by decide) (by decide) (by decide) rfl (M0_0 (by decide)) rfl k_arr_int ?_
  refine z_put (j := 3) (fs' := [.int 0, .int 16, .ref (ga g 31), .ref (ga g 32), .null, .null]) clX3 (by decide) kfX3_23 rfl rfl rfl rfl rfl eX3_init_30 (by decide) (Nat.le_of_ble_eq_true rfl) rfl ?_
  refine y_aload_n eX3_init_33 rfl rfl ?_
  refine y_aload_n eX3_init_34 rfl rfl ?_
  refine z_get (j := 1) (v := .int 16) clX3 (by decide) kfX3_13 eX3_init_35 (by decide) rfl ?_
  refine z_newi (N := 16) (q := 33) (q' := 34) (i' := 3) (z' := 48) (by decide) (by decide) (Nat.le_of_ble_eq_true rfl) eX3_init_38 rfl rfl rfl (by decide) (by decide) (by decide) rfl (M0_0 (by decide)) rfl k_arr_int ?_
  refine z_put (j := 4) (fs' := [.int 0, .int 16, .ref (ga g 31), .ref (ga g 32), .ref (ga g 33), .null]) clX3 (by decide) kfX3_26 rfl rfl rfl rfl rfl eX3_init_40 (by decide) (Nat.le_of_ble_eq_true rfl) rfl ?_
  refine y_aload_n eX3_init_43 rfl rfl ?_
  refine y_aload_n eX3_init_44 rfl rfl ?_
  refine z_get (j := 1) (v := .int 16) clX3 (by decide) kfX3_13 eX3_init_45 (by decide) rfl ?_
  refine z_newi (N := 16) (q := 34) (q' := 35) (i' := 4) (z' := 64) (by decide) (by decide) (Nat.le_of_ble_eq_true rfl) eX3_init_48 rfl rfl rfl (by decide) (by decide) (by decide) rfl (M0_0 (by decide)) rfl k_arr_int ?_
  refine z_put (j := 5) (fs' := [.int 0, .int 16, .ref (ga g 31), .ref (ga g 32), .ref (ga g 33), .ref (ga g 34)]) clX3 (by decide) kfX3_29 rfl rfl rfl rfl rfl eX3_init_50 (by decide) (Nat.le_of_ble_eq_true rfl) rfl ?_
  exact z_end (by decide) rfl (by rw [ent_obj g M0 rfl (by decide)]; rfl)
set_option maxRecDepth 100000 in
set_option maxHeartbeats 4000000 in
theorem ctX3_35 {g : G} {N0 : Nat} : Ctor g N0 uX3_init 1 35 36 4 64 (.inr (3, [.int 0, .int 0, .null, .null, .null, .null])) [.int 16] := by
  refine Ctor.of (l := [.ref (ga g 35), .int 16]) okX3_init rfl rfl (Nat.le_of_ble_eq_true rfl) rfl eX3_init_53.1 (fun C hC => ?_)
  refine z_begin hC ?_
  refine y_aload_n eX3_init_0 rfl rfl ?_
  refine y_objInit (by decide) kmX3_1 k_obi k_obc eX3_init_1 ?_
  refine y_aload_n eX3_init_4 rfl rfl ?_
  refine y_iconst (v := 0) (by decide) eX3_init_5 ?_
  refine y_iload_n eX3_init_6 rfl rfl ?_
  refine y_max (v := 16) (by decide) (Nat.le_of_ble_eq_true rfl) kmX3_7 k_mxs k_mxi k_mxc eX3_init_7 (by decide) (by decide) (by decide) ?_
  refine z_put (j := 1) (fs' := [.int 0, .int 16, .null, .null, .null, .null]) clX3 (by decide) kfX3_13 rfl rfl rfl rfl rfl eX3_init_10 (by decide) (Nat.le_of_ble_eq_true rfl) rfl ?_
  refine y_aload_n eX3_init_13 rfl rfl ?_
  refine y_aload_n eX3_init_14 rfl rfl ?_
  refine z_get (j := 1) (v := .int 16) clX3 (by decide) kfX3_13 eX3_init_15 (by decide) rfl ?_
  refine z_newi (N := 16) (q := 36) (q' := 37) (i' := 1) (z' := 16) (by decide) (by decide) (Nat.le_of_ble_eq_true rfl) eX3_init_18 rfl rfl rfl (by decide) (by decide) (by decide) rfl (M0_0 (by decide)) rfl k_arr_int ?_
  refine z_put (j := 2) (fs' := [.int 0, .int 16, .ref (ga g 36), .null, .null, .null]) clX3 (by decide) kfX3_19 rfl rfl rfl rfl rfl eX3_init_20 (by decide) (Nat.le_of_ble_eq_true rfl) rfl ?_
  refine y_aload_n eX3_init_23 rfl rfl ?_
  refine y_aload_n eX3_init_24 rfl rfl ?_
  refine z_get (j := 1) (v := .int 16) clX3 (by decide) kfX3_13 eX3_init_25 (by decide) rfl ?_
  refine z_newi (N := 16) (q := 37) (q' := 38) (i' := 2) (z' := 32) (by decide) (by decide) (Nat.le_of_ble_eq_true rfl) eX3_init_28 rfl rfl rfl (by decide) (by decide) (by decide) rfl (M0_0 (by decide)) rfl k_arr_int ?_
  refine z_put (j := 3) (fs' := [.int 0, .int 16, .ref (ga g 36), .ref (ga g 37), .null, .null]) clX3 (by decide) kfX3_23 rfl rfl rfl rfl rfl eX3_init_30 (by decide) (Nat.le_of_ble_eq_true rfl) rfl ?_
  refine y_aload_n eX3_init_33 rfl rfl ?_
  refine y_aload_n eX3_init_34 rfl rfl ?_
  refine z_get (j := 1) (v := .int 16) clX3 (by decide) kfX3_13 eX3_init_35 (by decide) rfl ?_
  refine z_newi (N := 16) (q := 38) (q' := 39) (i' := 3) (z' := 48) (by decide) (by decide) (Nat.le_of_ble_eq_true rfl) eX3_init_38 rfl rfl rfl (by decide) (by decide) (by decide) rfl (M0_0 (by decide)) rfl k_arr_int ?_
  refine z_put (j := 4) (fs' := [.int 0, .int 16, .ref (ga g 36), .ref (ga g 37), .ref (ga g 38), .null]) clX3 (by decide) kfX3_26 rfl rfl rfl rfl rfl eX3_init_40 (by decide) (Nat.le_of_ble_eq_true rfl) rfl ?_
  refine y_aload_n eX3_init_43 rfl rfl ?_
  refine y_aload_n eX3_init_44 rfl rfl ?_
  refine z_get (j := 1) (v := .int 16) clX3 (by decide) kfX3_13 eX3_init_45 (by decide) rfl ?_
  refine z_newi (N := 16) (q := 39) (q' := 40) (i' := 4) (z' := 64) (by decide) (by decide) (Nat.le_of_ble_eq_true rfl) eX3_init_48 rfl rfl rfl (by decide) (by decide) (by decide) rfl (M0_0 (by decide)) rfl k_arr_int ?_
  refine z_put (j := 5) (fs' := [.int 0, .int 16, .ref (ga g 36), .ref (ga g 37), .ref (ga g 38), .ref (ga g 39)]) clX3 (by decide) kfX3_29 rfl rfl rfl rfl rfl eX3_init_50 (by decide) (Nat.le_of_ble_eq_true rfl) rfl ?_
  exact z_end (by decide) rfl (by rw [ent_obj g M0 rfl (by decide)]; rfl)
set_option maxRecDepth 100000 in
set_option maxHeartbeats 4000000 in
theorem ctX7_41 {g : G} {N0 : Nat} : Ctor g N0 uX7_init 1 41 42 1 14 (.inr (7, [.int 0, .null, .int 0, .int 0, .int 0])) [.int 14, .int 0, .int 9, .int 0] := by
  refine Ctor.of (l := [.ref (ga g 41), .int 14, .int 0, .int 9, .int 0]) okX7_init rfl rfl (Nat.le_of_ble_eq_true rfl) rfl eX7_init_31.1 (fun C hC => ?_)
  refine z_begin hC ?_
  refine y_aload_n eX7_init_0 rfl rfl ?_
  refine y_objInit (by decide) kmX7_3 k_obi k_obc eX7_init_1 ?_
  refine y_aload_n eX7_init_4 rfl rfl ?_
  refine y_iconst (v := 0) (by decide) eX7_init_5 ?_
  refine y_iload_n eX7_init_6 rfl rfl ?_
  refine y_max (v := 14) (by decide) (Nat.le_of_ble_eq_true rfl) kmX7_9 k_mxs k_mxi k_mxc eX7_init_7 (by decide) (by decide) (by decide) ?_
  refine z_newi (N := 14) (q := 42) (q' := 43) (i' := 1) (z' := 14) (by decide) (by decide) (Nat.le_of_ble_eq_true rfl) eX7_init_10 rfl rfl rfl (by decide) (by decide) (by decide) rfl (M0_0 (by decide)) rfl k_arr_int ?_
  refine z_put (j := 1) (fs' := [.int 0, .ref (ga g 42), .int 0, .int 0, .int 0]) clX7 (by decide) kfX7_15 rfl rfl rfl rfl rfl eX7_init_12 (by decide) (Nat.le_of_ble_eq_true rfl) rfl ?_
  refine y_aload_n eX7_init_15 rfl rfl ?_
  refine y_iload_n eX7_init_16 rfl rfl ?_
  refine z_put (j := 2) (fs' := [.int 0, .ref (ga g 42), .int 0, .int 0, .int 0]) clX7 (by decide) kfX7_21 rfl rfl rfl rfl rfl eX7_init_17 (by decide) (Nat.le_of_ble_eq_true rfl) rfl ?_
  refine y_aload_n eX7_init_20 rfl rfl ?_
  refine y_iload_n eX7_init_21 rfl rfl ?_
  refine z_put (j := 3) (fs' := [.int 0, .ref (ga g 42), .int 0, .int 9, .int 0]) clX7 (by decide) kfX7_25 rfl rfl rfl rfl rfl eX7_init_22 (by decide) (Nat.le_of_ble_eq_true rfl) rfl ?_
  refine y_aload_n eX7_init_25 rfl rfl ?_
  refine y_iload eX7_init_26 rfl ?_
  refine z_put (j := 4) (fs' := [.int 0, .ref (ga g 42), .int 0, .int 9, .int 0]) clX7 (by decide) kfX7_28 rfl rfl rfl rfl rfl eX7_init_28 (by decide) (Nat.le_of_ble_eq_true rfl) rfl ?_
  exact z_end (by decide) rfl (by rw [ent_obj g M0 rfl (by decide)]; rfl)
set_option maxRecDepth 100000 in
set_option maxHeartbeats 4000000 in
theorem ctX7_43 {g : G} {N0 : Nat} : Ctor g N0 uX7_init 1 43 44 1 16 (.inr (7, [.int 0, .null, .int 0, .int 0, .int 0])) [.int 16, .int 0, .int 2, .int 0] := by
  refine Ctor.of (l := [.ref (ga g 43), .int 16, .int 0, .int 2, .int 0]) okX7_init rfl rfl (Nat.le_of_ble_eq_true rfl) rfl eX7_init_31.1 (fun C hC => ?_)
  refine z_begin hC ?_
  refine y_aload_n eX7_init_0 rfl rfl ?_
  refine y_objInit (by decide) kmX7_3 k_obi k_obc eX7_init_1 ?_
  refine y_aload_n eX7_init_4 rfl rfl ?_
  refine y_iconst (v := 0) (by decide) eX7_init_5 ?_
  refine y_iload_n eX7_init_6 rfl rfl ?_
  refine y_max (v := 16) (by decide) (Nat.le_of_ble_eq_true rfl) kmX7_9 k_mxs k_mxi k_mxc eX7_init_7 (by decide) (by decide) (by decide) ?_
  refine z_newi (N := 16) (q := 44) (q' := 45) (i' := 1) (z' := 16) (by decide) (by decide) (Nat.le_of_ble_eq_true rfl) eX7_init_10 rfl rfl rfl (by decide) (by decide) (by decide) rfl (M0_0 (by decide)) rfl k_arr_int ?_
  refine z_put (j := 1) (fs' := [.int 0, .ref (ga g 44), .int 0, .int 0, .int 0]) clX7 (by decide) kfX7_15 rfl rfl rfl rfl rfl eX7_init_12 (by decide) (Nat.le_of_ble_eq_true rfl) rfl ?_
  refine y_aload_n eX7_init_15 rfl rfl ?_
  refine y_iload_n eX7_init_16 rfl rfl ?_
  refine z_put (j := 2) (fs' := [.int 0, .ref (ga g 44), .int 0, .int 0, .int 0]) clX7 (by decide) kfX7_21 rfl rfl rfl rfl rfl eX7_init_17 (by decide) (Nat.le_of_ble_eq_true rfl) rfl ?_
  refine y_aload_n eX7_init_20 rfl rfl ?_
  refine y_iload_n eX7_init_21 rfl rfl ?_
  refine z_put (j := 3) (fs' := [.int 0, .ref (ga g 44), .int 0, .int 2, .int 0]) clX7 (by decide) kfX7_25 rfl rfl rfl rfl rfl eX7_init_22 (by decide) (Nat.le_of_ble_eq_true rfl) rfl ?_
  refine y_aload_n eX7_init_25 rfl rfl ?_
  refine y_iload eX7_init_26 rfl ?_
  refine z_put (j := 4) (fs' := [.int 0, .ref (ga g 44), .int 0, .int 2, .int 0]) clX7 (by decide) kfX7_28 rfl rfl rfl rfl rfl eX7_init_28 (by decide) (Nat.le_of_ble_eq_true rfl) rfl ?_
  exact z_end (by decide) rfl (by rw [ent_obj g M0 rfl (by decide)]; rfl)
set_option maxRecDepth 100000 in
set_option maxHeartbeats 4000000 in
theorem ctX7_45 {g : G} {N0 : Nat} : Ctor g N0 uX7_init 1 45 46 1 5 (.inr (7, [.int 0, .null, .int 0, .int 0, .int 0])) [.int 5, .int 1, .int 9, .int 1] := by
  refine Ctor.of (l := [.ref (ga g 45), .int 5, .int 1, .int 9, .int 1]) okX7_init rfl rfl (Nat.le_of_ble_eq_true rfl) rfl eX7_init_31.1 (fun C hC => ?_)
  refine z_begin hC ?_
  refine y_aload_n eX7_init_0 rfl rfl ?_
  refine y_objInit (by decide) kmX7_3 k_obi k_obc eX7_init_1 ?_
  refine y_aload_n eX7_init_4 rfl rfl ?_
  refine y_iconst (v := 0) (by decide) eX7_init_5 ?_
  refine y_iload_n eX7_init_6 rfl rfl ?_
  refine y_max (v := 5) (by decide) (Nat.le_of_ble_eq_true rfl) kmX7_9 k_mxs k_mxi k_mxc eX7_init_7 (by decide) (by decide) (by decide) ?_
  refine z_newi (N := 5) (q := 46) (q' := 47) (i' := 1) (z' := 5) (by decide) (by decide) (Nat.le_of_ble_eq_true rfl) eX7_init_10 rfl rfl rfl (by decide) (by decide) (by decide) rfl (M0_0 (by decide)) rfl k_arr_int ?_
  refine z_put (j := 1) (fs' := [.int 0, .ref (ga g 46), .int 0, .int 0, .int 0]) clX7 (by decide) kfX7_15 rfl rfl rfl rfl rfl eX7_init_12 (by decide) (Nat.le_of_ble_eq_true rfl) rfl ?_
  refine y_aload_n eX7_init_15 rfl rfl ?_
  refine y_iload_n eX7_init_16 rfl rfl ?_
  refine z_put (j := 2) (fs' := [.int 0, .ref (ga g 46), .int 1, .int 0, .int 0]) clX7 (by decide) kfX7_21 rfl rfl rfl rfl rfl eX7_init_17 (by decide) (Nat.le_of_ble_eq_true rfl) rfl ?_
  refine y_aload_n eX7_init_20 rfl rfl ?_
  refine y_iload_n eX7_init_21 rfl rfl ?_
  refine z_put (j := 3) (fs' := [.int 0, .ref (ga g 46), .int 1, .int 9, .int 0]) clX7 (by decide) kfX7_25 rfl rfl rfl rfl rfl eX7_init_22 (by decide) (Nat.le_of_ble_eq_true rfl) rfl ?_
  refine y_aload_n eX7_init_25 rfl rfl ?_
  refine y_iload eX7_init_26 rfl ?_
  refine z_put (j := 4) (fs' := [.int 0, .ref (ga g 46), .int 1, .int 9, .int 1]) clX7 (by decide) kfX7_28 rfl rfl rfl rfl rfl eX7_init_28 (by decide) (Nat.le_of_ble_eq_true rfl) rfl ?_
  exact z_end (by decide) rfl (by rw [ent_obj g M0 rfl (by decide)]; rfl)
set_option maxRecDepth 100000 in
set_option maxHeartbeats 4000000 in
theorem ctX7_47 {g : G} {N0 : Nat} : Ctor g N0 uX7_init 1 47 48 1 8 (.inr (7, [.int 0, .null, .int 0, .int 0, .int 0])) [.int 8, .int 0, .int 200, .int 1] := by
  refine Ctor.of (l := [.ref (ga g 47), .int 8, .int 0, .int 200, .int 1]) okX7_init rfl rfl (Nat.le_of_ble_eq_true rfl) rfl eX7_init_31.1 (fun C hC => ?_)
  refine z_begin hC ?_
  refine y_aload_n eX7_init_0 rfl rfl ?_
  refine y_objInit (by decide) kmX7_3 k_obi k_obc eX7_init_1 ?_
  refine y_aload_n eX7_init_4 rfl rfl ?_
  refine y_iconst (v := 0) (by decide) eX7_init_5 ?_
  refine y_iload_n eX7_init_6 rfl rfl ?_
  refine y_max (v := 8) (by decide) (Nat.le_of_ble_eq_true rfl) kmX7_9 k_mxs k_mxi k_mxc eX7_init_7 (by decide) (by decide) (by decide) ?_
  refine z_newi (N := 8) (q := 48) (q' := 49) (i' := 1) (z' := 8) (by decide) (by decide) (Nat.le_of_ble_eq_true rfl) eX7_init_10 rfl rfl rfl (by decide) (by decide) (by decide) rfl (M0_0 (by decide)) rfl k_arr_int ?_
  refine z_put (j := 1) (fs' := [.int 0, .ref (ga g 48), .int 0, .int 0, .int 0]) clX7 (by decide) kfX7_15 rfl rfl rfl rfl rfl eX7_init_12 (by decide) (Nat.le_of_ble_eq_true rfl) rfl ?_
  refine y_aload_n eX7_init_15 rfl rfl ?_
  refine y_iload_n eX7_init_16 rfl rfl ?_
  refine z_put (j := 2) (fs' := [.int 0, .ref (ga g 48), .int 0, .int 0, .int 0]) clX7 (by decide) kfX7_21 rfl rfl rfl rfl rfl eX7_init_17 (by decide) (Nat.le_of_ble_eq_true rfl) rfl ?_
  refine y_aload_n eX7_init_20 rfl rfl ?_
  refine y_iload_n eX7_init_21 rfl rfl ?_
  refine z_put (j := 3) (fs' := [.int 0, .ref (ga g 48), .int 0, .int 200, .int 0]) clX7 (by decide) kfX7_25 rfl rfl rfl rfl rfl eX7_init_22 (by decide) (Nat.le_of_ble_eq_true rfl) rfl ?_
  refine y_aload_n eX7_init_25 rfl rfl ?_
  refine y_iload eX7_init_26 rfl ?_
  refine z_put (j := 4) (fs' := [.int 0, .ref (ga g 48), .int 0, .int 200, .int 1]) clX7 (by decide) kfX7_28 rfl rfl rfl rfl rfl eX7_init_28 (by decide) (Nat.le_of_ble_eq_true rfl) rfl ?_
  exact z_end (by decide) rfl (by rw [ent_obj g M0 rfl (by decide)]; rfl)
set_option maxRecDepth 100000 in
set_option maxHeartbeats 4000000 in
theorem ctX10_40 {g : G} {N0 : Nat} : Ctor g N0 uX10_init 2 40 41 12 304 (.inr (10, [.null, .null, .null, .null, .null, .null, .null, .null])) [] := by
  refine Ctor.of (l := [.ref (ga g 40)]) okX10_init rfl rfl (Nat.le_of_ble_eq_true rfl) rfl eX10_init_104.1 (fun C hC => ?_)
  refine z_begin hC ?_
  refine y_aload_n eX10_init_0 rfl rfl ?_
  refine y_objInit (by decide) kmX10_3 k_obi k_obc eX10_init_1 ?_
  refine y_aload_n eX10_init_4 rfl rfl ?_
  refine y_new (q := 41) (i' := 1) (z' := 5) clX7 kcX10_9 blX7 eX10_init_5 rfl rfl rfl (by decide) (by decide) ?_
  refine y_dup eX10_init_8 rfl ?_
  refine y_bipush (v := 14) (by decide) eX10_init_9 ?_
  refine y_iconst (v := 0) (by decide) eX10_init_11 ?_
  refine y_bipush (v := 9) (by decide) eX10_init_12 ?_
  refine y_iconst (v := 0) (by decide) eX10_init_14 ?_
  refine z_callI (q := 41) (q' := 43) (i' := 2) (z' := 19) (na := 4) (As := [.int 14, .int 0, .int 9, .int 0]) (rest := [.ref (ga g 41), .ref (ga g 40)]) ctX7_41 (by decide) okX7_init rfl rfl kmX10_11 kiX7_init kpX7_init rfl (Nat.le_of_ble_eq_true rfl) eX10_init_15 rfl rfl rfl rfl (by decide) (by decide) (by decide) rfl ?_
  refine z_put (j := 0) (fs' := [.ref (ga g 41), .null, .null, .null, .null, .null, .null, .null]) clX10 (by decide) kfX10_14 rfl rfl rfl rfl rfl eX10_init_18 (by decide) (Nat.le_of_ble_eq_true rfl) rfl ?_
  refine y_aload_n eX10_init_21 rfl rfl ?_
  refine y_new (q := 43) (i' := 3) (z' := 24) clX7 kcX10_9 blX7 eX10_init_22 rfl rfl rfl (by decide) (by decide) ?_
  refine y_dup eX10_init_25 rfl ?_
  refine y_bipush (v := 16) (by decide) eX10_init_26 ?_
  refine y_iconst (v := 0) (by decide) eX10_init_28 ?_
  refine y_iconst (v := 2) (by decide) eX10_init_29 ?_
  refine y_iconst (v := 0) (by decide) eX10_init_30 ?_
  refine z_callI (q := 43) (q' := 45) (i' := 4) (z' := 40) (na := 4) (As := [.int 16, .int 0, .int 2, .int 0]) (rest := [.ref (ga g 43), .ref (ga g 40)]) ctX7_43 (by decide) okX7_init rfl rfl kmX10_11 kiX7_init kpX7_init rfl (Nat.le_of_ble_eq_true rfl) eX10_init_31 rfl rfl rfl rfl (by decide) (by decide) (by decide) rfl ?_
  refine z_put (j := 1) (fs' := [.ref (ga g 41), .ref (ga g 43), .null, .null, .null, .null, .null, .null]) clX10 (by decide) kfX10_20 rfl rfl rfl rfl rfl eX10_init_34 (by decide) (Nat.le_of_ble_eq_true rfl) rfl ?_
  refine y_aload_n eX10_init_37 rfl rfl ?_
  refine y_new (q := 45) (i' := 5) (z' := 45) clX7 kcX10_9 blX7 eX10_init_38 rfl rfl rfl (by decide) (by decide) ?_
  refine y_dup eX10_init_41 rfl ?_
  refine y_iconst (v := 5) (by decide) eX10_init_42 ?_
  refine y_iconst (v := 1) (by decide) eX10_init_43 ?_
  refine y_bipush (v := 9) (by decide) eX10_init_44 ?_
  refine y_iconst (v := 1) (by decide) eX10_init_46 ?_
  refine z_callI (q := 45) (q' := 47) (i' := 6) (z' := 50) (na := 4) (As := [.int 5, .int 1, .int 9, .int 1]) (rest := [.ref (ga g 45), .ref (ga g 40)]) ctX7_45 (by decide) okX7_init rfl rfl kmX10_11 kiX7_init kpX7_init rfl (Nat.le_of_ble_eq_true rfl) eX10_init_47 rfl rfl rfl rfl (by decide) (by decide) (by decide) rfl ?_
  refine z_put (j := 2) (fs' := [.ref (ga g 41), .ref (ga g 43), .ref (ga g 45), .null, .null, .null, .null, .null]) clX10 (by decide) kfX10_23 rfl rfl rfl rfl rfl eX10_init_50 (by decide) (Nat.le_of_ble_eq_true rfl) rfl ?_
  refine y_aload_n eX10_init_53 rfl rfl ?_
  refine y_new (q := 47) (i' := 7) (z' := 55) clX7 kcX10_9 blX7 eX10_init_54 rfl rfl rfl (by decide) (by decide) ?_
  refine y_dup eX10_init_57 rfl ?_
  refine y_bipush (v := 8) (by decide) eX10_init_58 ?_
  refine y_iconst (v := 0) (by decide) eX10_init_60 ?_
  refine y_sipush (v := 200) (by decide) eX10_init_61 ?_
  refine y_iconst (v := 1) (by decide) eX10_init_64 ?_
  refine z_callI (q := 47) (q' := 49) (i' := 8) (z' := 63) (na := 4) (As := [.int 8, .int 0, .int 200, .int 1]) (rest := [.ref (ga g 47), .ref (ga g 40)]) ctX7_47 (by decide) okX7_init rfl rfl kmX10_11 kiX7_init kpX7_init rfl (Nat.le_of_ble_eq_true rfl) eX10_init_65 rfl rfl rfl rfl (by decide) (by decide) (by decide) rfl ?_
  refine z_put (j := 3) (fs' := [.ref (ga g 41), .ref (ga g 43), .ref (ga g 45), .ref (ga g 47), .null, .null, .null, .null]) clX10 (by decide) kfX10_26 rfl rfl rfl rfl rfl eX10_init_68 (by decide) (Nat.le_of_ble_eq_true rfl) rfl ?_
  refine y_aload_n eX10_init_71 rfl rfl ?_
  refine y_bipush (v := 9) (by decide) eX10_init_72 ?_
  refine z_newi (N := 9) (q := 49) (q' := 50) (i' := 9) (z' := 72) (by decide) (by decide) (Nat.le_of_ble_eq_true rfl) eX10_init_74 rfl rfl rfl (by decide) (by decide) (by decide) rfl (M0_0 (by decide)) rfl k_arr_int ?_
  refine z_put (j := 4) (fs' := [.ref (ga g 41), .ref (ga g 43), .ref (ga g 45), .ref (ga g 47), .ref (ga g 49), .null, .null, .null]) clX10 (by decide) kfX10_29 rfl rfl rfl rfl rfl eX10_init_76 (by decide) (Nat.le_of_ble_eq_true rfl) rfl ?_
  refine y_aload_n eX10_init_79 rfl rfl ?_
  refine y_bipush (v := 14) (by decide) eX10_init_80 ?_
  refine z_newi (N := 14) (q := 50) (q' := 51) (i' := 10) (z' := 86) (by decide) (by decide) (Nat.le_of_ble_eq_true rfl) eX10_init_82 rfl rfl rfl (by decide) (by decide) (by decide) rfl (M0_0 (by decide)) rfl k_arr_int ?_
  refine z_put (j := 5) (fs' := [.ref (ga g 41), .ref (ga g 43), .ref (ga g 45), .ref (ga g 47), .ref (ga g 49), .ref (ga g 50), .null, .null]) clX10 (by decide) kfX10_33 rfl rfl rfl rfl rfl eX10_init_84 (by decide) (Nat.le_of_ble_eq_true rfl) rfl ?_
  refine y_aload_n eX10_init_87 rfl rfl ?_
  refine y_bipush (v := 17) (by decide) eX10_init_88 ?_
  refine z_newi (N := 17) (q := 51) (q' := 52) (i' := 11) (z' := 103) (by decide) (by decide) (Nat.le_of_ble_eq_true rfl) eX10_init_90 rfl rfl rfl (by decide) (by decide) (by decide) rfl (M0_0 (by decide)) rfl k_arr_int ?_
  refine z_put (j := 6) (fs' := [.ref (ga g 41), .ref (ga g 43), .ref (ga g 45), .ref (ga g 47), .ref (ga g 49), .ref (ga g 50), .ref (ga g 51), .null]) clX10 (by decide) kfX10_36 rfl rfl rfl rfl rfl eX10_init_92 (by decide) (Nat.le_of_ble_eq_true rfl) rfl ?_
  refine y_aload_n eX10_init_95 rfl rfl ?_
  refine y_sipush (v := 201) (by decide) eX10_init_96 ?_
  refine z_newz (N := 201) (q := 52) (q' := 53) (i' := 12) (z' := 304) (by decide) (by decide) (Nat.le_of_ble_eq_true rfl) eX10_init_99 rfl rfl rfl (by decide) (by decide) (by decide) rfl (M0_0 (by decide)) rfl k_arr_boolean ?_
  refine z_put (j := 7) (fs' := [.ref (ga g 41), .ref (ga g 43), .ref (ga g 45), .ref (ga g 47), .ref (ga g 49), .ref (ga g 50), .ref (ga g 51), .ref (ga g 52)]) clX10 (by decide) kfX10_39 rfl rfl rfl rfl rfl eX10_init_101 (by decide) (Nat.le_of_ble_eq_true rfl) rfl ?_
  exact z_end (by decide) rfl (by rw [ent_obj g M0 rfl (by decide)]; rfl)
set_option maxRecDepth 100000 in
set_option maxHeartbeats 4000000 in
theorem ctX0_1 {g : G} {N0 : Nat} : Ctor g N0 uX0_init 3 1 2 51 1778 (.inr (0, [.null, .null, .null, .null, .null, .null, .null])) [] := by
  refine Ctor.of (l := [.ref (ga g 1)]) okX0_init rfl rfl (Nat.le_of_ble_eq_true rfl) rfl eX0_init_90.1 (fun C hC => ?_)
  refine z_begin hC ?_
  refine y_aload_n eX0_init_0 rfl rfl ?_
  refine y_objInit (by decide) kmX0_3 k_obi k_obc eX0_init_1 ?_
  refine y_aload_n eX0_init_4 rfl rfl ?_
  refine y_new (q := 2) (i' := 1) (z' := 15) clX9 kcX0_9 blX9 eX0_init_5 rfl rfl rfl (by decide) (by decide) ?_
  refine y_dup eX0_init_8 rfl ?_
  refine z_callN (q := 2) (q' := 12) (i' := 10) (z' := 135) (na := 0) (As := []) (rest := [.ref (ga g 2), .ref (ga g 1)]) ctX9_2 (by decide) okX9_init rfl rfl (List.mem_of_getElem? (i := 1) rfl) kiX9_init kpX9_init rfl (Nat.le_of_ble_eq_true rfl) eX0_init_9 rfl rfl rfl rfl (by decide) (by decide) (by decide) rfl ?_
  refine z_put (j := 0) (fs' := [.ref (ga g 2), .null, .null, .null, .null, .null, .null]) clX0 (by decide) kfX0_12 rfl rfl rfl rfl rfl eX0_init_12 (by decide) (Nat.le_of_ble_eq_true rfl) rfl ?_
  refine y_aload_n eX0_init_15 rfl rfl ?_
  refine y_new (q := 12) (i' := 11) (z' := 141) clX3 kcX0_18 blX3 eX0_init_16 rfl rfl rfl (by decide) (by decide) ?_
  refine y_dup eX0_init_19 rfl ?_
  refine y_sipush (v := 150) (by decide) eX0_init_20 ?_
  refine z_callI (q := 12) (q' := 17) (i' := 15) (z' := 741) (na := 1) (As := [.int 150]) (rest := [.ref (ga g 12), .ref (ga g 1)]) ctX3_12 (by decide) okX3_init rfl rfl kmX0_20 kiX3_init kpX3_init rfl (Nat.le_of_ble_eq_true rfl) eX0_init_23 rfl rfl rfl rfl (by decide) (by decide) (by decide) rfl ?_
  refine z_put (j := 1) (fs' := [.ref (ga g 2), .ref (ga g 12), .null, .null, .null, .null, .null]) clX0 (by decide) kfX0_23 rfl rfl rfl rfl rfl eX0_init_26 (by decide) (Nat.le_of_ble_eq_true rfl) rfl ?_
  refine y_aload_n eX0_init_29 rfl rfl ?_
  refine y_new (q := 17) (i' := 16) (z' := 750) clX1 kcX0_27 blX1 eX0_init_30 rfl rfl rfl (by decide) (by decide) ?_
  refine y_dup eX0_init_33 rfl ?_
  refine z_callN (q := 17) (q' := 25) (i' := 23) (z' := 1256) (na := 0) (As := []) (rest := [.ref (ga g 17), .ref (ga g 1)]) ctX1_17 (by decide) okX1_init rfl rfl (List.mem_of_getElem? (i := 2) rfl) kiX1_init kpX1_init rfl (Nat.le_of_ble_eq_true rfl) eX0_init_34 rfl rfl rfl rfl (by decide) (by decide) (by decide) rfl ?_
  refine z_put (j := 2) (fs' := [.ref (ga g 2), .ref (ga g 12), .ref (ga g 17), .null, .null, .null, .null]) clX0 (by decide) kfX0_30 rfl rfl rfl rfl rfl eX0_init_37 (by decide) (Nat.le_of_ble_eq_true rfl) rfl ?_
  refine y_aload_n eX0_init_40 rfl rfl ?_
  refine y_new (q := 25) (i' := 24) (z' := 1262) clX3 kcX0_18 blX3 eX0_init_41 rfl rfl rfl (by decide) (by decide) ?_
  refine y_dup eX0_init_44 rfl ?_
  refine y_bipush (v := 16) (by decide) eX0_init_45 ?_
  refine z_callI (q := 25) (q' := 30) (i' := 28) (z' := 1326) (na := 1) (As := [.int 16]) (rest := [.ref (ga g 25), .ref (ga g 1)]) ctX3_25 (by decide) okX3_init rfl rfl kmX0_20 kiX3_init kpX3_init rfl (Nat.le_of_ble_eq_true rfl) eX0_init_47 rfl rfl rfl rfl (by decide) (by decide) (by decide) rfl ?_
  refine z_put (j := 3) (fs' := [.ref (ga g 2), .ref (ga g 12), .ref (ga g 17), .ref (ga g 25), .null, .null, .null]) clX0 (by decide) kfX0_34 rfl rfl rfl rfl rfl eX0_init_50 (by decide) (Nat.le_of_ble_eq_true rfl) rfl ?_
  refine y_aload_n eX0_init_53 rfl rfl ?_
  refine y_new (q := 30) (i' := 29) (z' := 1332) clX3 kcX0_18 blX3 eX0_init_54 rfl rfl rfl (by decide) (by decide) ?_
  refine y_dup eX0_init_57 rfl ?_
  refine y_bipush (v := 16) (by decide) eX0_init_58 ?_
  refine z_callI (q := 30) (q' := 35) (i' := 33) (z' := 1396) (na := 1) (As := [.int 16]) (rest := [.ref (ga g 30), .ref (ga g 1)]) ctX3_30 (by decide) okX3_init rfl rfl kmX0_20 kiX3_init kpX3_init rfl (Nat.le_of_ble_eq_true rfl) eX0_init_60 rfl rfl rfl rfl (by decide) (by decide) (by decide) rfl ?_
  refine z_put (j := 4) (fs' := [.ref (ga g 2), .ref (ga g 12), .ref (ga g 17), .ref (ga g 25), .ref (ga g 30), .null, .null]) clX0 (by decide) kfX0_37 rfl rfl rfl rfl rfl eX0_init_63 (by decide) (Nat.le_of_ble_eq_true rfl) rfl ?_
  refine y_aload_n eX0_init_66 rfl rfl ?_
  refine y_new (q := 35) (i' := 34) (z' := 1402) clX3 kcX0_18 blX3 eX0_init_67 rfl rfl rfl (by decide) (by decide) ?_
  refine y_dup eX0_init_70 rfl ?_
  refine y_bipush (v := 16) (by decide) eX0_init_71 ?_
  refine z_callI (q := 35) (q' := 40) (i' := 38) (z' := 1466) (na := 1) (As := [.int 16]) (rest := [.ref (ga g 35), .ref (ga g 1)]) ctX3_35 (by decide) okX3_init rfl rfl kmX0_20 kiX3_init kpX3_init rfl (Nat.le_of_ble_eq_true rfl) eX0_init_73 rfl rfl rfl rfl (by decide) (by decide) (by decide) rfl ?_
  refine z_put (j := 5) (fs' := [.ref (ga g 2), .ref (ga g 12), .ref (ga g 17), .ref (ga g 25), .ref (ga g 30), .ref (ga g 35), .null]) clX0 (by decide) kfX0_40 rfl rfl rfl rfl rfl eX0_init_76 (by decide) (Nat.le_of_ble_eq_true rfl) rfl ?_
  refine y_aload_n eX0_init_79 rfl rfl ?_
  refine y_new (q := 40) (i' := 39) (z' := 1474) clX10 kcX0_43 blX10 eX0_init_80 rfl rfl rfl (by decide) (by decide) ?_
  refine y_dup eX0_init_83 rfl ?_
  refine z_callN (q := 40) (q' := 53) (i' := 51) (z' := 1778) (na := 0) (As := []) (rest := [.ref (ga g 40), .ref (ga g 1)]) ctX10_40 (by decide) okX10_init rfl rfl (List.mem_of_getElem? (i := 3) rfl) kiX10_init kpX10_init rfl (Nat.le_of_ble_eq_true rfl) eX0_init_84 rfl rfl rfl rfl (by decide) (by decide) (by decide) rfl ?_
  refine z_put (j := 6) (fs' := [.ref (ga g 2), .ref (ga g 12), .ref (ga g 17), .ref (ga g 25), .ref (ga g 30), .ref (ga g 35), .ref (ga g 40)]) clX0 (by decide) kfX0_46 rfl rfl rfl rfl rfl eX0_init_87 (by decide) (Nat.le_of_ble_eq_true rfl) rfl ?_
  exact z_end (by decide) rfl (by rw [ent_obj g M0 rfl (by decide)]; rfl)
set_option maxRecDepth 100000 in
set_option maxHeartbeats 4000000 in
theorem ctX9_54 {g : G} {N0 : Nat} : Ctor g N0 uX9_init 1 54 55 9 120 (.inr (9, [.int 0, .int 0, .int 0, .int 0, .int 0, .int 0, .null, .null, .null, .null, .null, .null, .null, .null, .null])) [] := by
  refine Ctor.of (l := [.ref (ga g 54)]) okX9_init rfl rfl (Nat.le_of_ble_eq_true rfl) rfl eX9_init_76.1 (fun C hC => ?_)
  refine z_begin hC ?_
  refine y_aload_n eX9_init_0 rfl rfl ?_
  refine y_objInit (by decide) kmX9_3 k_obi k_obc eX9_init_1 ?_
  refine y_aload_n eX9_init_4 rfl rfl ?_
  refine y_bipush (v := 12) (by decide) eX9_init_5 ?_
  refine z_newi (N := 12) (q := 55) (q' := 56) (i' := 1) (z' := 12) (by decide) (by decide) (Nat.le_of_ble_eq_true rfl) eX9_init_7 rfl rfl rfl (by decide) (by decide) (by decide) rfl (M0_0 (by decide)) rfl k_arr_int ?_
  refine z_put (j := 6) (fs' := [.int 0, .int 0, .int 0, .int 0, .int 0, .int 0, .ref (ga g 55), .null, .null, .null, .null, .null, .null, .null, .null]) clX9 (by decide) kfX9_9 rfl rfl rfl rfl rfl eX9_init_9 (by decide) (Nat.le_of_ble_eq_true rfl) rfl ?_
  refine y_aload_n eX9_init_12 rfl rfl ?_
  refine y_bipush (v := 12) (by decide) eX9_init_13 ?_
  refine z_newi (N := 12) (q := 56) (q' := 57) (i' := 2) (z' := 24) (by decide) (by decide) (Nat.le_of_ble_eq_true rfl) eX9_init_15 rfl rfl rfl (by decide) (by decide) (by decide) rfl (M0_0 (by decide)) rfl k_arr_int ?_
  refine z_put (j := 7) (fs' := [.int 0, .int 0, .int 0, .int 0, .int 0, .int 0, .ref (ga g 55), .ref (ga g 56), .null, .null, .null, .null, .null, .null, .null]) clX9 (by decide) kfX9_15 rfl rfl rfl rfl rfl eX9_init_17 (by decide) (Nat.le_of_ble_eq_true rfl) rfl ?_
  refine y_aload_n eX9_init_20 rfl rfl ?_
  refine y_bipush (v := 12) (by decide) eX9_init_21 ?_
  refine z_newi (N := 12) (q := 57) (q' := 58) (i' := 3) (z' := 36) (by decide) (by decide) (Nat.le_of_ble_eq_true rfl) eX9_init_23 rfl rfl rfl (by decide) (by decide) (by decide) rfl (M0_0 (by decide)) rfl k_arr_int ?_
  refine z_put (j := 8) (fs' := [.int 0, .int 0, .int 0, .int 0, .int 0, .int 0, .ref (ga g 55), .ref (ga g 56), .ref (ga g 57), .null, .null, .null, .null, .null, .null]) clX9 (by decide) kfX9_18 rfl rfl rfl rfl rfl eX9_init_25 (by decide) (Nat.le_of_ble_eq_true rfl) rfl ?_
  refine y_aload_n eX9_init_28 rfl rfl ?_
  refine y_bipush (v := 14) (by decide) eX9_init_29 ?_
  refine z_newi (N := 14) (q := 58) (q' := 59) (i' := 4) (z' := 50) (by decide) (by decide) (Nat.le_of_ble_eq_true rfl) eX9_init_31 rfl rfl rfl (by decide) (by decide) (by decide) rfl (M0_0 (by decide)) rfl k_arr_int ?_
  refine z_put (j := 9) (fs' := [.int 0, .int 0, .int 0, .int 0, .int 0, .int 0, .ref (ga g 55), .ref (ga g 56), .ref (ga g 57), .ref (ga g 58), .null, .null, .null, .null, .null]) clX9 (by decide) kfX9_21 rfl rfl rfl rfl rfl eX9_init_33 (by decide) (Nat.le_of_ble_eq_true rfl) rfl ?_
  refine y_aload_n eX9_init_36 rfl rfl ?_
  refine y_bipush (v := 14) (by decide) eX9_init_37 ?_
  refine z_newi (N := 14) (q := 59) (q' := 60) (i' := 5) (z' := 64) (by decide) (by decide) (Nat.le_of_ble_eq_true rfl) eX9_init_39 rfl rfl rfl (by decide) (by decide) (by decide) rfl (M0_0 (by decide)) rfl k_arr_int ?_
  refine z_put (j := 10) (fs' := [.int 0, .int 0, .int 0, .int 0, .int 0, .int 0, .ref (ga g 55), .ref (ga g 56), .ref (ga g 57), .ref (ga g 58), .ref (ga g 59), .null, .null, .null, .null]) clX9 (by decide) kfX9_24 rfl rfl rfl rfl rfl eX9_init_41 (by decide) (Nat.le_of_ble_eq_true rfl) rfl ?_
  refine y_aload_n eX9_init_44 rfl rfl ?_
  refine y_bipush (v := 14) (by decide) eX9_init_45 ?_
  refine z_newi (N := 14) (q := 60) (q' := 61) (i' := 6) (z' := 78) (by decide) (by decide) (Nat.le_of_ble_eq_true rfl) eX9_init_47 rfl rfl rfl (by decide) (by decide) (by decide) rfl (M0_0 (by decide)) rfl k_arr_int ?_
  refine z_put (j := 11) (fs' := [.int 0, .int 0, .int 0, .int 0, .int 0, .int 0, .ref (ga g 55), .ref (ga g 56), .ref (ga g 57), .ref (ga g 58), .ref (ga g 59), .ref (ga g 60), .null, .null, .null]) clX9 (by decide) kfX9_27 rfl rfl rfl rfl rfl eX9_init_49 (by decide) (Nat.le_of_ble_eq_true rfl) rfl ?_
  refine y_aload_n eX9_init_52 rfl rfl ?_
  refine y_bipush (v := 14) (by decide) eX9_init_53 ?_
  refine z_newi (N := 14) (q := 61) (q' := 62) (i' := 7) (z' := 92) (by decide) (by decide) (Nat.le_of_ble_eq_true rfl) eX9_init_55 rfl rfl rfl (by decide) (by decide) (by decide) rfl (M0_0 (by decide)) rfl k_arr_int ?_
  refine z_put (j := 12) (fs' := [.int 0, .int 0, .int 0, .int 0, .int 0, .int 0, .ref (ga g 55), .ref (ga g 56), .ref (ga g 57), .ref (ga g 58), .ref (ga g 59), .ref (ga g 60), .ref (ga g 61), .null, .null]) clX9 (by decide) kfX9_30 rfl rfl rfl rfl rfl eX9_init_57 (by decide) (Nat.le_of_ble_eq_true rfl) rfl ?_
  refine y_aload_n eX9_init_60 rfl rfl ?_
  refine y_bipush (v := 14) (by decide) eX9_init_61 ?_
  refine z_newi (N := 14) (q := 62) (q' := 63) (i' := 8) (z' := 106) (by decide) (by decide) (Nat.le_of_ble_eq_true rfl) eX9_init_63 rfl rfl rfl (by decide) (by decide) (by decide) rfl (M0_0 (by decide)) rfl k_arr_int ?_
  refine z_put (j := 13) (fs' := [.int 0, .int 0, .int 0, .int 0, .int 0, .int 0, .ref (ga g 55), .ref (ga g 56), .ref (ga g 57), .ref (ga g 58), .ref (ga g 59), .ref (ga g 60), .ref (ga g 61), .ref (ga g 62), .null]) clX9 (by decide) kfX9_33 rfl rfl rfl rfl rfl eX9_init_65 (by decide) (Nat.le_of_ble_eq_true rfl) rfl ?_
  refine y_aload_n eX9_init_68 rfl rfl ?_
  refine y_bipush (v := 14) (by decide) eX9_init_69 ?_
  refine z_newi (N := 14) (q := 63) (q' := 64) (i' := 9) (z' := 120) (by decide) (by decide) (Nat.le_of_ble_eq_true rfl) eX9_init_71 rfl rfl rfl (by decide) (by decide) (by decide) rfl (M0_0 (by decide)) rfl k_arr_int ?_
  refine z_put (j := 14) (fs' := [.int 0, .int 0, .int 0, .int 0, .int 0, .int 0, .ref (ga g 55), .ref (ga g 56), .ref (ga g 57), .ref (ga g 58), .ref (ga g 59), .ref (ga g 60), .ref (ga g 61), .ref (ga g 62), .ref (ga g 63)]) clX9 (by decide) kfX9_36 rfl rfl rfl rfl rfl eX9_init_73 (by decide) (Nat.le_of_ble_eq_true rfl) rfl ?_
  exact z_end (by decide) rfl (by rw [ent_obj g M0 rfl (by decide)]; rfl)
set_option maxRecDepth 100000 in
set_option maxHeartbeats 4000000 in
theorem ctX3_64 {g : G} {N0 : Nat} : Ctor g N0 uX3_init 1 64 65 4 600 (.inr (3, [.int 0, .int 0, .null, .null, .null, .null])) [.int 150] := by
  refine Ctor.of (l := [.ref (ga g 64), .int 150]) okX3_init rfl rfl (Nat.le_of_ble_eq_true rfl) rfl eX3_init_53.1 (fun C hC => ?_)
  refine z_begin hC ?_
  refine y_aload_n eX3_init_0 rfl rfl ?_
  refine y_objInit (by decide) kmX3_1 k_obi k_obc eX3_init_1 ?_
  refine y_aload_n eX3_init_4 rfl rfl ?_
  refine y_iconst (v := 0) (by decide) eX3_init_5 ?_
  refine y_iload_n eX3_init_6 rfl rfl ?_
  refine y_max (v := 150) (by decide) (Nat.le_of_ble_eq_true rfl) kmX3_7 k_mxs k_mxi k_mxc eX3_init_7 (by decide) (by decide) (by decide) ?_
  refine z_put (j := 1) (fs' := [.int 0, .int 150, .null, .null, .null, .null]) clX3 (by decide) kfX3_13 rfl rfl rfl rfl rfl eX3_init_10 (by decide) (Nat.le_of_ble_eq_true rfl) rfl ?_
  refine y_aload_n eX3_init_13 rfl rfl ?_
  refine y_aload_n eX3_init_14 rfl rfl ?_
  refine z_get (j := 1) (v := .int 150) clX3 (by decide) kfX3_13 eX3_init_15 (by decide) rfl ?_
  refine z_newi (N := 150) (q := 65) (q' := 66) (i' := 1) (z' := 150) (by decide) (by decide) (Nat.le_of_ble_eq_true rfl) eX3_init_18 rfl rfl rfl (by decide) (by decide) (by decide) rfl (M0_0 (by decide)) rfl k_arr_int ?_
  refine z_put (j := 2) (fs' := [.int 0, .int 150, .ref (ga g 65), .null, .null, .null]) clX3 (by decide) kfX3_19 rfl rfl rfl rfl rfl eX3_init_20 (by decide) (Nat.le_of_ble_eq_true rfl) rfl ?_
  refine y_aload_n eX3_init_23 rfl rfl ?_
  refine y_aload_n eX3_init_24 rfl rfl ?_
  refine z_get (j := 1) (v := .int 150) clX3 (by decide) kfX3_13 eX3_init_25 (by decide) rfl ?_
  refine z_newi (N := 150) (q := 66) (q' := 67) (i' := 2) (z' := 300) (by decide) (by decide) (Nat.le_of_ble_eq_true rfl) eX3_init_28 rfl rfl rfl (by decide) (by decide) (by decide) rfl (M0_0 (by decide)) rfl k_arr_int ?_
  refine z_put (j := 3) (fs' := [.int 0, .int 150, .ref (ga g 65), .ref (ga g 66), .null, .null]) clX3 (by decide) kfX3_23 rfl rfl rfl rfl rfl eX3_init_30 (by decide) (Nat.le_of_ble_eq_true rfl) rfl ?_
  refine y_aload_n eX3_init_33 rfl rfl ?_
  refine y_aload_n eX3_init_34 rfl rfl ?_
  refine z_get (j := 1) (v := .int 150) clX3 (by decide) kfX3_13 eX3_init_35 (by decide) rfl ?_
  refine z_newi (N := 150) (q := 67) (q' := 68) (i' := 3) (z' := 450) (by decide) (by decide) (Nat.le_of_ble_eq_true rfl) eX3_init_38 rfl rfl rfl (by decide) (by decide) (by decide) rfl (M0_0 (by decide)) rfl k_arr_int ?_
  refine z_put (j := 4) (fs' := [.int 0, .int 150, .ref (ga g 65), .ref (ga g 66), .ref (ga g 67), .null]) clX3 (by decide) kfX3_26 rfl rfl rfl rfl rfl eX3_init_40 (by decide) (Nat.le_of_ble_eq_true rfl) rfl ?_
  refine y_aload_n eX3_init_43 rfl rfl ?_
  refine y_aload_n eX3_init_44 rfl rfl ?_
  refine z_get (j := 1) (v := .int 150) clX3 (by decide) kfX3_13 eX3_init_45 (by decide) rfl ?_
  refine z_newi (N := 150) (q := 68) (q' := 69) (i' := 4) (z' := 600) (by decide) (by decide) (Nat.le_of_ble_eq_true rfl) eX3_init_48 rfl rfl rfl (by decide) (by decide) (by decide) rfl (M0_0 (by decide)) rfl k_arr_int ?_
  refine z_put (j := 5) (fs' := [.int 0, .int 150, .ref (ga g 65), .ref (ga g 66), .ref (ga g 67), .ref (ga g 68)]) clX3 (by decide) kfX3_29 rfl rfl rfl rfl rfl eX3_init_50 (by decide) (Nat.le_of_ble_eq_true rfl) rfl ?_
  exact z_end (by decide) rfl (by rw [ent_obj g M0 rfl (by decide)]; rfl)
set_option maxRecDepth 100000 in
set_option maxHeartbeats 4000000 in
theorem ctX1_69 {g : G} {N0 : Nat} : Ctor g N0 uX1_init 1 69 70 7 506 (.inr (1, [.int 0, .int 0, .null, .null, .null, .null, .null, .null, .null])) [] := by
  refine Ctor.of (l := [.ref (ga g 69)]) okX1_init rfl rfl (Nat.le_of_ble_eq_true rfl) rfl eX1_init_61.1 (fun C hC => ?_)
  refine z_begin hC ?_
  refine y_aload_n eX1_init_0 rfl rfl ?_
  refine y_objInit (by decide) kmX1_3 k_obi k_obc eX1_init_1 ?_
  refine y_aload_n eX1_init_4 rfl rfl ?_
  refine y_bipush (v := 16) (by decide) eX1_init_5 ?_
  refine z_newi (N := 16) (q := 70) (q' := 71) (i' := 1) (z' := 16) (by decide) (by decide) (Nat.le_of_ble_eq_true rfl) eX1_init_7 rfl rfl rfl (by decide) (by decide) (by decide) rfl (M0_0 (by decide)) rfl k_arr_int ?_
  refine z_put (j := 2) (fs' := [.int 0, .int 0, .ref (ga g 70), .null, .null, .null, .null, .null, .null]) clX1 (by decide) kfX1_9 rfl rfl rfl rfl rfl eX1_init_9 (by decide) (Nat.le_of_ble_eq_true rfl) rfl ?_
  refine y_aload_n eX1_init_12 rfl rfl ?_
  refine y_bipush (v := 16) (by decide) eX1_init_13 ?_
  refine z_newi (N := 16) (q := 71) (q' := 72) (i' := 2) (z' := 32) (by decide) (by decide) (Nat.le_of_ble_eq_true rfl) eX1_init_15 rfl rfl rfl (by decide) (by decide) (by decide) rfl (M0_0 (by decide)) rfl k_arr_int ?_
  refine z_put (j := 3) (fs' := [.int 0, .int 0, .ref (ga g 70), .ref (ga g 71), .null, .null, .null, .null, .null]) clX1 (by decide) kfX1_15 rfl rfl rfl rfl rfl eX1_init_17 (by decide) (Nat.le_of_ble_eq_true rfl) rfl ?_
  refine y_aload_n eX1_init_20 rfl rfl ?_
  refine y_bipush (v := 16) (by decide) eX1_init_21 ?_
  refine z_newi (N := 16) (q := 72) (q' := 73) (i' := 3) (z' := 48) (by decide) (by decide) (Nat.le_of_ble_eq_true rfl) eX1_init_23 rfl rfl rfl (by decide) (by decide) (by decide) rfl (M0_0 (by decide)) rfl k_arr_int ?_
  refine z_put (j := 4) (fs' := [.int 0, .int 0, .ref (ga g 70), .ref (ga g 71), .ref (ga g 72), .null, .null, .null, .null]) clX1 (by decide) kfX1_18 rfl rfl rfl rfl rfl eX1_init_25 (by decide) (Nat.le_of_ble_eq_true rfl) rfl ?_
  refine y_aload_n eX1_init_28 rfl rfl ?_
  refine y_bipush (v := 16) (by decide) eX1_init_29 ?_
  refine z_newi (N := 16) (q := 73) (q' := 74) (i' := 4) (z' := 64) (by decide) (by decide) (Nat.le_of_ble_eq_true rfl) eX1_init_31 rfl rfl rfl (by decide) (by decide) (by decide) rfl (M0_0 (by decide)) rfl k_arr_int ?_
  refine z_put (j := 5) (fs' := [.int 0, .int 0, .ref (ga g 70), .ref (ga g 71), .ref (ga g 72), .ref (ga g 73), .null, .null, .null]) clX1 (by decide) kfX1_21 rfl rfl rfl rfl rfl eX1_init_33 (by decide) (Nat.le_of_ble_eq_true rfl) rfl ?_
  refine y_aload_n eX1_init_36 rfl rfl ?_
  refine y_sipush (v := 400) (by decide) eX1_init_37 ?_
  refine z_newi (N := 400) (q := 74) (q' := 75) (i' := 5) (z' := 464) (by decide) (by decide) (Nat.le_of_ble_eq_true rfl) eX1_init_40 rfl rfl rfl (by decide) (by decide) (by decide) rfl (M0_0 (by decide)) rfl k_arr_int ?_
  refine z_put (j := 6) (fs' := [.int 0, .int 0, .ref (ga g 70), .ref (ga g 71), .ref (ga g 72), .ref (ga g 73), .ref (ga g 74), .null, .null]) clX1 (by decide) kfX1_24 rfl rfl rfl rfl rfl eX1_init_42 (by decide) (Nat.le_of_ble_eq_true rfl) rfl ?_
  refine y_aload_n eX1_init_45 rfl rfl ?_
  refine y_bipush (v := 10) (by decide) eX1_init_46 ?_
  refine z_newi (N := 10) (q := 75) (q' := 76) (i' := 6) (z' := 474) (by decide) (by decide) (Nat.le_of_ble_eq_true rfl) eX1_init_48 rfl rfl rfl (by decide) (by decide) (by decide) rfl (M0_0 (by decide)) rfl k_arr_int ?_
  refine z_put (j := 7) (fs' := [.int 0, .int 0, .ref (ga g 70), .ref (ga g 71), .ref (ga g 72), .ref (ga g 73), .ref (ga g 74), .ref (ga g 75), .null]) clX1 (by decide) kfX1_27 rfl rfl rfl rfl rfl eX1_init_50 (by decide) (Nat.le_of_ble_eq_true rfl) rfl ?_
  refine y_aload_n eX1_init_53 rfl rfl ?_
  refine y_bipush (v := 32) (by decide) eX1_init_54 ?_
  refine z_newi (N := 32) (q := 76) (q' := 77) (i' := 7) (z' := 506) (by decide) (by decide) (Nat.le_of_ble_eq_true rfl) eX1_init_56 rfl rfl rfl (by decide) (by decide) (by decide) rfl (M0_0 (by decide)) rfl k_arr_int ?_
  refine z_put (j := 8) (fs' := [.int 0, .int 0, .ref (ga g 70), .ref (ga g 71), .ref (ga g 72), .ref (ga g 73), .ref (ga g 74), .ref (ga g 75), .ref (ga g 76)]) clX1 (by decide) kfX1_30 rfl rfl rfl rfl rfl eX1_init_58 (by decide) (Nat.le_of_ble_eq_true rfl) rfl ?_
  exact z_end (by decide) rfl (by rw [ent_obj g M0 rfl (by decide)]; rfl)
set_option maxRecDepth 100000 in
set_option maxHeartbeats 4000000 in
theorem ctX3_77 {g : G} {N0 : Nat} : Ctor g N0 uX3_init 1 77 78 4 64 (.inr (3, [.int 0, .int 0, .null, .null, .null, .null])) [.int 16] := by
  refine Ctor.of (l := [.ref (ga g 77), .int 16]) okX3_init rfl rfl (Nat.le_of_ble_eq_true rfl) rfl eX3_init_53.1 (fun C hC => ?_)
  refine z_begin hC ?_
  refine y_aload_n eX3_init_0 rfl rfl ?_
  refine y_objInit (by decide) kmX3_1 k_obi k_obc eX3_init_1 ?_
  refine y_aload_n eX3_init_4 rfl rfl ?_
  refine y_iconst (v := 0) (by decide) eX3_init_5 ?_
  refine y_iload_n eX3_init_6 rfl rfl ?_
  refine y_max (v := 16) (by decide) (Nat.le_of_ble_eq_true rfl) kmX3_7 k_mxs k_mxi k_mxc eX3_init_7 (by decide) (by decide) (by decide) ?_
  refine z_put (j := 1) (fs' := [.int 0, .int 16, .null, .null, .null, .null]) clX3 (by decide) kfX3_13 rfl rfl rfl rfl rfl eX3_init_10 (by decide) (Nat.le_of_ble_eq_true rfl) rfl ?_
  refine y_aload_n eX3_init_13 rfl rfl ?_
  refine y_aload_n eX3_init_14 rfl rfl ?_
  refine z_get (j := 1) (v := .int 16) clX3 (by decide) kfX3_13 eX3_init_15 (by decide) rfl ?_
  refine z_newi (N := 16) (q := 78) (q' := 79) (i' := 1) (z' := 16) (by decide) (by decide) (Nat.le_of_ble_eq_true rfl) eX3_init_18 rfl rfl rfl (by decide) (by decide) (by decide) rfl (M0_0 (by decide)) rfl k_arr_int ?_
  refine z_put (j := 2) (fs' := [.int 0, .int 16, .ref (ga g 78), .null, .null, .null]) clX3 (by decide) kfX3_19 rfl rfl rfl rfl rfl eX3_init_20 (by decide) (Nat.le_of_ble_eq_true rfl) rfl ?_
  refine y_aload_n eX3_init_23 rfl rfl ?_
  refine y_aload_n eX3_init_24 rfl rfl ?_
  refine z_get (j := 1) (v := .int 16) clX3 (by decide) kfX3_13 eX3_init_25 (by decide) rfl ?_
  refine z_newi (N := 16) (q := 79) (q' := 80) (i' := 2) (z' := 32) (by decide) (by decide) (Nat.le_of_ble_eq_true rfl) eX3_init_28 rfl rfl rfl (by decide) (by decide) (by decide) rfl (M0_0 (by decide)) rfl k_arr_int ?_
  refine z_put (j := 3) (fs' := [.int 0, .int 16, .ref (ga g 78), .ref (ga g 79), .null, .null]) clX3 (by decide) kfX3_23 rfl rfl rfl rfl rfl eX3_init_30 (by decide) (Nat.le_of_ble_eq_true rfl) rfl ?_
  refine y_aload_n eX3_init_33 rfl rfl ?_
  refine y_aload_n eX3_init_34 rfl rfl ?_
  refine z_get (j := 1) (v := .int 16) clX3 (by decide) kfX3_13 eX3_init_35 (by decide) rfl ?_
  refine z_newi (N := 16) (q := 80) (q' := 81) (i' := 3) (z' := 48) (by decide) (by decide) (Nat.le_of_ble_eq_true rfl) eX3_init_38 rfl rfl rfl (by decide) (by decide) (by decide) rfl (M0_0 (by decide)) rfl k_arr_int ?_
  refine z_put (j := 4) (fs' := [.int 0, .int 16, .ref (ga g 78), .ref (ga g 79), .ref (ga g 80), .null]) clX3 (by decide) kfX3_26 rfl rfl rfl rfl rfl eX3_init_40 (by decide) (Nat.le_of_ble_eq_true rfl) rfl ?_
  refine y_aload_n eX3_init_43 rfl rfl ?_
  refine y_aload_n eX3_init_44 rfl rfl ?_
  refine z_get (j := 1) (v := .int 16) clX3 (by decide) kfX3_13 eX3_init_45 (by decide) rfl ?_
  refine z_newi (N := 16) (q := 81) (q' := 82) (i' := 4) (z' := 64) (by decide) (by decide) (Nat.le_of_ble_eq_true rfl) eX3_init_48 rfl rfl rfl (by decide) (by decide) (by decide) rfl (M0_0 (by decide)) rfl k_arr_int ?_
  refine z_put (j := 5) (fs' := [.int 0, .int 16, .ref (ga g 78), .ref (ga g 79), .ref (ga g 80), .ref (ga g 81)]) clX3 (by decide) kfX3_29 rfl rfl rfl rfl rfl eX3_init_50 (by decide) (Nat.le_of_ble_eq_true rfl) rfl ?_
  exact z_end (by decide) rfl (by rw [ent_obj g M0 rfl (by decide)]; rfl)
set_option maxRecDepth 100000 in
set_option maxHeartbeats 4000000 in
theorem ctX3_82 {g : G} {N0 : Nat} : Ctor g N0 uX3_init 1 82 83 4 64 (.inr (3, [.int 0, .int 0, .null, .null, .null, .null])) [.int 16] := by
  refine Ctor.of (l := [.ref (ga g 82), .int 16]) okX3_init rfl rfl (Nat.le_of_ble_eq_true rfl) rfl eX3_init_53.1 (fun C hC => ?_)
  refine z_begin hC ?_
  refine y_aload_n eX3_init_0 rfl rfl ?_
  refine y_objInit (by decide) kmX3_1 k_obi k_obc eX3_init_1 ?_
  refine y_aload_n eX3_init_4 rfl rfl ?_
  refine y_iconst (v := 0) (by decide) eX3_init_5 ?_
  refine y_iload_n eX3_init_6 rfl rfl ?_
  refine y_max (v := 16) (by decide) (Nat.le_of_ble_eq_true rfl) kmX3_7 k_mxs k_mxi k_mxc eX3_init_7 (by decide) (by decide) (by decide) ?_
  refine z_put (j := 1) (fs' := [.int 0, .int 16, .null, .null, .null, .null]) clX3 (by decide) kfX3_13 rfl rfl rfl rfl rfl eX3_init_10 (by decide) (Nat.le_of_ble_eq_true rfl) rfl ?_
  refine y_aload_n eX3_init_13 rfl rfl ?_
  refine y_aload_n eX3_init_14 rfl rfl ?_
  refine z_get (j := 1) (v := .int 16) clX3 (by decide) kfX3_13 eX3_init_15 (by decide) rfl ?_
  refine z_newi (N := 16) (q := 83) (q' := 84) (i' := 1) (z' := 16) (by decide) (by decide) (Nat.le_of_ble_eq_true rfl) eX3_init_18 rfl rfl rfl (by decide) (by decide) (by decide) rfl (M0_0 (by decide)) rfl k_arr_int ?_
  refine z_put (j := 2) (fs' := [.int 0, .int 16, .ref (ga g 83), .null, .null, .null]) clX3 (by decide) kfX3_19 rfl rfl rfl rfl rfl eX3_init_20 (by decide) (Nat.le_of_ble_eq_true rfl) rfl ?_
  refine y_aload_n eX3_init_23 rfl rfl ?_
  refine y_aload_n eX3_init_24 rfl rfl ?_
  refine z_get (j := 1) (v := .int 16) clX3 (by decide) kfX3_13 eX3_init_25 (by decide) rfl ?_
  refine z_newi (N := 16) (q := 84) (q' := 85) (i' := 2) (z' := 32) (by decide) (by decide) (Nat.le_of_ble_eq_true rfl) eX3_init_28 rfl rfl rfl (by decide) (by decide) (by decide) rfl (M0_0 (by decide)) rfl k_arr_int ?_
  refine z_put (j := 3) (fs' := [.int 0, .int 16, .ref (ga g 83), .ref (ga g 84), .null, .null]) clX3 (by decide) kfX3_23 rfl rfl rfl rfl rfl eX3_init_30 (by decide) (Nat.le_of_ble_eq_true rfl) rfl ?_
  refine y_aload_n eX3_init_33 rfl rfl ?_
  refine y_aload_n eX3_init_34 rfl rfl ?_
  refine z_get (j := 1) (v := .int 16) clX3 (by decide) kfX3_13 eX3_init_35 (by decide) rfl ?_
  refine z_newi (N := 16) (q := 85) (q' := 86) (i' := 3) (z' := 48) (by decide) (by decide) (Nat.le_of_ble_eq_true rfl) eX3_init_38 rfl rfl rfl (by decide) (by decide) (by decide) rfl (M0_0 (by decide)) rfl k_arr_int ?_
  refine z_put (j := 4) (fs' := [.int 0, .int 16, .ref (ga g 83), .ref (ga g 84), .ref (ga g 85), .null]) clX3 (by decide) kfX3_26 rfl rfl rfl rfl rfl eX3_init_40 (by decide) (Nat.le_of_ble_eq_true rfl) rfl ?_
  refine y_aload_n eX3_init_43 rfl rfl ?_
  refine y_aload_n eX3_init_44 rfl rfl ?_
  refine z_get (j := 1) (v := .int 16) clX3 (by decide) kfX3_13 eX3_init_45 (by decide) rfl ?_
  refine z_newi (N := 16) (q := 86) (q' := 87) (i' := 4) (z' := 64) (by decide) (by decide) (Nat.le_of_ble_eq_true rfl) eX3_init_48 rfl rfl rfl (by decide) (by decide) (by decide) rfl (M0_0 (by decide)) rfl k_arr_int ?_
  refine z_put (j := 5) (fs' := [.int 0, .int 16, .ref (ga g 83), .ref (ga g 84), .ref (ga g 85), .ref (ga g 86)]) clX3 (by decide) kfX3_29 rfl rfl rfl rfl rfl eX3_init_50 (by decide) (Nat.le_of_ble_eq_true rfl) rfl ?_
  exact z_end (by decide) rfl (by rw [ent_obj g M0 rfl (by decide)]; rfl)
set_option maxRecDepth 100000 in
set_option maxHeartbeats 4000000 in
theorem ctX3_87 {g : G} {N0 : Nat} : Ctor g N0 uX3_init 1 87 88 4 64 (.inr (3, [.int 0, .int 0, .null, .null, .null, .null])) [.int 16] := by
  refine Ctor.of (l := [.ref (ga g 87), .int 16]) okX3_init rfl rfl (Nat.le_of_ble_eq_true rfl) rfl eX3_init_53.1 (fun C hC => ?_)
  refine z_begin hC ?_
  refine y_aload_n eX3_init_0 rfl rfl ?_
  refine y_objInit (by decide) kmX3_1 k_obi k_obc eX3_init_1 ?_
  refine y_aload_n eX3_init_4 rfl rfl ?_
  refine y_iconst (v := 0) (by decide) eX3_init_5 ?_
  refine y_iload_n eX3_init_6 rfl rfl ?_
  refine y_max (v := 16) (by decide) (Nat.le_of_ble_eq_true rfl) kmX3_7 k_mxs k_mxi k_mxc eX3_init_7 (by decide) (by decide) (by decide) ?_
  refine z_put (j := 1) (fs' := [.int 0, .int 16, .null, .null, .null, .null]) clX3 (by decide) kfX3_13 rfl rfl rfl rfl rfl eX3_init_10 (by decide) (Nat.le_of_ble_eq_true rfl) rfl ?_
  refine y_aload_n eX3_init_13 rfl rfl ?_
  refine y_aload_n eX3_init_14 rfl rfl ?_
  refine z_get (j := 1) (v := .int 16) clX3 (by decide) kfX3_13 eX3_init_15 (by decide) rfl ?_
  refine z_newi (N := 16) (q := 88) (q' := 89) (i' := 1) (z' := 16) (by decide) (by decide) (Nat.le_of_ble_eq_true rfl) eX3_init_18 rfl rfl rfl (by decide) (by decide) (by decide) rfl (M0_0 (by decide)) rfl k_arr_int ?_
  refine z_put (j := 2) (fs' := [.int 0, .int 16, .ref (ga g 88), .null, .null, .null]) clX3 (by decide) kfX3_19 rfl rfl rfl rfl rfl eX3_init_20 (by decide) (Nat.le_of_ble_eq_true rfl) rfl ?_
  refine y_aload_n eX3_init_23 rfl rfl ?_
  refine y_aload_n eX3_init_24 rfl rfl ?_
  refine z_get (j := 1) (v := .int 16) clX3 (by decide) kfX3_13 eX3_init_25 (by decide) rfl ?_
  refine z_newi (N := 16) (q := 89) (q' := 90) (i' := 2) (z' := 32) (by decide) (by decide) (Nat.le_of_ble_eq_true rfl) eX3_init_28 rfl rfl rfl (by decide) (by decide) (by decide) rfl (M0_0 (by decide)) rfl k_arr_int ?_
  refine z_put (j := 3) (fs' := [.int 0, .int 16, .ref (ga g 88), .ref (ga g 89), .null, .null]) clX3 (by decide) kfX3_23 rfl rfl rfl rfl rfl eX3_init_30 (by decide) (Nat.le_of_ble_eq_true rfl) rfl ?_
  refine y_aload_n eX3_init_33 rfl rfl ?_
  refine y_aload_n eX3_init_34 rfl rfl ?_
  refine z_get (j := 1) (v := .int 16) clX3 (by decide) kfX3_13 eX3_init_35 (by decide) rfl ?_
  refine z_newi (N := 16) (q := 90) (q' := 91) (i' := 3) (z' := 48) (by decide) (by decide) (Nat.le_of_ble_eq_true rfl) eX3_init_38 rfl rfl rfl (by decide) (by decide) (by decide) rfl (M0_0 (by decide)) rfl k_arr_int ?_
  refine z_put (j := 4) (fs' := [.int 0, .int 16, .ref (ga g 88), .ref (ga g 89), .ref (ga g 90), .null]) clX3 (by decide) kfX3_26 rfl rfl rfl rfl rfl eX3_init_40 (by decide) (Nat.le_of_ble_eq_true rfl) rfl ?_
  refine y_aload_n eX3_init_43 rfl rfl ?_
  refine y_aload_n eX3_init_44 rfl rfl ?_
  refine z_get (j := 1) (v := .int 16) clX3 (by decide) kfX3_13 eX3_init_45 (by decide) rfl ?_
  refine z_newi (N := 16) (q := 91) (q' := 92) (i' := 4) (z' := 64) (by decide) (by decide) (Nat.le_of_ble_eq_true rfl) eX3_init_48 rfl rfl rfl (by decide) (by decide) (by decide) rfl (M0_0 (by decide)) rfl k_arr_int ?_
  refine z_put (j := 5) (fs' := [.int 0, .int 16, .ref (ga g 88), .ref (ga g 89), .ref (ga g 90), .ref (ga g 91)]) clX3 (by decide) kfX3_29 rfl rfl rfl rfl rfl eX3_init_50 (by decide) (Nat.le_of_ble_eq_true rfl) rfl ?_
  exact z_end (by decide) rfl (by rw [ent_obj g M0 rfl (by decide)]; rfl)
set_option maxRecDepth 100000 in
set_option maxHeartbeats 4000000 in
theorem ctX7_93 {g : G} {N0 : Nat} : Ctor g N0 uX7_init 1 93 94 1 14 (.inr (7, [.int 0, .null, .int 0, .int 0, .int 0])) [.int 14, .int 0, .int 9, .int 0] := by
  refine Ctor.of (l := [.ref (ga g 93), .int 14, .int 0, .int 9, .int 0]) okX7_init rfl rfl (Nat.le_of_ble_eq_true rfl) rfl eX7_init_31.1 (fun C hC => ?_)
  refine z_begin hC ?_
  refine y_aload_n eX7_init_0 rfl rfl ?_
  refine y_objInit (by decide) kmX7_3 k_obi k_obc eX7_init_1 ?_
  refine y_aload_n eX7_init_4 rfl rfl ?_
  refine y_iconst (v := 0) (by decide) eX7_init_5 ?_
  refine y_iload_n eX7_init_6 rfl rfl ?_
  refine y_max (v := 14) (by decide) (Nat.le_of_ble_eq_true rfl) kmX7_9 k_mxs k_mxi k_mxc eX7_init_7 (by decide) (by decide) (by decide) ?_
  refine z_newi (N := 14) (q := 94) (q' := 95) (i' := 1) (z' := 14) (by decide) (by decide) (Nat.le_of_ble_eq_true rfl) eX7_init_10 rfl rfl rfl (by decide) (by decide) (by decide) rfl (M0_0 (by decide)) rfl k_arr_int ?_
  refine z_put (j := 1) (fs' := [.int 0, .ref (ga g 94), .int 0, .int 0, .int 0]) clX7 (by decide) kfX7_15 rfl rfl rfl rfl rfl eX7_init_12 (by decide) (Nat.le_of_ble_eq_true rfl) rfl ?_
  refine y_aload_n eX7_init_15 rfl rfl ?_
  refine y_iload_n eX7_init_16 rfl rfl ?_
  refine z_put (j := 2) (fs' := [.int 0, .ref (ga g 94), .int 0, .int 0, .int 0]) clX7 (by decide) kfX7_21 rfl rfl rfl rfl rfl eX7_init_17 (by decide) (Nat.le_of_ble_eq_true rfl) rfl ?_
  refine y_aload_n eX7_init_20 rfl rfl ?_
  refine y_iload_n eX7_init_21 rfl rfl ?_
  refine z_put (j := 3) (fs' := [.int 0, .ref (ga g 94), .int 0, .int 9, .int 0]) clX7 (by decide) kfX7_25 rfl rfl rfl rfl rfl eX7_init_22 (by decide) (Nat.le_of_ble_eq_true rfl) rfl ?_
  refine y_aload_n eX7_init_25 rfl rfl ?_
  refine y_iload eX7_init_26 rfl ?_
  refine z_put (j := 4) (fs' := [.int 0, .ref (ga g 94), .int 0, .int 9, .int 0]) clX7 (by decide) kfX7_28 rfl rfl rfl rfl rfl eX7_init_28 (by decide) (Nat.le_of_ble_eq_true rfl) rfl ?_
  exact z_end (by decide) rfl (by rw [ent_obj g M0 rfl (by decide)]; rfl)
set_option maxRecDepth 100000 in
set_option maxHeartbeats 4000000 in
theorem ctX7_95 {g : G} {N0 : Nat} : Ctor g N0 uX7_init 1 95 96 1 16 (.inr (7, [.int 0, .null, .int 0, .int 0, .int 0])) [.int 16, .int 0, .int 2, .int 0] := by
  refine Ctor.of (l := [.ref (ga g 95), .int 16, .int 0, .int 2, .int 0]) okX7_init rfl rfl (Nat.le_of_ble_eq_true rfl) rfl eX7_init_31.1 (fun C hC => ?_)
  refine z_begin hC ?_
  refine y_aload_n eX7_init_0 rfl rfl ?_
  refine y_objInit (by decide) kmX7_3 k_obi k_obc eX7_init_1 ?_
  refine y_aload_n eX7_init_4 rfl rfl ?_
  refine y_iconst (v := 0) (by decide) eX7_init_5 ?_
  refine y_iload_n eX7_init_6 rfl rfl ?_
  refine y_max (v := 16) (by decide) (Nat.le_of_ble_eq_true rfl) kmX7_9 k_mxs k_mxi k_mxc eX7_init_7 (by decide) (by decide) (by decide) ?_
  refine z_newi (N := 16) (q := 96) (q' := 97) (i' := 1) (z' := 16) (by decide) (by decide) (Nat.le_of_ble_eq_true rfl) eX7_init_10 rfl rfl rfl (by decide) (by decide) (by decide) rfl (M0_0 (by decide)) rfl k_arr_int ?_
  refine z_put (j := 1) (fs' := [.int 0, .ref (ga g 96), .int 0, .int 0, .int 0]) clX7 (by decide) kfX7_15 rfl rfl rfl rfl rfl eX7_init_12 (by decide) (Nat.le_of_ble_eq_true rfl) rfl ?_
  refine y_aload_n eX7_init_15 rfl rfl ?_
  refine y_iload_n eX7_init_16 rfl rfl ?_
  refine z_put (j := 2) (fs' := [.int 0, .ref (ga g 96), .int 0, .int 0, .int 0]) clX7 (by decide) kfX7_21 rfl rfl rfl rfl rfl eX7_init_17 (by decide) (Nat.le_of_ble_eq_true rfl) rfl ?_
  refine y_aload_n eX7_init_20 rfl rfl ?_
  refine y_iload_n eX7_init_21 rfl rfl ?_
  refine z_put (j := 3) (fs' := [.int 0, .ref (ga g 96), .int 0, .int 2, .int 0]) clX7 (by decide) kfX7_25 rfl rfl rfl rfl rfl eX7_init_22 (by decide) (Nat.le_of_ble_eq_true rfl) rfl ?_
  refine y_aload_n eX7_init_25 rfl rfl ?_
  refine y_iload eX7_init_26 rfl ?_
  refine z_put (j := 4) (fs' := [.int 0, .ref (ga g 96), .int 0, .int 2, .int 0]) clX7 (by decide) kfX7_28 rfl rfl rfl rfl rfl eX7_init_28 (by decide) (Nat.le_of_ble_eq_true rfl) rfl ?_
  exact z_end (by decide) rfl (by rw [ent_obj g M0 rfl (by decide)]; rfl)
set_option maxRecDepth 100000 in
set_option maxHeartbeats 4000000 in
theorem ctX7_97 {g : G} {N0 : Nat} : Ctor g N0 uX7_init 1 97 98 1 5 (.inr (7, [.int 0, .null, .int 0, .int 0, .int 0])) [.int 5, .int 1, .int 9, .int 1] := by
  refine Ctor.of (l := [.ref (ga g 97), .int 5, .int 1, .int 9, .int 1]) okX7_init rfl rfl (Nat.le_of_ble_eq_true rfl) rfl eX7_init_31.1 (fun C hC => ?_)
  refine z_begin hC ?_
  refine y_aload_n eX7_init_0 rfl rfl ?_
  refine y_objInit (by decide) kmX7_3 k_obi k_obc eX7_init_1 ?_
  refine y_aload_n eX7_init_4 rfl rfl ?_
  refine y_iconst (v := 0) (by decide) eX7_init_5 ?_
  refine y_iload_n eX7_init_6 rfl rfl ?_
  refine y_max (v := 5) (by decide) (Nat.le_of_ble_eq_true rfl) kmX7_9 k_mxs k_mxi k_mxc eX7_init_7 (by decide) (by decide) (by decide) ?_
  refine z_newi (N := 5) (q := 98) (q' := 99) (i' := 1) (z' := 5) (by decide) (by decide) (Nat.le_of_ble_eq_true rfl) eX7_init_10 rfl rfl rfl (by decide) (by decide) (by decide) rfl (M0_0 (by decide)) rfl k_arr_int ?_
  refine z_put (j := 1) (fs' := [.int 0, .ref (ga g 98), .int 0, .int 0, .int 0]) clX7 (by decide) kfX7_15 rfl rfl rfl rfl rfl eX7_init_12 (by decide) (Nat.le_of_ble_eq_true rfl) rfl ?_
  refine y_aload_n eX7_init_15 rfl rfl ?_
  refine y_iload_n eX7_init_16 rfl rfl ?_
  refine z_put (j := 2) (fs' := [.int 0, .ref (ga g 98), .int 1, .int 0, .int 0]) clX7 (by decide) kfX7_21 rfl rfl rfl rfl rfl eX7_init_17 (by decide) (Nat.le_of_ble_eq_true rfl) rfl ?_
  refine y_aload_n eX7_init_20 rfl rfl ?_
  refine y_iload_n eX7_init_21 rfl rfl ?_
  refine z_put (j := 3) (fs' := [.int 0, .ref (ga g 98), .int 1, .int 9, .int 0]) clX7 (by decide) kfX7_25 rfl rfl rfl rfl rfl eX7_init_22 (by decide) (Nat.le_of_ble_eq_true rfl) rfl ?_
  refine y_aload_n eX7_init_25 rfl rfl ?_
  refine y_iload eX7_init_26 rfl ?_
  refine z_put (j := 4) (fs' := [.int 0, .ref (ga g 98), .int 1, .int 9, .int 1]) clX7 (by decide) kfX7_28 rfl rfl rfl rfl rfl eX7_init_28 (by decide) (Nat.le_of_ble_eq_true rfl) rfl ?_
  exact z_end (by decide) rfl (by rw [ent_obj g M0 rfl (by decide)]; rfl)
set_option maxRecDepth 100000 in
set_option maxHeartbeats 4000000 in
theorem ctX7_99 {g : G} {N0 : Nat} : Ctor g N0 uX7_init 1 99 100 1 8 (.inr (7, [.int 0, .null, .int 0, .int 0, .int 0])) [.int 8, .int 0, .int 200, .int 1] := by
  refine Ctor.of (l := [.ref (ga g 99), .int 8, .int 0, .int 200, .int 1]) okX7_init rfl rfl (Nat.le_of_ble_eq_true rfl) rfl eX7_init_31.1 (fun C hC => ?_)
  refine z_begin hC ?_
  refine y_aload_n eX7_init_0 rfl rfl ?_
  refine y_objInit (by decide) kmX7_3 k_obi k_obc eX7_init_1 ?_
  refine y_aload_n eX7_init_4 rfl rfl ?_
  refine y_iconst (v := 0) (by decide) eX7_init_5 ?_
  refine y_iload_n eX7_init_6 rfl rfl ?_
  refine y_max (v := 8) (by decide) (Nat.le_of_ble_eq_true rfl) kmX7_9 k_mxs k_mxi k_mxc eX7_init_7 (by decide) (by decide) (by decide) ?_
  refine z_newi (N := 8) (q := 100) (q' := 101) (i' := 1) (z' := 8) (by decide) (by decide) (Nat.le_of_ble_eq_true rfl) eX7_init_10 rfl rfl rfl (by decide) (by decide) (by decide) rfl (M0_0 (by decide)) rfl k_arr_int ?_
  refine z_put (j := 1) (fs' := [.int 0, .ref (ga g 100), .int 0, .int 0, .int 0]) clX7 (by decide) kfX7_15 rfl rfl rfl rfl rfl eX7_init_12 (by decide) (Nat.le_of_ble_eq_true rfl) rfl ?_
  refine y_aload_n eX7_init_15 rfl rfl ?_
  refine y_iload_n eX7_init_16 rfl rfl ?_
  refine z_put (j := 2) (fs' := [.int 0, .ref (ga g 100), .int 0, .int 0, .int 0]) clX7 (by decide) kfX7_21 rfl rfl rfl rfl rfl eX7_init_17 (by decide) (Nat.le_of_ble_eq_true rfl) rfl ?_
  refine y_aload_n eX7_init_20 rfl rfl ?_
  refine y_iload_n eX7_init_21 rfl rfl ?_
  refine z_put (j := 3) (fs' := [.int 0, .ref (ga g 100), .int 0, .int 200, .int 0]) clX7 (by decide) kfX7_25 rfl rfl rfl rfl rfl eX7_init_22 (by decide) (Nat.le_of_ble_eq_true rfl) rfl ?_
  refine y_aload_n eX7_init_25 rfl rfl ?_
  refine y_iload eX7_init_26 rfl ?_
  refine z_put (j := 4) (fs' := [.int 0, .ref (ga g 100), .int 0, .int 200, .int 1]) clX7 (by decide) kfX7_28 rfl rfl rfl rfl rfl eX7_init_28 (by decide) (Nat.le_of_ble_eq_true rfl) rfl ?_
  exact z_end (by decide) rfl (by rw [ent_obj g M0 rfl (by decide)]; rfl)
set_option maxRecDepth 100000 in
set_option maxHeartbeats 4000000 in
theorem ctX10_92 {g : G} {N0 : Nat} : Ctor g N0 uX10_init 2 92 93 12 304 (.inr (10, [.null, .null, .null, .null, .null, .null, .null, .null])) [] := by
  refine Ctor.of (l := [.ref (ga g 92)]) okX10_init rfl rfl (Nat.le_of_ble_eq_true rfl) rfl eX10_init_104.1 (fun C hC => ?_)
  refine z_begin hC ?_
  refine y_aload_n eX10_init_0 rfl rfl ?_
  refine y_objInit (by decide) kmX10_3 k_obi k_obc eX10_init_1 ?_
  refine y_aload_n eX10_init_4 rfl rfl ?_
  refine y_new (q := 93) (i' := 1) (z' := 5) clX7 kcX10_9 blX7 eX10_init_5 rfl rfl rfl (by decide) (by decide) ?_
  refine y_dup eX10_init_8 rfl ?_
  refine y_bipush (v := 14) (by decide) eX10_init_9 ?_
  refine y_iconst (v := 0) (by decide) eX10_init_11 ?_
  refine y_bipush (v := 9) (by decide) eX10_init_12 ?_
  refine y_iconst (v := 0) (by decide) eX10_init_14 ?_
  refine z_callI (q := 93) (q' := 95) (i' := 2) (z' := 19) (na := 4) (As := [.int 14, .int 0, .int 9, .int 0]) (rest := [.ref (ga g 93), .ref (ga g 92)]) ctX7_93 (by decide) okX7_init rfl rfl kmX10_11 kiX7_init kpX7_init rfl (Nat.le_of_ble_eq_true rfl) eX10_init_15 rfl rfl rfl rfl (by decide) (by decide) (by decide) rfl ?_
  refine z_put (j := 0) (fs' := [.ref (ga g 93), .null, .null, .null, .null, .null, .null, .null]) clX10 (by decide) kfX10_14 rfl rfl rfl rfl rfl eX10_init_18 (by decide) (Nat.le_of_ble_eq_true rfl) rfl ?_
  refine y_aload_n eX10_init_21 rfl rfl ?_
  refine y_new (q := 95) (i' := 3) (z' := 24) clX7 kcX10_9 blX7 eX10_init_22 rfl rfl rfl (by decide) (by decide) ?_
  refine y_dup eX10_init_25 rfl ?_
  refine y_bipush (v := 16) (by decide) eX10_init_26 ?_
  refine y_iconst (v := 0) (by decide) eX10_init_28 ?_
  refine y_iconst (v := 2) (by decide) eX10_init_29 ?_
  refine y_iconst (v := 0) (by decide) eX10_init_30 ?_
  refine z_callI (q := 95) (q' := 97) (i' := 4) (z' := 40) (na := 4) (As := [.int 16, .int 0, .int 2, .int 0]) (rest := [.ref (ga g 95), .ref (ga g 92)]) ctX7_95 (by decide) okX7_init rfl rfl kmX10_11 kiX7_init kpX7_init rfl (Nat.le_of_ble_eq_true rfl) eX10_init_31 rfl rfl rfl rfl (by decide) (by decide) (by decide) rfl ?_
  refine z_put (j := 1) (fs' := [.ref (ga g 93), .ref (ga g 95), .null, .null, .null, .null, .null, .null]) clX10 (by decide) kfX10_20 rfl rfl rfl rfl rfl eX10_init_34 (by decide) (Nat.le_of_ble_eq_true rfl) rfl ?_
  refine y_aload_n eX10_init_37 rfl rfl ?_
  refine y_new (q := 97) (i' := 5) (z' := 45) clX7 kcX10_9 blX7 eX10_init_38 rfl rfl rfl (by decide) (by decide) ?_
  refine y_dup eX10_init_41 rfl ?_
  refine y_iconst (v := 5) (by decide) eX10_init_42 ?_
  refine y_iconst (v := 1) (by decide) eX10_init_43 ?_
  refine y_bipush (v := 9) (by decide) eX10_init_44 ?_
  refine y_iconst (v := 1) (by decide) eX10_init_46 ?_
  refine z_callI (q := 97) (q' := 99) (i' := 6) (z' := 50) (na := 4) (As := [.int 5, .int 1, .int 9, .int 1]) (rest := [.ref (ga g 97), .ref (ga g 92)]) ctX7_97 (by decide) okX7_init rfl rfl kmX10_11 kiX7_init kpX7_init rfl (Nat.le_of_ble_eq_true rfl) eX10_init_47 rfl rfl rfl rfl (by decide) (by decide) (by decide) rfl ?_
  refine z_put (j := 2) (fs' := [.ref (ga g 93), .ref (ga g 95), .ref (ga g 97), .null, .null, .null, .null, .null]) clX10 (by decide) kfX10_23 rfl rfl rfl rfl rfl eX10_init_50 (by decide) (Nat.le_of_ble_eq_true rfl) rfl ?_
  refine y_aload_n eX10_init_53 rfl rfl ?_
  refine y_new (q := 99) (i' := 7) (z' := 55) clX7 kcX10_9 blX7 eX10_init_54 rfl rfl rfl (by decide) (by decide) ?_
  refine y_dup eX10_init_57 rfl ?_
  refine y_bipush (v := 8) (by decide) eX10_init_58 ?_
  refine y_iconst (v := 0) (by decide) eX10_init_60 ?_
  refine y_sipush (v := 200) (by decide) eX10_init_61 ?_
  refine y_iconst (v := 1) (by decide) eX10_init_64 ?_
  refine z_callI (q := 99) (q' := 101) (i' := 8) (z' := 63) (na := 4) (As := [.int 8, .int 0, .int 200, .int 1]) (rest := [.ref (ga g 99), .ref (ga g 92)]) ctX7_99 (by decide) okX7_init rfl rfl kmX10_11 kiX7_init kpX7_init rfl (Nat.le_of_ble_eq_true rfl) eX10_init_65 rfl rfl rfl rfl (by decide) (by decide) (by decide) rfl ?_
  refine z_put (j := 3) (fs' := [.ref (ga g 93), .ref (ga g 95), .ref (ga g 97), .ref (ga g 99), .null, .null, .null, .null]) clX10 (by decide) kfX10_26 rfl rfl rfl rfl rfl eX10_init_68 (by decide) (Nat.le_of_ble_eq_true rfl) rfl ?_
  refine y_aload_n eX10_init_71 rfl rfl ?_
  refine y_bipush (v := 9) (by decide) eX10_init_72 ?_
  refine z_newi (N := 9) (q := 101) (q' := 102) (i' := 9) (z' := 72) (by decide) (by decide) (Nat.le_of_ble_eq_true rfl) eX10_init_74 rfl rfl rfl (by decide) (by decide) (by decide) rfl (M0_0 (by decide)) rfl k_arr_int ?_
  refine z_put (j := 4) (fs' := [.ref (ga g 93), .ref (ga g 95), .ref (ga g 97), .ref (ga g 99), .ref (ga g 101), .null, .null, .null]) clX10 (by decide) kfX10_29 rfl rfl rfl rfl rfl eX10_init_76 (by decide) (Nat.le_of_ble_eq_true rfl) rfl ?_
  refine y_aload_n eX10_init_79 rfl rfl ?_
  refine y_bipush (v := 14) (by decide) eX10_init_80 ?_
  refine z_newi (N := 14) (q := 102) (q' := 103) (i' := 10) (z' := 86) (by decide) (by decide) (Nat.le_of_ble_eq_true rfl) eX10_init_82 rfl rfl rfl (by decide) (by decide) (by decide) rfl (M0_0 (by decide)) rfl k_arr_int ?_
  refine z_put (j := 5) (fs' := [.ref (ga g 93), .ref (ga g 95), .ref (ga g 97), .ref (ga g 99), .ref (ga g 101), .ref (ga g 102), .null, .null]) clX10 (by decide) kfX10_33 rfl rfl rfl rfl rfl eX10_init_84 (by decide) (Nat.le_of_ble_eq_true rfl) rfl ?_
  refine y_aload_n eX10_init_87 rfl rfl ?_
  refine y_bipush (v := 17) (by decide) eX10_init_88 ?_
  refine z_newi (N := 17) (q := 103) (q' := 104) (i' := 11) (z' := 103) (by decide) (by decide) (Nat.le_of_ble_eq_true rfl) eX10_init_90 rfl rfl rfl (by decide) (by decide) (by decide) rfl (M0_0 (by decide)) rfl k_arr_int ?_
  refine z_put (j := 6) (fs' := [.ref (ga g 93), .ref (ga g 95), .ref (ga g 97), .ref (ga g 99), .ref (ga g 101), .ref (ga g 102), .ref (ga g 103), .null]) clX10 (by decide) kfX10_36 rfl rfl rfl rfl rfl eX10_init_92 (by decide) (Nat.le_of_ble_eq_true rfl) rfl ?_
  refine y_aload_n eX10_init_95 rfl rfl ?_
  refine y_sipush (v := 201) (by decide) eX10_init_96 ?_
  refine z_newz (N := 201) (q := 104) (q' := 105) (i' := 12) (z' := 304) (by decide) (by decide) (Nat.le_of_ble_eq_true rfl) eX10_init_99 rfl rfl rfl (by decide) (by decide) (by decide) rfl (M0_0 (by decide)) rfl k_arr_boolean ?_
  refine z_put (j := 7) (fs' := [.ref (ga g 93), .ref (ga g 95), .ref (ga g 97), .ref (ga g 99), .ref (ga g 101), .ref (ga g 102), .ref (ga g 103), .ref (ga g 104)]) clX10 (by decide) kfX10_39 rfl rfl rfl rfl rfl eX10_init_101 (by decide) (Nat.le_of_ble_eq_true rfl) rfl ?_
  exact z_end (by decide) rfl (by rw [ent_obj g M0 rfl (by decide)]; rfl)
set_option maxRecDepth 100000 in
set_option maxHeartbeats 4000000 in
theorem ctX0_53 {g : G} {N0 : Nat} : Ctor g N0 uX0_init 3 53 54 51 1778 (.inr (0, [.null, .null, .null, .null, .null, .null, .null])) [] := by
  refine Ctor.of (l := [.ref (ga g 53)]) okX0_init rfl rfl (Nat.le_of_ble_eq_true rfl) rfl eX0_init_90.1 (fun C hC => ?_)
  refine z_begin hC ?_
  refine y_aload_n eX0_init_0 rfl rfl ?_
  refine y_objInit (by decide) kmX0_3 k_obi k_obc eX0_init_1 ?_
  refine y_aload_n eX0_init_4 rfl rfl ?_
  refine y_new (q := 54) (i' := 1) (z' := 15) clX9 kcX0_9 blX9 eX0_init_5 rfl rfl rfl (by decide) (by decide) ?_
  refine y_dup eX0_init_8 rfl ?_
  refine z_callN (q := 54) (q' := 64) (i' := 10) (z' := 135) (na := 0) (As := []) (rest := [.ref (ga g 54), .ref (ga g 53)]) ctX9_54 (by decide) okX9_init rfl rfl (List.mem_of_getElem? (i := 1) rfl) kiX9_init kpX9_init rfl (Nat.le_of_ble_eq_true rfl) eX0_init_9 rfl rfl rfl rfl (by decide) (by decide) (by decide) rfl ?_
  refine z_put (j := 0) (fs' := [.ref (ga g 54), .null, .null, .null, .null, .null, .null]) clX0 (by decide) kfX0_12 rfl rfl rfl rfl rfl eX0_init_12 (by decide) (Nat.le_of_ble_eq_true rfl) rfl ?_
  refine y_aload_n eX0_init_15 rfl rfl ?_
  refine y_new (q := 64) (i' := 11) (z' := 141) clX3 kcX0_18 blX3 eX0_init_16 rfl rfl rfl (by decide) (by decide) ?_
  refine y_dup eX0_init_19 rfl ?_
  refine y_sipush (v := 150) (by decide) eX0_init_20 ?_
  refine z_callI (q := 64) (q' := 69) (i' := 15) (z' := 741) (na := 1) (As := [.int 150]) (rest := [.ref (ga g 64), .ref (ga g 53)]) ctX3_64 (by decide) okX3_init rfl rfl kmX0_20 kiX3_init kpX3_init rfl (Nat.le_of_ble_eq_true rfl) eX0_init_23 rfl rfl rfl rfl (by decide) (by decide) (by decide) rfl ?_
  refine z_put (j := 1) (fs' := [.ref (ga g 54), .ref (ga g 64), .null, .null, .null, .null, .null]) clX0 (by decide) kfX0_23 rfl rfl rfl rfl rfl eX0_init_26 (by decide) (Nat.le_of_ble_eq_true rfl) rfl ?_
  refine y_aload_n eX0_init_29 rfl rfl ?_
  refine y_new (q := 69) (i' := 16) (z' := 750) clX1 kcX0_27 blX1 eX0_init_30 rfl rfl rfl (by decide) (by decide) ?_
  refine y_dup eX0_init_33 rfl ?_
  refine z_callN (q := 69) (q' := 77) (i' := 23) (z' := 1256) (na := 0) (As := []) (rest := [.ref (ga g 69), .ref (ga g 53)]) ctX1_69 (by decide) okX1_init rfl rfl (List.mem_of_getElem? (i := 2) rfl) kiX1_init kpX1_init rfl (Nat.le_of_ble_eq_true rfl) eX0_init_34 rfl rfl rfl rfl (by decide) (by decide) (by decide) rfl ?_
  refine z_put (j := 2) (fs' := [.ref (ga g 54), .ref (ga g 64), .ref (ga g 69), .null, .null, .null, .null]) clX0 (by decide) kfX0_30 rfl rfl rfl rfl rfl eX0_init_37 (by decide) (Nat.le_of_ble_eq_true rfl) rfl ?_
  refine y_aload_n eX0_init_40 rfl rfl ?_
  refine y_new (q := 77) (i' := 24) (z' := 1262) clX3 kcX0_18 blX3 eX0_init_41 rfl rfl rfl (by decide) (by decide) ?_
  refine y_dup eX0_init_44 rfl ?_
  refine y_bipush (v := 16) (by decide) eX0_init_45 ?_
  refine z_callI (q := 77) (q' := 82) (i' := 28) (z' := 1326) (na := 1) (As := [.int 16]) (rest := [.ref (ga g 77), .ref (ga g 53)]) ctX3_77 (by decide) okX3_init rfl rfl kmX0_20 kiX3_init kpX3_init rfl (Nat.le_of_ble_eq_true rfl) eX0_init_47 rfl rfl rfl rfl (by decide) (by decide) (by decide) rfl ?_
  refine z_put (j := 3) (fs' := [.ref (ga g 54), .ref (ga g 64), .ref (ga g 69), .ref (ga g 77), .null, .null, .null]) clX0 (by decide) kfX0_34 rfl rfl rfl rfl rfl eX0_init_50 (by decide) (Nat.le_of_ble_eq_true rfl) rfl ?_
  refine y_aload_n eX0_init_53 rfl rfl ?_
  refine y_new (q := 82) (i' := 29) (z' := 1332) clX3 kcX0_18 blX3 eX0_init_54 rfl rfl rfl (by decide) (by decide) ?_
  refine y_dup eX0_init_57 rfl ?_
  refine y_bipush (v := 16) (by decide) eX0_init_58 ?_
  refine z_callI (q := 82) (q' := 87) (i' := 33) (z' := 1396) (na := 1) (As := [.int 16]) (rest := [.ref (ga g 82), .ref (ga g 53)]) ctX3_82 (by decide) okX3_init rfl rfl kmX0_20 kiX3_init kpX3_init rfl (Nat.le_of_ble_eq_true rfl) eX0_init_60 rfl rfl rfl rfl (by decide) (by decide) (by decide) rfl ?_
  refine z_put (j := 4) (fs' := [.ref (ga g 54), .ref (ga g 64), .ref (ga g 69), .ref (ga g 77), .ref (ga g 82), .null, .null]) clX0 (by decide) kfX0_37 rfl rfl rfl rfl rfl eX0_init_63 (by decide) (Nat.le_of_ble_eq_true rfl) rfl ?_
  refine y_aload_n eX0_init_66 rfl rfl ?_
  refine y_new (q := 87) (i' := 34) (z' := 1402) clX3 kcX0_18 blX3 eX0_init_67 rfl rfl rfl (by decide) (by decide) ?_
  refine y_dup eX0_init_70 rfl ?_
  refine y_bipush (v := 16) (by decide) eX0_init_71 ?_
  refine z_callI (q := 87) (q' := 92) (i' := 38) (z' := 1466) (na := 1) (As := [.int 16]) (rest := [.ref (ga g 87), .ref (ga g 53)]) ctX3_87 (by decide) okX3_init rfl rfl kmX0_20 kiX3_init kpX3_init rfl (Nat.le_of_ble_eq_true rfl) eX0_init_73 rfl rfl rfl rfl (by decide) (by decide) (by decide) rfl ?_
  refine z_put (j := 5) (fs' := [.ref (ga g 54), .ref (ga g 64), .ref (ga g 69), .ref (ga g 77), .ref (ga g 82), .ref (ga g 87), .null]) clX0 (by decide) kfX0_40 rfl rfl rfl rfl rfl eX0_init_76 (by decide) (Nat.le_of_ble_eq_true rfl) rfl ?_
  refine y_aload_n eX0_init_79 rfl rfl ?_
  refine y_new (q := 92) (i' := 39) (z' := 1474) clX10 kcX0_43 blX10 eX0_init_80 rfl rfl rfl (by decide) (by decide) ?_
  refine y_dup eX0_init_83 rfl ?_
  refine z_callN (q := 92) (q' := 105) (i' := 51) (z' := 1778) (na := 0) (As := []) (rest := [.ref (ga g 92), .ref (ga g 53)]) ctX10_92 (by decide) okX10_init rfl rfl (List.mem_of_getElem? (i := 3) rfl) kiX10_init kpX10_init rfl (Nat.le_of_ble_eq_true rfl) eX0_init_84 rfl rfl rfl rfl (by decide) (by decide) (by decide) rfl ?_
  refine z_put (j := 6) (fs' := [.ref (ga g 54), .ref (ga g 64), .ref (ga g 69), .ref (ga g 77), .ref (ga g 82), .ref (ga g 87), .ref (ga g 92)]) clX0 (by decide) kfX0_46 rfl rfl rfl rfl rfl eX0_init_87 (by decide) (Nat.le_of_ble_eq_true rfl) rfl ?_
  exact z_end (by decide) rfl (by rw [ent_obj g M0 rfl (by decide)]; rfl)
set_option maxRecDepth 100000 in
set_option maxHeartbeats 4000000 in
theorem ctX9_108 {g : G} {N0 : Nat} : Ctor g N0 uX9_init 1 108 109 9 120 (.inr (9, [.int 0, .int 0, .int 0, .int 0, .int 0, .int 0, .null, .null, .null, .null, .null, .null, .null, .null, .null])) [] := by
  refine Ctor.of (l := [.ref (ga g 108)]) okX9_init rfl rfl (Nat.le_of_ble_eq_true rfl) rfl eX9_init_76.1 (fun C hC => ?_)
  refine z_begin hC ?_
  refine y_aload_n eX9_init_0 rfl rfl ?_
  refine y_objInit (by decide) kmX9_3 k_obi k_obc eX9_init_1 ?_
  refine y_aload_n eX9_init_4 rfl rfl ?_
  refine y_bipush (v := 12) (by decide) eX9_init_5 ?_
  refine z_newi (N := 12) (q := 109) (q' := 110) (i' := 1) (z' := 12) (by decide) (by decide) (Nat.le_of_ble_eq_true rfl) eX9_init_7 rfl rfl rfl (by decide) (by decide) (by decide) rfl (M0_0 (by decide)) rfl k_arr_int ?_
  refine z_put (j := 6) (fs' := [.int 0, .int 0, .int 0, .int 0, .int 0, .int 0, .ref (ga g 109), .null, .null, .null, .null, .null, .null, .null, .null]) clX9 (by decide) kfX9_9 rfl rfl rfl rfl rfl eX9_init_9 (by decide) (Nat.le_of_ble_eq_true rfl) rfl ?_
  refine y_aload_n eX9_init_12 rfl rfl ?_
  refine y_bipush (v := 12) (by decide) eX9_init_13 ?_
  refine z_newi (N := 12) (q := 110) (q' := 111) (i' := 2) (z' := 24) (by decide) (by decide) (Nat.le_of_ble_eq_true rfl) eX9_init_15 rfl rfl rfl (by decide) (by decide) (by decide) rfl (M0_0 (by decide)) rfl k_arr_int ?_
  refine z_put (j := 7) (fs' := [.int 0, .int 0, .int 0, .int 0, .int 0, .int 0, .ref (ga g 109), .ref (ga g 110), .null, .null, .null, .null, .null, .null, .null]) clX9 (by decide) kfX9_15 rfl rfl rfl rfl rfl eX9_init_17 (by decide) (Nat.le_of_ble_eq_true rfl) rfl ?_
  refine y_aload_n eX9_init_20 rfl rfl ?_
  refine y_bipush (v := 12) (by decide) eX9_init_21 ?_
  refine z_newi (N := 12) (q := 111) (q' := 112) (i' := 3) (z' := 36) (by decide) (by decide) (Nat.le_of_ble_eq_true rfl) eX9_init_23 rfl rfl rfl (by decide) (by decide) (by decide) rfl (M0_0 (by decide)) rfl k_arr_int ?_
  refine z_put (j := 8) (fs' := [.int 0, .int 0, .int 0, .int 0, .int 0, .int 0, .ref (ga g 109), .ref (ga g 110), .ref (ga g 111), .null, .null, .null, .null, .null, .null]) clX9 (by decide) kfX9_18 rfl rfl rfl rfl rfl eX9_init_25 (by decide) (Nat.le_of_ble_eq_true rfl) rfl ?_
  refine y_aload_n eX9_init_28 rfl rfl ?_
  refine y_bipush (v := 14) (by decide) eX9_init_29 ?_
  refine z_newi (N := 14) (q := 112) (q' := 113) (i' := 4) (z' := 50) (by decide) (by decide) (Nat.le_of_ble_eq_true rfl) eX9_init_31 rfl rfl rfl (by decide) (by decide) (by decide) rfl (M0_0 (by decide)) rfl k_arr_int ?_
  refine z_put (j := 9) (fs' := [.int 0, .int 0, .int 0, .int 0, .int 0, .int 0, .ref (ga g 109), .ref (ga g 110), .ref (ga g 111), .ref (ga g 112), .null, .null, .null, .null, .null]) clX9 (by decide) kfX9_21 rfl rfl rfl rfl rfl eX9_init_33 (by decide) (Nat.le_of_ble_eq_true rfl) rfl ?_
  refine y_aload_n eX9_init_36 rfl rfl ?_
  refine y_bipush (v := 14) (by decide) eX9_init_37 ?_
  refine z_newi (N := 14) (q := 113) (q' := 114) (i' := 5) (z' := 64) (by decide) (by decide) (Nat.le_of_ble_eq_true rfl) eX9_init_39 rfl rfl rfl (by decide) (by decide) (by decide) rfl (M0_0 (by decide)) rfl k_arr_int ?_
  refine z_put (j := 10) (fs' := [.int 0, .int 0, .int 0, .int 0, .int 0, .int 0, .ref (ga g 109), .ref (ga g 110), .ref (ga g 111), .ref (ga g 112), .ref (ga g 113), .null, .null, .null, .null]) clX9 (by decide) kfX9_24 rfl rfl rfl rfl rfl eX9_init_41 (by decide) (Nat.le_of_ble_eq_true rfl) rfl ?_
  refine y_aload_n eX9_init_44 rfl rfl ?_
  refine y_bipush (v := 14) (by decide) eX9_init_45 ?_
  refine z_newi (N := 14) (q := 114) (q' := 115) (i' := 6) (z' := 78) (by decide) (by decide) (Nat.le_of_ble_eq_true rfl) eX9_init_47 rfl rfl rfl (by decide) (by decide) (by decide) rfl (M0_0 (by decide)) rfl k_arr_int ?_
  refine z_put (j := 11) (fs' := [.int 0, .int 0, .int 0, .int 0, .int 0, .int 0, .ref (ga g 109), .ref (ga g 110), .ref (ga g 111), .ref (ga g 112), .ref (ga g 113), .ref (ga g 114), .null, .null, .null]) clX9 (by decide) kfX9_27 rfl rfl rfl rfl rfl eX9_init_49 (by decide) (Nat.le_of_ble_eq_true rfl) rfl ?_
  refine y_aload_n eX9_init_52 rfl rfl ?_
  refine y_bipush (v := 14) (by decide) eX9_init_53 ?_
  refine z_newi (N := 14) (q := 115) (q' := 116) (i' := 7) (z' := 92) (by decide) (by decide) (Nat.le_of_ble_eq_true rfl) eX9_init_55 rfl rfl rfl (by decide) (by decide) (by decide) rfl (M0_0 (by decide)) rfl k_arr_int ?_
  refine z_put (j := 12) (fs' := [.int 0, .int 0, .int 0, .int 0, .int 0, .int 0, .ref (ga g 109), .ref (ga g 110), .ref (ga g 111), .ref (ga g 112), .ref (ga g 113), .ref (ga g 114), .ref (ga g 115), .null, .null]) clX9 (by decide) kfX9_30 rfl rfl rfl rfl rfl eX9_init_57 (by decide) (Nat.le_of_ble_eq_true rfl) rfl ?_
  refine y_aload_n eX9_init_60 rfl rfl ?_
  refine y_bipush (v := 14) (by decide) eX9_init_61 ?_
  refine z_newi (N := 14) (q := 116) (q' := 117) (i' := 8) (z' := 106) (by decide) (by decide) (Nat.le_of_ble_eq_true rfl) eX9_init_63 rfl rfl rfl (by decide) (by decide) (by decide) rfl (M0_0 (by decide)) rfl k_arr_int ?_
  refine z_put (j := 13) (fs' := [.int 0, .int 0, .int 0, .int 0, .int 0, .int 0, .ref (ga g 109), .ref (ga g 110), .ref (ga g 111), .ref (ga g 112), .ref (ga g 113), .ref (ga g 114), .ref (ga g 115), .ref (ga g 116), .null]) clX9 (by decide) kfX9_33 rfl rfl rfl rfl rfl eX9_init_65 (by decide) (Nat.le_of_ble_eq_true rfl) rfl ?_
  refine y_aload_n eX9_init_68 rfl rfl ?_
  refine y_bipush (v := 14) (by decide) eX9_init_69 ?_
  refine z_newi (N := 14) (q := 117) (q' := 118) (i' := 9) (z' := 120) (by decide) (by decide) (Nat.le_of_ble_eq_true rfl) eX9_init_71 rfl rfl rfl (by decide) (by decide) (by decide) rfl (M0_0 (by decide)) rfl k_arr_int ?_
  refine z_put (j := 14) (fs' := [.int 0, .int 0, .int 0, .int 0, .int 0, .int 0, .ref (ga g 109), .ref (ga g 110), .ref (ga g 111), .ref (ga g 112), .ref (ga g 113), .ref (ga g 114), .ref (ga g 115), .ref (ga g 116), .ref (ga g 117)]) clX9 (by decide) kfX9_36 rfl rfl rfl rfl rfl eX9_init_73 (by decide) (Nat.le_of_ble_eq_true rfl) rfl ?_
  exact z_end (by decide) rfl (by rw [ent_obj g M0 rfl (by decide)]; rfl)
set_option maxRecDepth 100000 in
set_option maxHeartbeats 4000000 in
theorem ctX9_118 {g : G} {N0 : Nat} : Ctor g N0 uX9_init 1 118 119 9 120 (.inr (9, [.int 0, .int 0, .int 0, .int 0, .int 0, .int 0, .null, .null, .null, .null, .null, .null, .null, .null, .null])) [] := by
  refine Ctor.of (l := [.ref (ga g 118)]) okX9_init rfl rfl (Nat.le_of_ble_eq_true rfl) rfl eX9_init_76.1 (fun C hC => ?_)
  refine z_begin hC ?_
  refine y_aload_n eX9_init_0 rfl rfl ?_
  refine y_objInit (by decide) kmX9_3 k_obi k_obc eX9_init_1 ?_
  refine y_aload_n eX9_init_4 rfl rfl ?_
  refine y_bipush (v := 12) (by decide) eX9_init_5 ?_
  refine z_newi (N := 12) (q := 119) (q' := 120) (i' := 1) (z' := 12) (by decide) (by decide) (Nat.le_of_ble_eq_true rfl) eX9_init_7 rfl rfl rfl (by decide) (by decide) (by decide) rfl (M0_0 (by decide)) rfl k_arr_int ?_
  refine z_put (j := 6) (fs' := [.int 0, .int 0, .int 0, .int 0, .int 0, .int 0, .ref (ga g 119), .null, .null, .null, .null, .null, .null, .null, .null]) clX9 (by decide) kfX9_9 rfl rfl rfl rfl rfl eX9_init_9 (by decide) (Nat.le_of_ble_eq_true rfl) rfl ?_
  refine y_aload_n eX9_init_12 rfl rfl ?_
  refine y_bipush (v := 12) (by decide) eX9_init_13 ?_
  refine z_newi (N := 12) (q := 120) (q' := 121) (i' := 2) (z' := 24) (by decide) (by decide) (Nat.le_of_ble_eq_true rfl) eX9_init_15 rfl rfl rfl (by decide) (by decide) (by decide) rfl (M0_0 (by decide)) rfl k_arr_int ?_
  refine z_put (j := 7) (fs' := [.int 0, .int 0, .int 0, .int 0, .int 0, .int 0, .ref (ga g 119), .ref (ga g 120), .null, .null, .null, .null, .null, .null, .null]) clX9 (by decide) kfX9_15 rfl rfl rfl rfl rfl eX9_init_17 (by decide) (Nat.le_of_ble_eq_true rfl) rfl ?_
  refine y_aload_n eX9_init_20 rfl rfl ?_
  refine y_bipush (v := 12) (by decide) eX9_init_21 ?_
  refine z_newi (N := 12) (q := 121) (q' := 122) (i' := 3) (z' := 36) (by decide) (by decide) (Nat.le_of_ble_eq_true rfl) eX9_init_23 rfl rfl rfl (by decide) (by decide) (by decide) rfl (M0_0 (by decide)) rfl k_arr_int ?_
  refine z_put (j := 8) (fs' := [.int 0, .int 0, .int 0, .int 0, .int 0, .int 0, .ref (ga g 119), .ref (ga g 120), .ref (ga g 121), .null, .null, .null, .null, .null, .null]) clX9 (by decide) kfX9_18 rfl rfl rfl rfl rfl eX9_init_25 (by decide) (Nat.le_of_ble_eq_true rfl) rfl ?_
  refine y_aload_n eX9_init_28 rfl rfl ?_
  refine y_bipush (v := 14) (by decide) eX9_init_29 ?_
  refine z_newi (N := 14) (q := 122) (q' := 123) (i' := 4) (z' := 50) (by decide) (by decide) (Nat.le_of_ble_eq_true rfl) eX9_init_31 rfl rfl rfl (by decide) (by decide) (by decide) rfl (M0_0 (by decide)) rfl k_arr_int ?_
  refine z_put (j := 9) (fs' := [.int 0, .int 0, .int 0, .int 0, .int 0, .int 0, .ref (ga g 119), .ref (ga g 120), .ref (ga g 121), .ref (ga g 122), .null, .null, .null, .null, .null]) clX9 (by decide) kfX9_21 rfl rfl rfl rfl rfl eX9_init_33 (by decide) (Nat.le_of_ble_eq_true rfl) rfl ?_
  refine y_aload_n eX9_init_36 rfl rfl ?_
  refine y_bipush (v := 14) (by decide) eX9_init_37 ?_
  refine z_newi (N := 14) (q := 123) (q' := 124) (i' := 5) (z' := 64) (by decide) (by decide) (Nat.le_of_ble_eq_true rfl) eX9_init_39 rfl rfl rfl (by decide) (by decide) (by decide) rfl (M0_0 (by decide)) rfl k_arr_int ?_
  refine z_put (j := 10) (fs' := [.int 0, .int 0, .int 0, .int 0, .int 0, .int 0, .ref (ga g 119), .ref (ga g 120), .ref (ga g 121), .ref (ga g 122), .ref (ga g 123), .null, .null, .null, .null]) clX9 (by decide) kfX9_24 rfl rfl rfl rfl rfl eX9_init_41 (by decide) (Nat.le_of_ble_eq_true rfl) rfl ?_
  refine y_aload_n eX9_init_44 rfl rfl ?_
  refine y_bipush (v := 14) (by decide) eX9_init_45 ?_
  refine z_newi (N := 14) (q := 124) (q' := 125) (i' := 6) (z' := 78) (by decide) (by decide) (Nat.le_of_ble_eq_true rfl) eX9_init_47 rfl rfl rfl (by decide) (by decide) (by decide) rfl (M0_0 (by decide)) rfl k_arr_int ?_
  refine z_put (j := 11) (fs' := [.int 0, .int 0, .int 0, .int 0, .int 0, .int 0, .ref (ga g 119), .ref (ga g 120), .ref (ga g 121), .ref (ga g 122), .ref (ga g 123), .ref (ga g 124), .null, .null, .null]) clX9 (by decide) kfX9_27 rfl rfl rfl rfl rfl eX9_init_49 (by decide) (Nat.le_of_ble_eq_true rfl) rfl ?_
  refine y_aload_n eX9_init_52 rfl rfl ?_
  refine y_bipush (v := 14) (by decide) eX9_init_53 ?_
  refine z_newi (N := 14) (q := 125) (q' := 126) (i' := 7) (z' := 92) (by decide) (by decide) (Nat.le_of_ble_eq_true rfl) eX9_init_55 rfl rfl rfl (by decide) (by decide) (by decide) rfl (M0_0 (by decide)) rfl k_arr_int ?_
  refine z_put (j := 12) (fs' := [.int 0, .int 0, .int 0, .int 0, .int 0, .int 0, .ref (ga g 119), .ref (ga g 120), .ref (ga g 121), .ref (ga g 122), .ref (ga g 123), .ref (ga g 124), .ref (ga g 125), .null, .null]) clX9 (by decide) kfX9_30 rfl rfl rfl rfl rfl eX9_init_57 (by decide) (Nat.le_of_ble_eq_true rfl) rfl ?_
  refine y_aload_n eX9_init_60 rfl rfl ?_
  refine y_bipush (v := 14) (by decide) eX9_init_61 ?_
  refine z_newi (N := 14) (q := 126) (q' := 127) (i' := 8) (z' := 106) (by decide) (by decide) (Nat.le_of_ble_eq_true rfl) eX9_init_63 rfl rfl rfl (by decide) (by decide) (by decide) rfl (M0_0 (by decide)) rfl k_arr_int ?_
  refine z_put (j := 13) (fs' := [.int 0, .int 0, .int 0, .int 0, .int 0, .int 0, .ref (ga g 119), .ref (ga g 120), .ref (ga g 121), .ref (ga g 122), .ref (ga g 123), .ref (ga g 124), .ref (ga g 125), .ref (ga g 126), .null]) clX9 (by decide) kfX9_33 rfl rfl rfl rfl rfl eX9_init_65 (by decide) (Nat.le_of_ble_eq_true rfl) rfl ?_
  refine y_aload_n eX9_init_68 rfl rfl ?_
  refine y_bipush (v := 14) (by decide) eX9_init_69 ?_
  refine z_newi (N := 14) (q := 127) (q' := 128) (i' := 9) (z' := 120) (by decide) (by decide) (Nat.le_of_ble_eq_true rfl) eX9_init_71 rfl rfl rfl (by decide) (by decide) (by decide) rfl (M0_0 (by decide)) rfl k_arr_int ?_
  refine z_put (j := 14) (fs' := [.int 0, .int 0, .int 0, .int 0, .int 0, .int 0, .ref (ga g 119), .ref (ga g 120), .ref (ga g 121), .ref (ga g 122), .ref (ga g 123), .ref (ga g 124), .ref (ga g 125), .ref (ga g 126), .ref (ga g 127)]) clX9 (by decide) kfX9_36 rfl rfl rfl rfl rfl eX9_init_73 (by decide) (Nat.le_of_ble_eq_true rfl) rfl ?_
  exact z_end (by decide) rfl (by rw [ent_obj g M0 rfl (by decide)]; rfl)
set_option maxRecDepth 100000 in
set_option maxHeartbeats 4000000 in
theorem ctX9_128 {g : G} {N0 : Nat} : Ctor g N0 uX9_init 1 128 129 9 120 (.inr (9, [.int 0, .int 0, .int 0, .int 0, .int 0, .int 0, .null, .null, .null, .null, .null, .null, .null, .null, .null])) [] := by
  refine Ctor.of (l := [.ref (ga g 128)]) okX9_init rfl rfl (Nat.le_of_ble_eq_true rfl) rfl eX9_init_76.1 (fun C hC => ?_)
  refine z_begin hC ?_
  refine y_aload_n eX9_init_0 rfl rfl ?_
  refine y_objInit (by decide) kmX9_3 k_obi k_obc eX9_init_1 ?_
  refine y_aload_n eX9_init_4 rfl rfl ?_
  refine y_bipush (v := 12) (by decide) eX9_init_5 ?_
  refine z_newi (N := 12) (q := 129) (q' := 130) (i' := 1) (z' := 12) (by decide) (by decide) (Nat.le_of_ble_eq_true rfl) eX9_init_7 rfl rfl rfl (by decide) (by decide) (by decide) rfl (M0_0 (by decide)) rfl k_arr_int ?_
  refine z_put (j := 6) (fs' := [.int 0, .int 0, .int 0, .int 0, .int 0, .int 0, .ref (ga g 129), .null, .null, .null, .null, .null, .null, .null, .null]) clX9 (by decide) kfX9_9 rfl rfl rfl rfl rfl eX9_init_9 (by decide) (Nat.le_of_ble_eq_true rfl) rfl ?_
  refine y_aload_n eX9_init_12 rfl rfl ?_
  refine y_bipush (v := 12) (by decide) eX9_init_13 ?_
  refine z_newi (N := 12) (q := 130) (q' := 131) (i' := 2) (z' := 24) (by decide) (by decide) (Nat.le_of_ble_eq_true rfl) eX9_init_15 rfl rfl rfl (by decide) (by decide) (by decide) rfl (M0_0 (by decide)) rfl k_arr_int ?_
  refine z_put (j := 7) (fs' := [.int 0, .int 0, .int 0, .int 0, .int 0, .int 0, .ref (ga g 129), .ref (ga g 130), .null, .null, .null, .null, .null, .null, .null]) clX9 (by decide) kfX9_15 rfl rfl rfl rfl rfl eX9_init_17 (by decide) (Nat.le_of_ble_eq_true rfl) rfl ?_
  refine y_aload_n eX9_init_20 rfl rfl ?_
  refine y_bipush (v := 12) (by decide) eX9_init_21 ?_
  refine z_newi (N := 12) (q := 131) (q' := 132) (i' := 3) (z' := 36) (by decide) (by decide) (Nat.le_of_ble_eq_true rfl) eX9_init_23 rfl rfl rfl (by decide) (by decide) (by decide) rfl (M0_0 (by decide)) rfl k_arr_int ?_
  refine z_put (j := 8) (fs' := [.int 0, .int 0, .int 0, .int 0, .int 0, .int 0, .ref (ga g 129), .ref (ga g 130), .ref (ga g 131), .null, .null, .null, .null, .null, .null]) clX9 (by decide) kfX9_18 rfl rfl rfl rfl rfl eX9_init_25 (by decide) (Nat.le_of_ble_eq_true rfl) rfl ?_
  refine y_aload_n eX9_init_28 rfl rfl ?_
  refine y_bipush (v := 14) (by decide) eX9_init_29 ?_
  refine z_newi (N := 14) (q := 132) (q' := 133) (i' := 4) (z' := 50) (by decide) (by decide) (Nat.le_of_ble_eq_true rfl) eX9_init_31 rfl rfl rfl (by decide) (by decide) (by decide) rfl (M0_0 (by decide)) rfl k_arr_int ?_
  refine z_put (j := 9) (fs' := [.int 0, .int 0, .int 0, .int 0, .int 0, .int 0, .ref (ga g 129), .ref (ga g 130), .ref (ga g 131), .ref (ga g 132), .null, .null, .null, .null, .null]) clX9 (by decide) kfX9_21 rfl rfl rfl rfl rfl eX9_init_33 (by decide) (Nat.le_of_ble_eq_true rfl) rfl ?_
  refine y_aload_n eX9_init_36 rfl rfl ?_
  refine y_bipush (v := 14) (by decide) eX9_init_37 ?_
  refine z_newi (N := 14) (q := 133) (q' := 134) (i' := 5) (z' := 64) (by decide) (by decide) (Nat.le_of_ble_eq_true rfl) eX9_init_39 rfl rfl rfl (by decide) (by decide) (by decide) rfl (M0_0 (by decide)) rfl k_arr_int ?_
  refine z_put (j := 10) (fs' := [.int 0, .int 0, .int 0, .int 0, .int 0, .int 0, .ref (ga g 129), .ref (ga g 130), .ref (ga g 131), .ref (ga g 132), .ref (ga g 133), .null, .null, .null, .null]) clX9 (by decide) kfX9_24 rfl rfl rfl rfl rfl eX9_init_41 (by decide) (Nat.le_of_ble_eq_true rfl) rfl ?_
  refine y_aload_n eX9_init_44 rfl rfl ?_
  refine y_bipush (v := 14) (by decide) eX9_init_45 ?_
  refine z_newi (N := 14) (q := 134) (q' := 135) (i' := 6) (z' := 78) (by decide) (by decide) (Nat.le_of_ble_eq_true rfl) eX9_init_47 rfl rfl rfl (by decide) (by decide) (by decide) rfl (M0_0 (by decide)) rfl k_arr_int ?_
  refine z_put (j := 11) (fs' := [.int 0, .int 0, .int 0, .int 0, .int 0, .int 0, .ref (ga g 129), .ref (ga g 130), .ref (ga g 131), .ref (ga g 132), .ref (ga g 133), .ref (ga g 134), .null, .null, .null]) clX9 (by decide) kfX9_27 rfl rfl rfl rfl rfl eX9_init_49 (by decide) (Nat.le_of_ble_eq_true rfl) rfl ?_
  refine y_aload_n eX9_init_52 rfl rfl ?_
  refine y_bipush (v := 14) (by decide) eX9_init_53 ?_
  refine z_newi (N := 14) (q := 135) (q' := 136) (i' := 7) (z' := 92) (by decide) (by decide) (Nat.le_of_ble_eq_true rfl) eX9_init_55 rfl rfl rfl (by decide) (by decide) (by decide) rfl (M0_0 (by decide)) rfl k_arr_int ?_
  refine z_put (j := 12) (fs' := [.int 0, .int 0, .int 0, .int 0, .int 0, .int 0, .ref (ga g 129), .ref (ga g 130), .ref (ga g 131), .ref (ga g 132), .ref (ga g 133), .ref (ga g 134), .ref (ga g 135), .null, .null]) clX9 (by decide) kfX9_30 rfl rfl rfl rfl rfl eX9_init_57 (by decide) (Nat.le_of_ble_eq_true rfl) rfl ?_
  refine y_aload_n eX9_init_60 rfl rfl ?_
  refine y_bipush (v := 14) (by decide) eX9_init_61 ?_
  refine z_newi (N := 14) (q := 136) (q' := 137) (i' := 8) (z' := 106) (by decide) (by decide) (Nat.le_of_ble_eq_true rfl) eX9_init_63 rfl rfl rfl (by decide) (by decide) (by decide) rfl (M0_0 (by decide)) rfl k_arr_int ?_
  refine z_put (j := 13) (fs' := [.int 0, .int 0, .int 0, .int 0, .int 0, .int 0, .ref (ga g 129), .ref (ga g 130), .ref (ga g 131), .ref (ga g 132), .ref (ga g 133), .ref (ga g 134), .ref (ga g 135), .ref (ga g 136), .null]) clX9 (by decide) kfX9_33 rfl rfl rfl rfl rfl eX9_init_65 (by decide) (Nat.le_of_ble_eq_true rfl) rfl ?_
  refine y_aload_n eX9_init_68 rfl rfl ?_
  refine y_bipush (v := 14) (by decide) eX9_init_69 ?_
  refine z_newi (N := 14) (q := 137) (q' := 138) (i' := 9) (z' := 120) (by decide) (by decide) (Nat.le_of_ble_eq_true rfl) eX9_init_71 rfl rfl rfl (by decide) (by decide) (by decide) rfl (M0_0 (by decide)) rfl k_arr_int ?_
  refine z_put (j := 14) (fs' := [.int 0, .int 0, .int 0, .int 0, .int 0, .int 0, .ref (ga g 129), .ref (ga g 130), .ref (ga g 131), .ref (ga g 132), .ref (ga g 133), .ref (ga g 134), .ref (ga g 135), .ref (ga g 136), .ref (ga g 137)]) clX9 (by decide) kfX9_36 rfl rfl rfl rfl rfl eX9_init_73 (by decide) (Nat.le_of_ble_eq_true rfl) rfl ?_
  exact z_end (by decide) rfl (by rw [ent_obj g M0 rfl (by decide)]; rfl)
set_option maxRecDepth 100000 in
set_option maxHeartbeats 4000000 in
theorem ctX9_138 {g : G} {N0 : Nat} : Ctor g N0 uX9_init 1 138 139 9 120 (.inr (9, [.int 0, .int 0, .int 0, .int 0, .int 0, .int 0, .null, .null, .null, .null, .null, .null, .null, .null, .null])) [] := by
  refine Ctor.of (l := [.ref (ga g 138)]) okX9_init rfl rfl (Nat.le_of_ble_eq_true rfl) rfl eX9_init_76.1 (fun C hC => ?_)
  refine z_begin hC ?_
  refine y_aload_n eX9_init_0 rfl rfl ?_
  refine y_objInit (by decide) kmX9_3 k_obi k_obc eX9_init_1 ?_
  refine y_aload_n eX9_init_4 rfl rfl ?_
  refine y_bipush (v := 12) (by decide) eX9_init_5 ?_
  refine z_newi (N := 12) (q := 139) (q' := 140) (i' := 1) (z' := 12) (by decide) (by decide) (Nat.le_of_ble_eq_true rfl) eX9_init_7 rfl rfl rfl (by decide) (by decide) (by decide) rfl (M0_0 (by decide)) rfl k_arr_int ?_
  refine z_put (j := 6) (fs' := [.int 0, .int 0, .int 0, .int 0, .int 0, .int 0, .ref (ga g 139), .null, .null, .null, .null, .null, .null, .null, .null]) clX9 (by decide) kfX9_9 rfl rfl rfl rfl rfl eX9_init_9 (by decide) (Nat.le_of_ble_eq_true rfl) rfl ?_
  refine y_aload_n eX9_init_12 rfl rfl ?_
  refine y_bipush (v := 12) (by decide) eX9_init_13 ?_
  refine z_newi (N := 12) (q := 140) (q' := 141) (i' := 2) (z' := 24) (by decide) (by decide) (Nat.le_of_ble_eq_true rfl) eX9_init_15 rfl rfl rfl (by decide) (by decide) (by decide) rfl (M0_0 (by decide)) rfl k_arr_int ?_
  refine z_put (j := 7) (fs' := [.int 0, .int 0, .int 0, .int 0, .int 0, .int 0, .ref (ga g 139), .ref (ga g 140), .null, .null, .null, .null, .null, .null, .null]) clX9 (by decide) kfX9_15 rfl rfl rfl rfl rfl eX9_init_17 (by decide) (Nat.le_of_ble_eq_true rfl) rfl ?_
  refine y_aload_n eX9_init_20 rfl rfl ?_
  refine y_bipush (v := 12) (by decide) eX9_init_21 ?_
  refine z_newi (N := 12) (q := 141) (q' := 142) (i' := 3) (z' := 36) (by decide) (by decide) (Nat.le_of_ble_eq_true rfl) eX9_init_23 rfl rfl rfl (by decide) (by decide) (by decide) rfl (M0_0 (by decide)) rfl k_arr_int ?_
  refine z_put (j := 8) (fs' := [.int 0, .int 0, .int 0, .int 0, .int 0, .int 0, .ref (ga g 139), .ref (ga g 140), .ref (ga g 141), .null, .null, .null, .null, .null, .null]) clX9 (by decide) kfX9_18 rfl rfl rfl rfl rfl eX9_init_25 (by decide) (Nat.le_of_ble_eq_true rfl) rfl ?_
  refine y_aload_n eX9_init_28 rfl rfl ?_
  refine y_bipush (v := 14) (by decide) eX9_init_29 ?_
  refine z_newi (N := 14) (q := 142) (q' := 143) (i' := 4) (z' := 50) (by decide) (by decide) (Nat.le_of_ble_eq_true rfl) eX9_init_31 rfl rfl rfl (by decide) (by decide) (by decide) rfl (M0_0 (by decide)) rfl k_arr_int ?_
  refine z_put (j := 9) (fs' := [.int 0, .int 0, .int 0, .int 0, .int 0, .int 0, .ref (ga g 139), .ref (ga g 140), .ref (ga g 141), .ref (ga g 142), .null, .null, .null, .null, .null]) clX9 (by decide) kfX9_21 rfl rfl rfl rfl rfl eX9_init_33 (by decide) (Nat.le_of_ble_eq_true rfl) rfl ?_
  refine y_aload_n eX9_init_36 rfl rfl ?_
  refine y_bipush (v := 14) (by decide) eX9_init_37 ?_
  refine z_newi (N := 14) (q := 143) (q' := 144) (i' := 5) (z' := 64) (by decide) (by decide) (Nat.le_of_ble_eq_true rfl) eX9_init_39 rfl rfl rfl (by decide) (by decide) (by decide) rfl (M0_0 (by decide)) rfl k_arr_int ?_
  refine z_put (j := 10) (fs' := [.int 0, .int 0, .int 0, .int 0, .int 0, .int 0, .ref (ga g 139), .ref (ga g 140), .ref (ga g 141), .ref (ga g 142), .ref (ga g 143), .null, .null, .null, .null]) clX9 (by decide) kfX9_24 rfl rfl rfl rfl rfl eX9_init_41 (by decide) (Nat.le_of_ble_eq_true rfl) rfl ?_
  refine y_aload_n eX9_init_44 rfl rfl ?_
  refine y_bipush (v := 14) (by decide) eX9_init_45 ?_
  refine z_newi (N := 14) (q := 144) (q' := 145) (i' := 6) (z' := 78) (by decide) (by decide) (Nat.le_of_ble_eq_true rfl) eX9_init_47 rfl rfl rfl (by decide) (by decide) (by decide) rfl (M0_0 (by decide)) rfl k_arr_int ?_
  refine z_put (j := 11) (fs' := [.int 0, .int 0, .int 0, .int 0, .int 0, .int 0, .ref (ga g 139), .ref (ga g 140), .ref (ga g 141), .ref (ga g 142), .ref (ga g 143), .ref (ga g 144), .null, .null, .null]) clX9 (by decide) kfX9_27 rfl rfl rfl rfl rfl eX9_init_49 (by decide) (Nat.le_of_ble_eq_true rfl) rfl ?_
  refine y_aload_n eX9_init_52 rfl rfl ?_
  refine y_bipush (v := 14) (by decide) eX9_init_53 ?_
  refine z_newi (N := 14) (q := 145) (q' := 146) (i' := 7) (z' := 92) (by decide) (by decide) (Nat.le_of_ble_eq_true rfl) eX9_init_55 rfl rfl rfl (by decide) (by decide) (by decide) rfl (M0_0 (by decide)) rfl k_arr_int ?_
  refine z_put (j := 12) (fs' := [.int 0, .int 0, .int 0, .int 0, .int 0, .int 0, .ref (ga g 139), .ref (ga g 140), .ref (ga g 141), .ref (ga g 142), .ref (ga g 143), .ref (ga g 144), .ref (ga g 145), .null, .null]) clX9 (by decide) kfX9_30 rfl rfl rfl rfl rfl eX9_init_57 (by decide) (Nat.le_of_ble_eq_true rfl) rfl ?_
  refine y_aload_n eX9_init_60 rfl rfl ?_
  refine y_bipush (v := 14) (by decide) eX9_init_61 ?_
  refine z_newi (N := 14) (q := 146) (q' := 147) (i' := 8) (z' := 106) (by decide) (by decide) (Nat.le_of_ble_eq_true rfl) eX9_init_63 rfl rfl rfl (by decide) (by decide) (by decide) rfl (M0_0 (by decide)) rfl k_arr_int ?_
  refine z_put (j := 13) (fs' := [.int 0, .int 0, .int 0, .int 0, .int 0, .int 0, .ref (ga g 139), .ref (ga g 140), .ref (ga g 141), .ref (ga g 142), .ref (ga g 143), .ref (ga g 144), .ref (ga g 145), .ref (ga g 146), .null]) clX9 (by decide) kfX9_33 rfl rfl rfl rfl rfl eX9_init_65 (by decide) (Nat.le_of_ble_eq_true rfl) rfl ?_
  refine y_aload_n eX9_init_68 rfl rfl ?_
  refine y_bipush (v := 14) (by decide) eX9_init_69 ?_
  refine z_newi (N := 14) (q := 147) (q' := 148) (i' := 9) (z' := 120) (by decide) (by decide) (Nat.le_of_ble_eq_true rfl) eX9_init_71 rfl rfl rfl (by decide) (by decide) (by decide) rfl (M0_0 (by decide)) rfl k_arr_int ?_
  refine z_put (j := 14) (fs' := [.int 0, .int 0, .int 0, .int 0, .int 0, .int 0, .ref (ga g 139), .ref (ga g 140), .ref (ga g 141), .ref (ga g 142), .ref (ga g 143), .ref (ga g 144), .ref (ga g 145), .ref (ga g 146), .ref (ga g 147)]) clX9 (by decide) kfX9_36 rfl rfl rfl rfl rfl eX9_init_73 (by decide) (Nat.le_of_ble_eq_true rfl) rfl ?_
  exact z_end (by decide) rfl (by rw [ent_obj g M0 rfl (by decide)]; rfl)
set_option maxRecDepth 100000 in
set_option maxHeartbeats 4000000 in
theorem ctX9_148 {g : G} {N0 : Nat} : Ctor g N0 uX9_init 1 148 149 9 120 (.inr (9, [.int 0, .int 0, .int 0, .int 0, .int 0, .int 0, .null, .null, .null, .null, .null, .null, .null, .null, .null])) [] := by
  refine Ctor.of (l := [.ref (ga g 148)]) okX9_init rfl rfl (Nat.le_of_ble_eq_true rfl) rfl eX9_init_76.1 (fun C hC => ?_)
  refine z_begin hC ?_
  refine y_aload_n eX9_init_0 rfl rfl ?_
  refine y_objInit (by decide) kmX9_3 k_obi k_obc eX9_init_1 ?_
  refine y_aload_n eX9_init_4 rfl rfl ?_
  refine y_bipush (v := 12) (by decide) eX9_init_5 ?_
  refine z_newi (N := 12) (q := 149) (q' := 150) (i' := 1) (z' := 12) (by decide) (by decide) (Nat.le_of_ble_eq_true rfl) eX9_init_7 rfl rfl rfl (by decide) (by decide) (by decide) rfl (M0_0 (by decide)) rfl k_arr_int ?_
  refine z_put (j := 6) (fs' := [.int 0, .int 0, .int 0, .int 0, .int 0, .int 0, .ref (ga g 149), .null, .null, .null, .null, .null, .null, .null, .null]) clX9 (by decide) kfX9_9 rfl rfl rfl rfl rfl eX9_init_9 (by decide) (Nat.le_of_ble_eq_true rfl) rfl ?_
  refine y_aload_n eX9_init_12 rfl rfl ?_
  refine y_bipush (v := 12) (by decide) eX9_init_13 ?_
  refine z_newi (N := 12) (q := 150) (q' := 151) (i' := 2) (z' := 24) (by decide) (by decide) (Nat.le_of_ble_eq_true rfl) eX9_init_15 rfl rfl rfl (by decide) (by decide) (by decide) rfl (M0_0 (by decide)) rfl k_arr_int ?_
  refine z_put (j := 7) (fs' := [.int 0, .int 0, .int 0, .int 0, .int 0, .int 0, .ref (ga g 149), .ref (ga g 150), .null, .null, .null, .null, .null, .null, .null]) clX9 (by decide) kfX9_15 rfl rfl rfl rfl rfl eX9_init_17 (by decide) (Nat.le_of_ble_eq_true rfl) rfl ?_
  refine y_aload_n eX9_init_20 rfl rfl ?_
  refine y_bipush (v := 12) (by decide) eX9_init_21 ?_
  refine z_newi (N := 12) (q := 151) (q' := 152) (i' := 3) (z' := 36) (by decide) (by decide) (Nat.le_of_ble_eq_true rfl) eX9_init_23 rfl rfl rfl (by decide) (by decide) (by decide) rfl (M0_0 (by decide)) rfl k_arr_int ?_
  refine z_put (j := 8) (fs' := [.int 0, .int 0, .int 0, .int 0, .int 0, .int 0, .ref (ga g 149), .ref (ga g 150), .ref (ga g 151), .null, .null, .null, .null, .null, .null]) clX9 (by decide) kfX9_18 rfl rfl rfl rfl rfl eX9_init_25 (by decide) (Nat.le_of_ble_eq_true rfl) rfl ?_
  refine y_aload_n eX9_init_28 rfl rfl ?_
  refine y_bipush (v := 14) (by decide) eX9_init_29 ?_
  refine z_newi (N := 14) (q := 152) (q' := 153) (i' := 4) (z' := 50) (by decide) (by decide) (Nat.le_of_ble_eq_true rfl) eX9_init_31 rfl rfl rfl (by decide) (by decide) (by decide) rfl (M0_0 (by decide)) rfl k_arr_int ?_
  refine z_put (j := 9) (fs' := [.int 0, .int 0, .int 0, .int 0, .int 0, .int 0, .ref (ga g 149), .ref (ga g 150), .ref (ga g 151), .ref (ga g 152), .null, .null, .null, .null, .null]) clX9 (by decide) kfX9_21 rfl rfl rfl rfl rfl eX9_init_33 (by decide) (Nat.le_of_ble_eq_true rfl) rfl ?_
  refine y_aload_n eX9_init_36 rfl rfl ?_
  refine y_bipush (v := 14) (by decide) eX9_init_37 ?_
  refine z_newi (N := 14) (q := 153) (q' := 154) (i' := 5) (z' := 64) (by decide) (by decide) (Nat.le_of_ble_eq_true rfl) eX9_init_39 rfl rfl rfl (by decide) (by decide) (by decide) rfl (M0_0 (by decide)) rfl k_arr_int ?_
  refine z_put (j := 10) (fs' := [.int 0, .int 0, .int 0, .int 0, .int 0, .int 0, .ref (ga g 149), .ref (ga g 150), .ref (ga g 151), .ref (ga g 152), .ref (ga g 153), .null, .null, .null, .null]) clX9 (by decide) kfX9_24 rfl rfl rfl rfl rfl eX9_init_41 (by decide) (Nat.le_of_ble_eq_true rfl) rfl ?_
  refine y_aload_n eX9_init_44 rfl rfl ?_
  refine y_bipush (v := 14) (by decide) eX9_init_45 ?_
  refine z_newi (N := 14) (q := 154) (q' := 155) (i' := 6) (z' := 78) (by decide) (by decide) (Nat.le_of_ble_eq_true rfl) eX9_init_47 rfl rfl rfl (by decide) (by decide) (by decide) rfl (M0_0 (by decide)) rfl k_arr_int ?_
  refine z_put (j := 11) (fs' := [.int 0, .int 0, .int 0, .int 0, .int 0, .int 0, .ref (ga g 149), .ref (ga g 150), .ref (ga g 151), .ref (ga g 152), .ref (ga g 153), .ref (ga g 154), .null, .null, .null]) clX9 (by decide) kfX9_27 rfl rfl rfl rfl rfl eX9_init_49 (by decide) (Nat.le_of_ble_eq_true rfl) rfl ?_
  refine y_aload_n eX9_init_52 rfl rfl ?_
  refine y_bipush (v := 14) (by decide) eX9_init_53 ?_
  refine z_newi (N := 14) (q := 155) (q' := 156) (i' := 7) (z' := 92) (by decide) (by decide) (Nat.le_of_ble_eq_true rfl) eX9_init_55 rfl rfl rfl (by decide) (by decide) (by decide) rfl (M0_0 (by decide)) rfl k_arr_int ?_
  refine z_put (j := 12) (fs' := [.int 0, .int 0, .int 0, .int 0, .int 0, .int 0, .ref (ga g 149), .ref (ga g 150), .ref (ga g 151), .ref (ga g 152), .ref (ga g 153), .ref (ga g 154), .ref (ga g 155), .null, .null]) clX9 (by decide) kfX9_30 rfl rfl rfl rfl rfl eX9_init_57 (by decide) (Nat.le_of_ble_eq_true rfl) rfl ?_
  refine y_aload_n eX9_init_60 rfl rfl ?_
  refine y_bipush (v := 14) (by decide) eX9_init_61 ?_
  refine z_newi (N := 14) (q := 156) (q' := 157) (i' := 8) (z' := 106) (by decide) (by decide) (Nat.le_of_ble_eq_true rfl) eX9_init_63 rfl rfl rfl (by decide) (by decide) (by decide) rfl (M0_0 (by decide)) rfl k_arr_int ?_
  refine z_put (j := 13) (fs' := [.int 0, .int 0, .int 0, .int 0, .int 0, .int 0, .ref (ga g 149), .ref (ga g 150), .ref (ga g 151), .ref (ga g 152), .ref (ga g 153), .ref (ga g 154), .ref (ga g 155), .ref (ga g 156), .null]) clX9 (by decide) kfX9_33 rfl rfl rfl rfl rfl eX9_init_65 (by decide) (Nat.le_of_ble_eq_true rfl) rfl ?_
  refine y_aload_n eX9_init_68 rfl rfl ?_
  refine y_bipush (v := 14) (by decide) eX9_init_69 ?_
  refine z_newi (N := 14) (q := 157) (q' := 158) (i' := 9) (z' := 120) (by decide) (by decide) (Nat.le_of_ble_eq_true rfl) eX9_init_71 rfl rfl rfl (by decide) (by decide) (by decide) rfl (M0_0 (by decide)) rfl k_arr_int ?_
  refine z_put (j := 14) (fs' := [.int 0, .int 0, .int 0, .int 0, .int 0, .int 0, .ref (ga g 149), .ref (ga g 150), .ref (ga g 151), .ref (ga g 152), .ref (ga g 153), .ref (ga g 154), .ref (ga g 155), .ref (ga g 156), .ref (ga g 157)]) clX9 (by decide) kfX9_36 rfl rfl rfl rfl rfl eX9_init_73 (by decide) (Nat.le_of_ble_eq_true rfl) rfl ?_
  exact z_end (by decide) rfl (by rw [ent_obj g M0 rfl (by decide)]; rfl)
set_option maxRecDepth 100000 in
set_option maxHeartbeats 4000000 in
theorem ctX9_158 {g : G} {N0 : Nat} : Ctor g N0 uX9_init 1 158 159 9 120 (.inr (9, [.int 0, .int 0, .int 0, .int 0, .int 0, .int 0, .null, .null, .null, .null, .null, .null, .null, .null, .null])) [] := by
  refine Ctor.of (l := [.ref (ga g 158)]) okX9_init rfl rfl (Nat.le_of_ble_eq_true rfl) rfl eX9_init_76.1 (fun C hC => ?_)
  refine z_begin hC ?_
  refine y_aload_n eX9_init_0 rfl rfl ?_
  refine y_objInit (by decide) kmX9_3 k_obi k_obc eX9_init_1 ?_
  refine y_aload_n eX9_init_4 rfl rfl ?_
  refine y_bipush (v := 12) (by decide) eX9_init_5 ?_
  refine z_newi (N := 12) (q := 159) (q' := 160) (i' := 1) (z' := 12) (by decide) (by decide) (Nat.le_of_ble_eq_true rfl) eX9_init_7 rfl rfl rfl (by decide) (by decide) (by decide) rfl (M0_0 (by decide)) rfl k_arr_int ?_
  refine z_put (j := 6) (fs' := [.int 0, .int 0, .int 0, .int 0, .int 0, .int 0, .ref (ga g 159), .null, .null, .null, .null, .null, .null, .null, .null]) clX9 (by decide) kfX9_9 rfl rfl rfl rfl rfl eX9_init_9 (by decide) (Nat.le_of_ble_eq_true rfl) rfl ?_
  refine y_aload_n eX9_init_12 rfl rfl ?_
  refine y_bipush (v := 12) (by decide) eX9_init_13 ?_
  refine z_newi (N := 12) (q := 160) (q' := 161) (i' := 2) (z' := 24) (by decide) (by decide) (Nat.le_of_ble_eq_true rfl) eX9_init_15 rfl rfl rfl (by decide) (by decide) (by decide) rfl (M0_0 (by decide)) rfl k_arr_int ?_
  refine z_put (j := 7) (fs' := [.int 0, .int 0, .int 0, .int 0, .int 0, .int 0, .ref (ga g 159), .ref (ga g 160), .null, .null, .null, .null, .null, .null, .null]) clX9 (by decide) kfX9_15 rfl rfl rfl rfl rfl eX9_init_17 (by decide) (Nat.le_of_ble_eq_true rfl) rfl ?_
  refine y_aload_n eX9_init_20 rfl rfl ?_
  refine y_bipush (v := 12) (by decide) eX9_init_21 ?_
  refine z_newi (N := 12) (q := 161) (q' := 162) (i' := 3) (z' := 36) (by decide) (by decide) (Nat.le_of_ble_eq_true rfl) eX9_init_23 rfl rfl rfl (by decide) (by decide) (by decide) rfl (M0_0 (by decide)) rfl k_arr_int ?_
  refine z_put (j := 8) (fs' := [.int 0, .int 0, .int 0, .int 0, .int 0, .int 0, .ref (ga g 159), .ref (ga g 160), .ref (ga g 161), .null, .null, .null, .null, .null, .null]) clX9 (by decide) kfX9_18 rfl rfl rfl rfl rfl eX9_init_25 (by decide) (Nat.le_of_ble_eq_true rfl) rfl ?_
  refine y_aload_n eX9_init_28 rfl rfl ?_
  refine y_bipush (v := 14) (by decide) eX9_init_29 ?_
  refine z_newi (N := 14) (q := 162) (q' := 163) (i' := 4) (z' := 50) (by decide) (by decide) (Nat.le_of_ble_eq_true rfl) eX9_init_31 rfl rfl rfl (by decide) (by decide) (by decide) rfl (M0_0 (by decide)) rfl k_arr_int ?_
  refine z_put (j := 9) (fs' := [.int 0, .int 0, .int 0, .int 0, .int 0, .int 0, .ref (ga g 159), .ref (ga g 160), .ref (ga g 161), .ref (ga g 162), .null, .null, .null, .null, .null]) clX9 (by decide) kfX9_21 rfl rfl rfl rfl rfl eX9_init_33 (by decide) (Nat.le_of_ble_eq_true rfl) rfl ?_
  refine y_aload_n eX9_init_36 rfl rfl ?_
  refine y_bipush (v := 14) (by decide) eX9_init_37 ?_
  refine z_newi (N := 14) (q := 163) (q' := 164) (i' := 5) (z' := 64) (by decide) (by decide) (Nat.le_of_ble_eq_true rfl) eX9_init_39 rfl rfl rfl (by decide) (by decide) (by decide) rfl (M0_0 (by decide)) rfl k_arr_int ?_
  refine z_put (j := 10) (fs' := [.int 0, .int 0, .int 0, .int 0, .int 0, .int 0, .ref (ga g 159), .ref (ga g 160), .ref (ga g 161), .ref (ga g 162), .ref (ga g 163), .null, .null, .null, .null]) clX9 (by decide) kfX9_24 rfl rfl rfl rfl rfl eX9_init_41 (by decide) (Nat.le_of_ble_eq_true rfl) rfl ?_
  refine y_aload_n eX9_init_44 rfl rfl ?_
  refine y_bipush (v := 14) (by decide) eX9_init_45 ?_
  refine z_newi (N := 14) (q := 164) (q' := 165) (i' := 6) (z' := 78) (by decide) (by decide) (Nat.le_of_ble_eq_true rfl) eX9_init_47 rfl rfl rfl (by decide) (by decide) (by decide) rfl (M0_0 (by decide)) rfl k_arr_int ?_
  refine z_put (j := 11) (fs' := [.int 0, .int 0, .int 0, .int 0, .int 0, .int 0, .ref (ga g 159), .ref (ga g 160), .ref (ga g 161), .ref (ga g 162), .ref (ga g 163), .ref (ga g 164), .null, .null, .null]) clX9 (by decide) kfX9_27 rfl rfl rfl rfl rfl eX9_init_49 (by decide) (Nat.le_of_ble_eq_true rfl) rfl ?_
  refine y_aload_n eX9_init_52 rfl rfl ?_
  refine y_bipush (v := 14) (by decide) eX9_init_53 ?_
  refine z_newi (N := 14) (q := 165) (q' := 166) (i' := 7) (z' := 92) (by decide) (by decide) (Nat.le_of_ble_eq_true rfl) eX9_init_55 rfl rfl rfl (by decide) (by decide) (by decide) rfl (M0_0 (by decide)) rfl k_arr_int ?_
  refine z_put (j := 12) (fs' := [.int 0, .int 0, .int 0, .int 0, .int 0, .int 0, .ref (ga g 159), .ref (ga g 160), .ref (ga g 161), .ref (ga g 162), .ref (ga g 163), .ref (ga g 164), .ref (ga g 165), .null, .null]) clX9 (by decide) kfX9_30 rfl rfl rfl rfl rfl eX9_init_57 (by decide) (Nat.le_of_ble_eq_true rfl) rfl ?_
  refine y_aload_n eX9_init_60 rfl rfl ?_
  refine y_bipush (v := 14) (by decide) eX9_init_61 ?_
  refine z_newi (N := 14) (q := 166) (q' := 167) (i' := 8) (z' := 106) (by decide) (by decide) (Nat.le_of_ble_eq_true rfl) eX9_init_63 rfl rfl rfl (by decide) (by decide) (by decide) rfl (M0_0 (by decide)) rfl k_arr_int ?_
  refine z_put (j := 13) (fs' := [.int 0, .int 0, .int 0, .int 0, .int 0, .int 0, .ref (ga g 159), .ref (ga g 160), .ref (ga g 161), .ref (ga g 162), .ref (ga g 163), .ref (ga g 164), .ref (ga g 165), .ref (ga g 166), .null]) clX9 (by decide) kfX9_33 rfl rfl rfl rfl rfl eX9_init_65 (by decide) (Nat.le_of_ble_eq_true rfl) rfl ?_
  refine y_aload_n eX9_init_68 rfl rfl ?_
  refine y_bipush (v := 14) (by decide) eX9_init_69 ?_
  refine z_newi (N := 14) (q := 167) (q' := 168) (i' := 9) (z' := 120) (by decide) (by decide) (Nat.le_of_ble_eq_true rfl) eX9_init_71 rfl rfl rfl (by decide) (by decide) (by decide) rfl (M0_0 (by decide)) rfl k_arr_int ?_
  refine z_put (j := 14) (fs' := [.int 0, .int 0, .int 0, .int 0, .int 0, .int 0, .ref (ga g 159), .ref (ga g 160), .ref (ga g 161), .ref (ga g 162), .ref (ga g 163), .ref (ga g 164), .ref (ga g 165), .ref (ga g 166), .ref (ga g 167)]) clX9 (by decide) kfX9_36 rfl rfl rfl rfl rfl eX9_init_73 (by decide) (Nat.le_of_ble_eq_true rfl) rfl ?_
  exact z_end (by decide) rfl (by rw [ent_obj g M0 rfl (by decide)]; rfl)
set_option maxRecDepth 100000 in
set_option maxHeartbeats 4000000 in
theorem ctX6_105 {g : G} {N0 : Nat} : Ctor g N0 uX6_init 2 105 106 62 822 (.inr (6, [.int 0, .int 0, .null, .null])) [] := by
  refine Ctor.of (l := [.ref (ga g 105), .null]) okX6_init rfl rfl (Nat.le_of_ble_eq_true rfl) rfl eX6_init_48.1 (fun C hC => ?_)
  refine z_begin hC ?_
  refine y_aload_n eX6_init_0 rfl rfl ?_
  refine y_objInit (by decide) kmX6_3 k_obi k_obc eX6_init_1 ?_
  refine y_aload_n eX6_init_4 rfl rfl ?_
  refine y_bipush (v := 6) (by decide) eX6_init_5 ?_
  refine o_newq (N := 6) (q := 106) (q' := 107) (i' := 1) (z' := 6) kcX6_9 (by decide) (by decide) (Nat.le_of_ble_eq_true rfl) eX6_init_7 rfl rfl rfl (by decide) (by decide) (by decide) rfl ?_
  refine o_put (j := 2) (fs' := [.int 0, .int 0, .ref (ga g 106), .null]) clX6 (by decide) kfX6_11 rfl rfl rfl rfl rfl eX6_init_10 (by decide) (by decide) (Nat.le_of_ble_eq_true rfl) rfl ?_
  refine y_aload_n eX6_init_13 rfl rfl ?_
  refine y_bipush (v := 6) (by decide) eX6_init_14 ?_
  refine o_newi (N := 6) (q := 107) (q' := 108) (i' := 2) (z' := 12) (by decide) (by decide) (Nat.le_of_ble_eq_true rfl) eX6_init_16 rfl rfl rfl (by decide) (by decide) (by decide) (by decide) rfl (M0_0 (by decide)) rfl k_arr_int ?_
  refine o_put (j := 3) (fs' := [.int 0, .int 0, .ref (ga g 106), .ref (ga g 107)]) clX6 (by decide) kfX6_17 rfl rfl rfl rfl rfl eX6_init_18 (by decide) (by decide) (Nat.le_of_ble_eq_true rfl) rfl ?_
  refine y_iconst (v := 0) (by decide) eX6_init_21 ?_
  refine y_istore_n (l' := [.ref (ga g 105), .int 0]) eX6_init_22 rfl (by decide) rfl rfl ?_
  refine y_iload_n eX6_init_23 rfl rfl ?_
  refine y_bipush (v := 6) (by decide) eX6_init_24 ?_
  refine y_icmp_ge eX6_init_26 (fun h => absurd h (by decide)) (fun _ => ?_)
  refine y_aload_n eX6_init_29 rfl rfl ?_
  refine o_get (j := 2) (v := .ref (ga g 106)) clX6 (by decide) kfX6_11 eX6_init_30 (by decide) (by decide) rfl ?_
  refine y_iload_n eX6_init_33 rfl rfl ?_
  refine y_new (q := 108) (i' := 3) (z' := 27) clX9 kcX6_9 blX9 eX6_init_34 rfl rfl rfl (by decide) (by decide) ?_
  refine y_dup eX6_init_37 rfl ?_
  refine o_callN (q := 108) (q' := 118) (i' := 12) (z' := 147) (na := 0) (As := []) (rest := [.ref (ga g 108), .int 0, .ref (ga g 106)]) ctX9_108 (by decide) okX9_init rfl rfl (List.mem_of_getElem? (i := 4) rfl) kiX9_init kpX9_init rfl (Nat.le_of_ble_eq_true rfl) eX6_init_38 rfl rfl rfl rfl (by decide) (by decide) (by decide) (by decide) rfl ?_
  refine o_aast (t := 0) (q' := 108) (cj := 9) (vs := (List.range 15).map (fld g M0 108 9)) eX6_init_41 (by decide) (by decide) (by decide) (by decide) (by decide) (ent_obj g M0 rfl (by decide)) rfl (by decide) (by decide) (by decide) ?_
  refine y_iinc (v := 1) (l' := [.ref (ga g 105), .int 1]) eX6_init_42 rfl (by decide) (by decide) rfl rfl ?_
  refine y_goto eX6_init_45 ?_
  refine y_iload_n eX6_init_23 rfl rfl ?_
  refine y_bipush (v := 6) (by decide) eX6_init_24 ?_
  refine y_icmp_ge eX6_init_26 (fun h => absurd h (by decide)) (fun _ => ?_)
  refine y_aload_n eX6_init_29 rfl rfl ?_
  refine o_get (j := 2) (v := .ref (ga g 106)) clX6 (by decide) kfX6_11 eX6_init_30 (by decide) (by decide) rfl ?_
  refine y_iload_n eX6_init_33 rfl rfl ?_
  refine y_new (q := 118) (i' := 13) (z' := 162) clX9 kcX6_9 blX9 eX6_init_34 rfl rfl rfl (by decide) (by decide) ?_
  refine y_dup eX6_init_37 rfl ?_
  refine o_callN (q := 118) (q' := 128) (i' := 22) (z' := 282) (na := 0) (As := []) (rest := [.ref (ga g 118), .int 1, .ref (ga g 106)]) ctX9_118 (by decide) okX9_init rfl rfl (List.mem_of_getElem? (i := 4) rfl) kiX9_init kpX9_init rfl (Nat.le_of_ble_eq_true rfl) eX6_init_38 rfl rfl rfl rfl (by decide) (by decide) (by decide) (by decide) rfl ?_
  refine o_aast (t := 1) (q' := 118) (cj := 9) (vs := (List.range 15).map (fld g M0 118 9)) eX6_init_41 (by decide) (by decide) (by decide) (by decide) (by decide) (ent_obj g M0 rfl (by decide)) rfl (by decide) (by decide) (by decide) ?_
  refine y_iinc (v := 2) (l' := [.ref (ga g 105), .int 2]) eX6_init_42 rfl (by decide) (by decide) rfl rfl ?_
  refine y_goto eX6_init_45 ?_
  refine y_iload_n eX6_init_23 rfl rfl ?_
  refine y_bipush (v := 6) (by decide) eX6_init_24 ?_
  refine y_icmp_ge eX6_init_26 (fun h => absurd h (by decide)) (fun _ => ?_)
  refine y_aload_n eX6_init_29 rfl rfl ?_
  refine o_get (j := 2) (v := .ref (ga g 106)) clX6 (by decide) kfX6_11 eX6_init_30 (by decide) (by decide) rfl ?_
  refine y_iload_n eX6_init_33 rfl rfl ?_
  refine y_new (q := 128) (i' := 23) (z' := 297) clX9 kcX6_9 blX9 eX6_init_34 rfl rfl rfl (by decide) (by decide) ?_
  refine y_dup eX6_init_37 rfl ?_
  refine o_callN (q := 128) (q' := 138) (i' := 32) (z' := 417) (na := 0) (As := []) (rest := [.ref (ga g 128), .int 2, .ref (ga g 106)]) ctX9_128 (by decide) okX9_init rfl rfl (List.mem_of_getElem? (i := 4) rfl) kiX9_init kpX9_init rfl (Nat.le_of_ble_eq_true rfl) eX6_init_38 rfl rfl rfl rfl (by decide) (by decide) (by decide) (by decide) rfl ?_
  refine o_aast (t := 2) (q' := 128) (cj := 9) (vs := (List.range 15).map (fld g M0 128 9)) eX6_init_41 (by decide) (by decide) (by decide) (by decide) (by decide) (ent_obj g M0 rfl (by decide)) rfl (by decide) (by decide) (by decide) ?_
  refine y_iinc (v := 3) (l' := [.ref (ga g 105), .int 3]) eX6_init_42 rfl (by decide) (by decide) rfl rfl ?_
  refine y_goto eX6_init_45 ?_
  refine y_iload_n eX6_init_23 rfl rfl ?_
  refine y_bipush (v := 6) (by decide) eX6_init_24 ?_
  refine y_icmp_ge eX6_init_26 (fun h => absurd h (by decide)) (fun _ => ?_)
  refine y_aload_n eX6_init_29 rfl rfl ?_
  refine o_get (j := 2) (v := .ref (ga g 106)) clX6 (by decide) kfX6_11 eX6_init_30 (by decide) (by decide) rfl ?_
  refine y_iload_n eX6_init_33 rfl rfl ?_
  refine y_new (q := 138) (i' := 33) (z' := 432) clX9 kcX6_9 blX9 eX6_init_34 rfl rfl rfl (by decide) (by decide) ?_
  refine y_dup eX6_init_37 rfl ?_
  refine o_callN (q := 138) (q' := 148) (i' := 42) (z' := 552) (na := 0) (As := []) (rest := [.ref (ga g 138), .int 3, .ref (ga g 106)]) ctX9_138 (by decide) okX9_init rfl rfl (List.mem_of_getElem? (i := 4) rfl) kiX9_init kpX9_init rfl (Nat.le_of_ble_eq_true rfl) eX6_init_38 rfl rfl rfl rfl (by decide) (by decide) (by decide) (by decide) rfl ?_
  refine o_aast (t := 3) (q' := 138) (cj := 9) (vs := (List.range 15).map (fld g M0 138 9)) eX6_init_41 (by decide) (by decide) (by decide) (by decide) (by decide) (ent_obj g M0 rfl (by decide)) rfl (by decide) (by decide) (by decide) ?_
  refine y_iinc (v := 4) (l' := [.ref (ga g 105), .int 4]) eX6_init_42 rfl (by decide) (by decide) rfl rfl ?_
  refine y_goto eX6_init_45 ?_
  refine y_iload_n eX6_init_23 rfl rfl ?_
  refine y_bipush (v := 6) (by decide) eX6_init_24 ?_
  refine y_icmp_ge eX6_init_26 (fun h => absurd h (by decide)) (fun _ => ?_)
  refine y_aload_n eX6_init_29 rfl rfl ?_
  refine o_get (j := 2) (v := .ref (ga g 106)) clX6 (by decide) kfX6_11 eX6_init_30 (by decide) (by decide) rfl ?_
  refine y_iload_n eX6_init_33 rfl rfl ?_
  refine y_new (q := 148) (i' := 43) (z' := 567) clX9 kcX6_9 blX9 eX6_init_34 rfl rfl rfl (by decide) (by decide) ?_
  refine y_dup eX6_init_37 rfl ?_
  refine o_callN (q := 148) (q' := 158) (i' := 52) (z' := 687) (na := 0) (As := []) (rest := [.ref (ga g 148), .int 4, .ref (ga g 106)]) ctX9_148 (by decide) okX9_init rfl rfl (List.mem_of_getElem? (i := 4) rfl) kiX9_init kpX9_init rfl (Nat.le_of_ble_eq_true rfl) eX6_init_38 rfl rfl rfl rfl (by decide) (by decide) (by decide) (by decide) rfl ?_
  refine o_aast (t := 4) (q' := 148) (cj := 9) (vs := (List.range 15).map (fld g M0 148 9)) eX6_init_41 (by decide) (by decide) (by decide) (by decide) (by decide) (ent_obj g M0 rfl (by decide)) rfl (by decide) (by decide) (by decide) ?_
  refine y_iinc (v := 5) (l' := [.ref (ga g 105), .int 5]) eX6_init_42 rfl (by decide) (by decide) rfl rfl ?_
  refine y_goto eX6_init_45 ?_
  refine y_iload_n eX6_init_23 rfl rfl ?_
  refine y_bipush (v := 6) (by decide) eX6_init_24 ?_
  refine y_icmp_ge eX6_init_26 (fun h => absurd h (by decide)) (fun _ => ?_)
  refine y_aload_n eX6_init_29 rfl rfl ?_
  refine o_get (j := 2) (v := .ref (ga g 106)) clX6 (by decide) kfX6_11 eX6_init_30 (by decide) (by decide) rfl ?_
  refine y_iload_n eX6_init_33 rfl rfl ?_
  refine y_new (q := 158) (i' := 53) (z' := 702) clX9 kcX6_9 blX9 eX6_init_34 rfl rfl rfl (by decide) (by decide) ?_
  refine y_dup eX6_init_37 rfl ?_
  refine o_callN (q := 158) (q' := 168) (i' := 62) (z' := 822) (na := 0) (As := []) (rest := [.ref (ga g 158), .int 5, .ref (ga g 106)]) ctX9_158 (by decide) okX9_init rfl rfl (List.mem_of_getElem? (i := 4) rfl) kiX9_init kpX9_init rfl (Nat.le_of_ble_eq_true rfl) eX6_init_38 rfl rfl rfl rfl (by decide) (by decide) (by decide) (by decide) rfl ?_
  refine o_aast (t := 5) (q' := 158) (cj := 9) (vs := (List.range 15).map (fld g M0 158 9)) eX6_init_41 (by decide) (by decide) (by decide) (by decide) (by decide) (ent_obj g M0 rfl (by decide)) rfl (by decide) (by decide) (by decide) ?_
  refine y_iinc (v := 6) (l' := [.ref (ga g 105), .int 6]) eX6_init_42 rfl (by decide) (by decide) rfl rfl ?_
  refine y_goto eX6_init_45 ?_
  refine y_iload_n eX6_init_23 rfl rfl ?_
  refine y_bipush (v := 6) (by decide) eX6_init_24 ?_
  refine y_icmp_ge eX6_init_26 (fun _ => ?_) (fun h => absurd (by decide) h)
  refine o_fin (ent_ref g M0 rfl) (by rw [vp_cell_q, vp_cell_q]; exact arrV_ext (fun j hj => by
    match j, hj with
    | 0, _ => rfl
    | 1, _ => rfl
    | 2, _ => rfl
    | 3, _ => rfl
    | 4, _ => rfl
    | 5, _ => rfl
    | j + 6, h => exact absurd h (by omega))) (by decide) (by decide) rfl ?_
  exact z_end (by decide) rfl (by rw [ent_obj g M0 rfl (by decide)]; rfl)
set_option maxRecDepth 100000 in
set_option maxHeartbeats 4000000 in
theorem ctX9_168 {g : G} {N0 : Nat} : Ctor g N0 uX9_init 1 168 169 9 120 (.inr (9, [.int 0, .int 0, .int 0, .int 0, .int 0, .int 0, .null, .null, .null, .null, .null, .null, .null, .null, .null])) [] := by
  refine Ctor.of (l := [.ref (ga g 168)]) okX9_init rfl rfl (Nat.le_of_ble_eq_true rfl) rfl eX9_init_76.1 (fun C hC => ?_)
  refine z_begin hC ?_
  refine y_aload_n eX9_init_0 rfl rfl ?_
  refine y_objInit (by decide) kmX9_3 k_obi k_obc eX9_init_1 ?_
  refine y_aload_n eX9_init_4 rfl rfl ?_
  refine y_bipush (v := 12) (by decide) eX9_init_5 ?_
  refine z_newi (N := 12) (q := 169) (q' := 170) (i' := 1) (z' := 12) (by decide) (by decide) (Nat.le_of_ble_eq_true rfl) eX9_init_7 rfl rfl rfl (by decide) (by decide) (by decide) rfl (M0_0 (by decide)) rfl k_arr_int ?_
  refine z_put (j := 6) (fs' := [.int 0, .int 0, .int 0, .int 0, .int 0, .int 0, .ref (ga g 169), .null, .null, .null, .null, .null, .null, .null, .null]) clX9 (by decide) kfX9_9 rfl rfl rfl rfl rfl eX9_init_9 (by decide) (Nat.le_of_ble_eq_true rfl) rfl ?_
  refine y_aload_n eX9_init_12 rfl rfl ?_
  refine y_bipush (v := 12) (by decide) eX9_init_13 ?_
  refine z_newi (N := 12) (q := 170) (q' := 171) (i' := 2) (z' := 24) (by decide) (by decide) (Nat.le_of_ble_eq_true rfl) eX9_init_15 rfl rfl rfl (by decide) (by decide) (by decide) rfl (M0_0 (by decide)) rfl k_arr_int ?_
  refine z_put (j := 7) (fs' := [.int 0, .int 0, .int 0, .int 0, .int 0, .int 0, .ref (ga g 169), .ref (ga g 170), .null, .null, .null, .null, .null, .null, .null]) clX9 (by decide) kfX9_15 rfl rfl rfl rfl rfl eX9_init_17 (by decide) (Nat.le_of_ble_eq_true rfl) rfl ?_
  refine y_aload_n eX9_init_20 rfl rfl ?_
  refine y_bipush (v := 12) (by decide) eX9_init_21 ?_
  refine z_newi (N := 12) (q := 171) (q' := 172) (i' := 3) (z' := 36) (by decide) (by decide) (Nat.le_of_ble_eq_true rfl) eX9_init_23 rfl rfl rfl (by decide) (by decide) (by decide) rfl (M0_0 (by decide)) rfl k_arr_int ?_
  refine z_put (j := 8) (fs' := [.int 0, .int 0, .int 0, .int 0, .int 0, .int 0, .ref (ga g 169), .ref (ga g 170), .ref (ga g 171), .null, .null, .null, .null, .null, .null]) clX9 (by decide) kfX9_18 rfl rfl rfl rfl rfl eX9_init_25 (by decide) (Nat.le_of_ble_eq_true rfl) rfl ?_
  refine y_aload_n eX9_init_28 rfl rfl ?_
  refine y_bipush (v := 14) (by decide) eX9_init_29 ?_
  refine z_newi (N := 14) (q := 172) (q' := 173) (i' := 4) (z' := 50) (by decide) (by decide) (Nat.le_of_ble_eq_true rfl) eX9_init_31 rfl rfl rfl (by decide) (by decide) (by decide) rfl (M0_0 (by decide)) rfl k_arr_int ?_
  refine z_put (j := 9) (fs' := [.int 0, .int 0, .int 0, .int 0, .int 0, .int 0, .ref (ga g 169), .ref (ga g 170), .ref (ga g 171), .ref (ga g 172), .null, .null, .null, .null, .null]) clX9 (by decide) kfX9_21 rfl rfl rfl rfl rfl eX9_init_33 (by decide) (Nat.le_of_ble_eq_true rfl) rfl ?_
  refine y_aload_n eX9_init_36 rfl rfl ?_
  refine y_bipush (v := 14) (by decide) eX9_init_37 ?_
  refine z_newi (N := 14) (q := 173) (q' := 174) (i' := 5) (z' := 64) (by decide) (by decide) (Nat.le_of_ble_eq_true rfl) eX9_init_39 rfl rfl rfl (by decide) (by decide) (by decide) rfl (M0_0 (by decide)) rfl k_arr_int ?_
  refine z_put (j := 10) (fs' := [.int 0, .int 0, .int 0, .int 0, .int 0, .int 0, .ref (ga g 169), .ref (ga g 170), .ref (ga g 171), .ref (ga g 172), .ref (ga g 173), .null, .null, .null, .null]) clX9 (by decide) kfX9_24 rfl rfl rfl rfl rfl eX9_init_41 (by decide) (Nat.le_of_ble_eq_true rfl) rfl ?_
  refine y_aload_n eX9_init_44 rfl rfl ?_
  refine y_bipush (v := 14) (by decide) eX9_init_45 ?_
  refine z_newi (N := 14) (q := 174) (q' := 175) (i' := 6) (z' := 78) (by decide) (by decide) (Nat.le_of_ble_eq_true rfl) eX9_init_47 rfl rfl rfl (by decide) (by decide) (by decide) rfl (M0_0 (by decide)) rfl k_arr_int ?_
  refine z_put (j := 11) (fs' := [.int 0, .int 0, .int 0, .int 0, .int 0, .int 0, .ref (ga g 169), .ref (ga g 170), .ref (ga g 171), .ref (ga g 172), .ref (ga g 173), .ref (ga g 174), .null, .null, .null]) clX9 (by decide) kfX9_27 rfl rfl rfl rfl rfl eX9_init_49 (by decide) (Nat.le_of_ble_eq_true rfl) rfl ?_
  refine y_aload_n eX9_init_52 rfl rfl ?_
  refine y_bipush (v := 14) (by decide) eX9_init_53 ?_
  refine z_newi (N := 14) (q := 175) (q' := 176) (i' := 7) (z' := 92) (by decide) (by decide) (Nat.le_of_ble_eq_true rfl) eX9_init_55 rfl rfl rfl (by decide) (by decide) (by decide) rfl (M0_0 (by decide)) rfl k_arr_int ?_
  refine z_put (j := 12) (fs' := [.int 0, .int 0, .int 0, .int 0, .int 0, .int 0, .ref (ga g 169), .ref (ga g 170), .ref (ga g 171), .ref (ga g 172), .ref (ga g 173), .ref (ga g 174), .ref (ga g 175), .null, .null]) clX9 (by decide) kfX9_30 rfl rfl rfl rfl rfl eX9_init_57 (by decide) (Nat.le_of_ble_eq_true rfl) rfl ?_
  refine y_aload_n eX9_init_60 rfl rfl ?_
  refine y_bipush (v := 14) (by decide) eX9_init_61 ?_
  refine z_newi (N := 14) (q := 176) (q' := 177) (i' := 8) (z' := 106) (by decide) (by decide) (Nat.le_of_ble_eq_true rfl) eX9_init_63 rfl rfl rfl (by decide) (by decide) (by decide) rfl (M0_0 (by decide)) rfl k_arr_int ?_
  refine z_put (j := 13) (fs' := [.int 0, .int 0, .int 0, .int 0, .int 0, .int 0, .ref (ga g 169), .ref (ga g 170), .ref (ga g 171), .ref (ga g 172), .ref (ga g 173), .ref (ga g 174), .ref (ga g 175), .ref (ga g 176), .null]) clX9 (by decide) kfX9_33 rfl rfl rfl rfl rfl eX9_init_65 (by decide) (Nat.le_of_ble_eq_true rfl) rfl ?_
  refine y_aload_n eX9_init_68 rfl rfl ?_
  refine y_bipush (v := 14) (by decide) eX9_init_69 ?_
  refine z_newi (N := 14) (q := 177) (q' := 178) (i' := 9) (z' := 120) (by decide) (by decide) (Nat.le_of_ble_eq_true rfl) eX9_init_71 rfl rfl rfl (by decide) (by decide) (by decide) rfl (M0_0 (by decide)) rfl k_arr_int ?_
  refine z_put (j := 14) (fs' := [.int 0, .int 0, .int 0, .int 0, .int 0, .int 0, .ref (ga g 169), .ref (ga g 170), .ref (ga g 171), .ref (ga g 172), .ref (ga g 173), .ref (ga g 174), .ref (ga g 175), .ref (ga g 176), .ref (ga g 177)]) clX9 (by decide) kfX9_36 rfl rfl rfl rfl rfl eX9_init_73 (by decide) (Nat.le_of_ble_eq_true rfl) rfl ?_
  exact z_end (by decide) rfl (by rw [ent_obj g M0 rfl (by decide)]; rfl)
set_option maxRecDepth 100000 in
set_option maxHeartbeats 4000000 in
theorem ctX8_178 {g : G} {N0 : Nat} : Ctor g N0 uX8_init 1 178 179 1 400 (.inr (8, [.null, .int 0, .int 0, .int 0, .int 0, .int 0, .int 0, .int 0, .int 0])) [] := by
  refine Ctor.of (l := [.ref (ga g 178)]) okX8_init rfl rfl (Nat.le_of_ble_eq_true rfl) rfl eX8_init_18.1 (fun C hC => ?_)
  refine z_begin hC ?_
  refine y_aload_n eX8_init_0 rfl rfl ?_
  refine y_objInit (by decide) kmX8_3 k_obi k_obc eX8_init_1 ?_
  refine y_aload_n eX8_init_4 rfl rfl ?_
  refine y_sipush (v := 400) (by decide) eX8_init_5 ?_
  refine z_newb (N := 400) (q := 179) (q' := 180) (i' := 1) (z' := 400) (by decide) (by decide) (Nat.le_of_ble_eq_true rfl) eX8_init_8 rfl rfl rfl (by decide) (by decide) (by decide) rfl (M0_0 (by decide)) rfl k_arr_byte ?_
  refine z_put (j := 0) (fs' := [.ref (ga g 179), .int 0, .int 0, .int 0, .int 0, .int 0, .int 0, .int 0, .int 0]) clX8 (by decide) kfX8_9 rfl rfl rfl rfl rfl eX8_init_10 (by decide) (Nat.le_of_ble_eq_true rfl) rfl ?_
  refine y_aload_n eX8_init_13 rfl rfl ?_
  refine y_iconst (v := (-1)) (by decide) eX8_init_14 ?_
  refine z_put (j := 3) (fs' := [.ref (ga g 179), .int 0, .int 0, .int (-1), .int 0, .int 0, .int 0, .int 0, .int 0]) clX8 (by decide) kfX8_15 rfl rfl rfl rfl rfl eX8_init_15 (by decide) (Nat.le_of_ble_eq_true rfl) rfl ?_
  exact z_end (by decide) rfl (by rw [ent_obj g M0 rfl (by decide)]; rfl)
set_option maxRecDepth 100000 in
set_option maxHeartbeats 4000000 in
theorem ctX1_181 {g : G} {N0 : Nat} : Ctor g N0 uX1_init 1 181 182 7 506 (.inr (1, [.int 0, .int 0, .null, .null, .null, .null, .null, .null, .null])) [] := by
  refine Ctor.of (l := [.ref (ga g 181)]) okX1_init rfl rfl (Nat.le_of_ble_eq_true rfl) rfl eX1_init_61.1 (fun C hC => ?_)
  refine z_begin hC ?_
  refine y_aload_n eX1_init_0 rfl rfl ?_
  refine y_objInit (by decide) kmX1_3 k_obi k_obc eX1_init_1 ?_
  refine y_aload_n eX1_init_4 rfl rfl ?_
  refine y_bipush (v := 16) (by decide) eX1_init_5 ?_
  refine z_newi (N := 16) (q := 182) (q' := 183) (i' := 1) (z' := 16) (by decide) (by decide) (Nat.le_of_ble_eq_true rfl) eX1_init_7 rfl rfl rfl (by decide) (by decide) (by decide) rfl (M0_0 (by decide)) rfl k_arr_int ?_
  refine z_put (j := 2) (fs' := [.int 0, .int 0, .ref (ga g 182), .null, .null, .null, .null, .null, .null]) clX1 (by decide) kfX1_9 rfl rfl rfl rfl rfl eX1_init_9 (by decide) (Nat.le_of_ble_eq_true rfl) rfl ?_
  refine y_aload_n eX1_init_12 rfl rfl ?_
  refine y_bipush (v := 16) (by decide) eX1_init_13 ?_
  refine z_newi (N := 16) (q := 183) (q' := 184) (i' := 2) (z' := 32) (by decide) (by decide) (Nat.le_of_ble_eq_true rfl) eX1_init_15 rfl rfl rfl (by decide) (by decide) (by decide) rfl (M0_0 (by decide)) rfl k_arr_int ?_
  refine z_put (j := 3) (fs' := [.int 0, .int 0, .ref (ga g 182), .ref (ga g 183), .null, .null, .null, .null, .null]) clX1 (by decide) kfX1_15 rfl rfl rfl rfl rfl eX1_init_17 (by decide) (Nat.le_of_ble_eq_true rfl) rfl ?_
  refine y_aload_n eX1_init_20 rfl rfl ?_
  refine y_bipush (v := 16) (by decide) eX1_init_21 ?_
  refine z_newi (N := 16) (q := 184) (q' := 185) (i' := 3) (z' := 48) (by decide) (by decide) (Nat.le_of_ble_eq_true rfl) eX1_init_23 rfl rfl rfl (by decide) (by decide) (by decide) rfl (M0_0 (by decide)) rfl k_arr_int ?_
  refine z_put (j := 4) (fs' := [.int 0, .int 0, .ref (ga g 182), .ref (ga g 183), .ref (ga g 184), .null, .null, .null, .null]) clX1 (by decide) kfX1_18 rfl rfl rfl rfl rfl eX1_init_25 (by decide) (Nat.le_of_ble_eq_true rfl) rfl ?_
  refine y_aload_n eX1_init_28 rfl rfl ?_
  refine y_bipush (v := 16) (by decide) eX1_init_29 ?_
  refine z_newi (N := 16) (q := 185) (q' := 186) (i' := 4) (z' := 64) (by decide) (by decide) (Nat.le_of_ble_eq_true rfl) eX1_init_31 rfl rfl rfl (by decide) (by decide) (by decide) rfl (M0_0 (by decide)) rfl k_arr_int ?_
  refine z_put (j := 5) (fs' := [.int 0, .int 0, .ref (ga g 182), .ref (ga g 183), .ref (ga g 184), .ref (ga g 185), .null, .null, .null]) clX1 (by decide) kfX1_21 rfl rfl rfl rfl rfl eX1_init_33 (by decide) (Nat.le_of_ble_eq_true rfl) rfl ?_
  refine y_aload_n eX1_init_36 rfl rfl ?_
  refine y_sipush (v := 400) (by decide) eX1_init_37 ?_
  refine z_newi (N := 400) (q := 186) (q' := 187) (i' := 5) (z' := 464) (by decide) (by decide) (Nat.le_of_ble_eq_true rfl) eX1_init_40 rfl rfl rfl (by decide) (by decide) (by decide) rfl (M0_0 (by decide)) rfl k_arr_int ?_
  refine z_put (j := 6) (fs' := [.int 0, .int 0, .ref (ga g 182), .ref (ga g 183), .ref (ga g 184), .ref (ga g 185), .ref (ga g 186), .null, .null]) clX1 (by decide) kfX1_24 rfl rfl rfl rfl rfl eX1_init_42 (by decide) (Nat.le_of_ble_eq_true rfl) rfl ?_
  refine y_aload_n eX1_init_45 rfl rfl ?_
  refine y_bipush (v := 10) (by decide) eX1_init_46 ?_
  refine z_newi (N := 10) (q := 187) (q' := 188) (i' := 6) (z' := 474) (by decide) (by decide) (Nat.le_of_ble_eq_true rfl) eX1_init_48 rfl rfl rfl (by decide) (by decide) (by decide) rfl (M0_0 (by decide)) rfl k_arr_int ?_
  refine z_put (j := 7) (fs' := [.int 0, .int 0, .ref (ga g 182), .ref (ga g 183), .ref (ga g 184), .ref (ga g 185), .ref (ga g 186), .ref (ga g 187), .null]) clX1 (by decide) kfX1_27 rfl rfl rfl rfl rfl eX1_init_50 (by decide) (Nat.le_of_ble_eq_true rfl) rfl ?_
  refine y_aload_n eX1_init_53 rfl rfl ?_
  refine y_bipush (v := 32) (by decide) eX1_init_54 ?_
  refine z_newi (N := 32) (q := 188) (q' := 189) (i' := 7) (z' := 506) (by decide) (by decide) (Nat.le_of_ble_eq_true rfl) eX1_init_56 rfl rfl rfl (by decide) (by decide) (by decide) rfl (M0_0 (by decide)) rfl k_arr_int ?_
  refine z_put (j := 8) (fs' := [.int 0, .int 0, .ref (ga g 182), .ref (ga g 183), .ref (ga g 184), .ref (ga g 185), .ref (ga g 186), .ref (ga g 187), .ref (ga g 188)]) clX1 (by decide) kfX1_30 rfl rfl rfl rfl rfl eX1_init_58 (by decide) (Nat.le_of_ble_eq_true rfl) rfl ?_
  exact z_end (by decide) rfl (by rw [ent_obj g M0 rfl (by decide)]; rfl)
set_option maxRecDepth 100000 in
set_option maxHeartbeats 4000000 in
theorem ctX2_180 {g : G} {N0 : Nat} : Ctor g N0 uX2_init 2 180 181 8 515 (.inr (2, [.null])) [] := by
  refine Ctor.of (l := [.ref (ga g 180)]) okX2_init rfl rfl (Nat.le_of_ble_eq_true rfl) rfl eX2_init_15.1 (fun C hC => ?_)
  refine z_begin hC ?_
  refine y_aload_n eX2_init_0 rfl rfl ?_
  refine y_objInit (by decide) kmX2_3 k_obi k_obc eX2_init_1 ?_
  refine y_aload_n eX2_init_4 rfl rfl ?_
  refine y_new (q := 181) (i' := 1) (z' := 9) clX1 kcX2_9 blX1 eX2_init_5 rfl rfl rfl (by decide) (by decide) ?_
  refine y_dup eX2_init_8 rfl ?_
  refine z_callN (q := 181) (q' := 189) (i' := 8) (z' := 515) (na := 0) (As := []) (rest := [.ref (ga g 181), .ref (ga g 180)]) ctX1_181 (by decide) okX1_init rfl rfl (List.mem_of_getElem? (i := 8) rfl) kiX1_init kpX1_init rfl (Nat.le_of_ble_eq_true rfl) eX2_init_9 rfl rfl rfl rfl (by decide) (by decide) (by decide) rfl ?_
  refine z_put (j := 0) (fs' := [.ref (ga g 181)]) clX2 (by decide) kfX2_12 rfl rfl rfl rfl rfl eX2_init_12 (by decide) (Nat.le_of_ble_eq_true rfl) rfl ?_
  exact z_end (by decide) rfl (by rw [ent_obj g M0 rfl (by decide)]; rfl)
set_option maxRecDepth 100000 in
set_option maxHeartbeats 4000000 in
theorem ctX3_190 {g : G} {N0 : Nat} : Ctor g N0 uX3_init 1 190 191 4 64 (.inr (3, [.int 0, .int 0, .null, .null, .null, .null])) [.int 16] := by
  refine Ctor.of (l := [.ref (ga g 190), .int 16]) okX3_init rfl rfl (Nat.le_of_ble_eq_true rfl) rfl eX3_init_53.1 (fun C hC => ?_)
  refine z_begin hC ?_
  refine y_aload_n eX3_init_0 rfl rfl ?_
  refine y_objInit (by decide) kmX3_1 k_obi k_obc eX3_init_1 ?_
  refine y_aload_n eX3_init_4 rfl rfl ?_
  refine y_iconst (v := 0) (by decide) eX3_init_5 ?_
  refine y_iload_n eX3_init_6 rfl rfl ?_
  refine y_max (v := 16) (by decide) (Nat.le_of_ble_eq_true rfl) kmX3_7 k_mxs k_mxi k_mxc eX3_init_7 (by decide) (by decide) (by decide) ?_
  refine z_put (j := 1) (fs' := [.int 0, .int 16, .null, .null, .null, .null]) clX3 (by decide) kfX3_13 rfl rfl rfl rfl rfl eX3_init_10 (by decide) (Nat.le_of_ble_eq_true rfl) rfl ?_
  refine y_aload_n eX3_init_13 rfl rfl ?_
  refine y_aload_n eX3_init_14 rfl rfl ?_
  refine z_get (j := 1) (v := .int 16) clX3 (by decide) kfX3_13 eX3_init_15 (by decide) rfl ?_
  refine z_newi (N := 16) (q := 191) (q' := 192) (i' := 1) (z' := 16) (by decide) (by decide) (Nat.le_of_ble_eq_true rfl) eX3_init_18 rfl rfl rfl (by decide) (by decide) (by decide) rfl (M0_0 (by decide)) rfl k_arr_int ?_
  refine z_put (j := 2) (fs' := [.int 0, .int 16, .ref (ga g 191), .null, .null, .null]) clX3 (by decide) kfX3_19 rfl rfl rfl rfl rfl eX3_init_20 (by decide) (Nat.le_of_ble_eq_true rfl) rfl ?_
  refine y_aload_n eX3_init_23 rfl rfl ?_
  refine y_aload_n eX3_init_24 rfl rfl ?_
  refine z_get (j := 1) (v := .int 16) clX3 (by decide) kfX3_13 eX3_init_25 (by decide) rfl ?_
  refine z_newi (N := 16) (q := 192) (q' := 193) (i' := 2) (z' := 32) (by decide) (by decide) (Nat.le_of_ble_eq_true rfl) eX3_init_28 rfl rfl rfl (by decide) (by decide) (by decide) rfl (M0_0 (by decide)) rfl k_arr_int ?_
  refine z_put (j := 3) (fs' := [.int 0, .int 16, .ref (ga g 191), .ref (ga g 192), .null, .null]) clX3 (by decide) kfX3_23 rfl rfl rfl rfl rfl eX3_init_30 (by decide) (Nat.le_of_ble_eq_true rfl) rfl ?_
  refine y_aload_n eX3_init_33 rfl rfl ?_
  refine y_aload_n eX3_init_34 rfl rfl ?_
  refine z_get (j := 1) (v := .int 16) clX3 (by decide) kfX3_13 eX3_init_35 (by decide) rfl ?_
  refine z_newi (N := 16) (q := 193) (q' := 194) (i' := 3) (z' := 48) (by decide) (by decide) (Nat.le_of_ble_eq_true rfl) eX3_init_38 rfl rfl rfl (by decide) (by decide) (by decide) rfl (M0_0 (by decide)) rfl k_arr_int ?_
  refine z_put (j := 4) (fs' := [.int 0, .int 16, .ref (ga g 191), .ref (ga g 192), .ref (ga g 193), .null]) clX3 (by decide) kfX3_26 rfl rfl rfl rfl rfl eX3_init_40 (by decide) (Nat.le_of_ble_eq_true rfl) rfl ?_
  refine y_aload_n eX3_init_43 rfl rfl ?_
  refine y_aload_n eX3_init_44 rfl rfl ?_
  refine z_get (j := 1) (v := .int 16) clX3 (by decide) kfX3_13 eX3_init_45 (by decide) rfl ?_
  refine z_newi (N := 16) (q := 194) (q' := 195) (i' := 4) (z' := 64) (by decide) (by decide) (Nat.le_of_ble_eq_true rfl) eX3_init_48 rfl rfl rfl (by decide) (by decide) (by decide) rfl (M0_0 (by decide)) rfl k_arr_int ?_
  refine z_put (j := 5) (fs' := [.int 0, .int 16, .ref (ga g 191), .ref (ga g 192), .ref (ga g 193), .ref (ga g 194)]) clX3 (by decide) kfX3_29 rfl rfl rfl rfl rfl eX3_init_50 (by decide) (Nat.le_of_ble_eq_true rfl) rfl ?_
  exact z_end (by decide) rfl (by rw [ent_obj g M0 rfl (by decide)]; rfl)
set_option maxRecDepth 100000 in
set_option maxHeartbeats 4000000 in
theorem ctX4_189 {g : G} {N0 : Nat} : Ctor g N0 uX4_init 2 189 190 5 70 (.inr (4, [.null, .int 0, .int 0, .int 0, .int 0])) [] := by
  refine Ctor.of (l := [.ref (ga g 189)]) okX4_init rfl rfl (Nat.le_of_ble_eq_true rfl) rfl eX4_init_17.1 (fun C hC => ?_)
  refine z_begin hC ?_
  refine y_aload_n eX4_init_0 rfl rfl ?_
  refine y_objInit (by decide) kmX4_3 k_obi k_obc eX4_init_1 ?_
  refine y_aload_n eX4_init_4 rfl rfl ?_
  refine y_new (q := 190) (i' := 1) (z' := 6) clX3 kcX4_9 blX3 eX4_init_5 rfl rfl rfl (by decide) (by decide) ?_
  refine y_dup eX4_init_8 rfl ?_
  refine y_bipush (v := 16) (by decide) eX4_init_9 ?_
  refine z_callI (q := 190) (q' := 195) (i' := 5) (z' := 70) (na := 1) (As := [.int 16]) (rest := [.ref (ga g 190), .ref (ga g 189)]) ctX3_190 (by decide) okX3_init rfl rfl kmX4_11 kiX3_init kpX3_init rfl (Nat.le_of_ble_eq_true rfl) eX4_init_11 rfl rfl rfl rfl (by decide) (by decide) (by decide) rfl ?_
  refine z_put (j := 0) (fs' := [.ref (ga g 190), .int 0, .int 0, .int 0, .int 0]) clX4 (by decide) kfX4_14 rfl rfl rfl rfl rfl eX4_init_14 (by decide) (Nat.le_of_ble_eq_true rfl) rfl ?_
  exact z_end (by decide) rfl (by rw [ent_obj g M0 rfl (by decide)]; rfl)
set_option maxRecDepth 100000 in
set_option maxHeartbeats 4000000 in
theorem ctX5_195 {g : G} {N0 : Nat} : Ctor g N0 uX5_init 1 195 196 2 602 (.inr (5, [.null, .null])) [] := by
  refine Ctor.of (l := [.ref (ga g 195)]) okX5_init rfl rfl (Nat.le_of_ble_eq_true rfl) rfl eX5_init_22.1 (fun C hC => ?_)
  refine z_begin hC ?_
  refine y_aload_n eX5_init_0 rfl rfl ?_
  refine y_objInit (by decide) kmX5_3 k_obi k_obc eX5_init_1 ?_
  refine y_aload_n eX5_init_4 rfl rfl ?_
  refine y_sipush (v := 289) (by decide) eX5_init_5 ?_
  refine z_newz (N := 289) (q := 196) (q' := 197) (i' := 1) (z' := 289) (by decide) (by decide) (Nat.le_of_ble_eq_true rfl) eX5_init_8 rfl rfl rfl (by decide) (by decide) (by decide) rfl (M0_0 (by decide)) rfl k_arr_boolean ?_
  refine z_put (j := 0) (fs' := [.ref (ga g 196), .null]) clX5 (by decide) kfX5_9 rfl rfl rfl rfl rfl eX5_init_10 (by decide) (Nat.le_of_ble_eq_true rfl) rfl ?_
  refine y_aload_n eX5_init_13 rfl rfl ?_
  refine y_sipush (v := 313) (by decide) eX5_init_14 ?_
  refine z_newi (N := 313) (q := 197) (q' := 198) (i' := 2) (z' := 602) (by decide) (by decide) (Nat.le_of_ble_eq_true rfl) eX5_init_17 rfl rfl rfl (by decide) (by decide) (by decide) rfl (M0_0 (by decide)) rfl k_arr_int ?_
  refine z_put (j := 1) (fs' := [.ref (ga g 196), .ref (ga g 197)]) clX5 (by decide) kfX5_15 rfl rfl rfl rfl rfl eX5_init_19 (by decide) (Nat.le_of_ble_eq_true rfl) rfl ?_
  exact z_end (by decide) rfl (by rw [ent_obj g M0 rfl (by decide)]; rfl)
set_option maxRecDepth 100000 in
set_option maxHeartbeats 4000000 in
theorem ctX11_0 {g : G} {N0 : Nat} : Ctor g N0 uX11_init 4 0 1 197 6135 (.inr (11, [.null, .null, .int 0, .null, .null, .null, .null, .null, .null])) [] := by
  refine Ctor.of (l := [.ref (ga g 0)]) okX11_init rfl rfl (Nat.le_of_ble_eq_true rfl) rfl eX11_init_92.1 (fun C hC => ?_)
  refine z_begin hC ?_
  refine y_aload_n eX11_init_0 rfl rfl ?_
  refine y_objInit (by decide) kmX11_3 k_obi k_obc eX11_init_1 ?_
  refine y_aload_n eX11_init_4 rfl rfl ?_
  refine y_new (q := 1) (i' := 1) (z' := 7) clX0 kcX11_9 blX0 eX11_init_5 rfl rfl rfl (by decide) (by decide) ?_
  refine y_dup eX11_init_8 rfl ?_
  refine z_callN (q := 1) (q' := 53) (i' := 52) (z' := 1785) (na := 0) (As := []) (rest := [.ref (ga g 1), .ref (ga g 0)]) ctX0_1 (by decide) okX0_init rfl rfl (List.mem_of_getElem? (i := 0) rfl) kiX0_init kpX0_init rfl (Nat.le_of_ble_eq_true rfl) eX11_init_9 rfl rfl rfl rfl (by decide) (by decide) (by decide) rfl ?_
  refine z_put (j := 0) (fs' := [.ref (ga g 1), .null, .int 0, .null, .null, .null, .null, .null, .null]) clX11 (by decide) kfX11_12 rfl rfl rfl rfl rfl eX11_init_12 (by decide) (Nat.le_of_ble_eq_true rfl) rfl ?_
  refine y_aload_n eX11_init_15 rfl rfl ?_
  refine y_new (q := 53) (i' := 53) (z' := 1792) clX0 kcX11_9 blX0 eX11_init_16 rfl rfl rfl (by decide) (by decide) ?_
  refine y_dup eX11_init_19 rfl ?_
  refine z_callN (q := 53) (q' := 105) (i' := 104) (z' := 3570) (na := 0) (As := []) (rest := [.ref (ga g 53), .ref (ga g 0)]) ctX0_53 (by decide) okX0_init rfl rfl (List.mem_of_getElem? (i := 0) rfl) kiX0_init kpX0_init rfl (Nat.le_of_ble_eq_true rfl) eX11_init_20 rfl rfl rfl rfl (by decide) (by decide) (by decide) rfl ?_
  refine z_put (j := 1) (fs' := [.ref (ga g 1), .ref (ga g 53), .int 0, .null, .null, .null, .null, .null, .null]) clX11 (by decide) kfX11_16 rfl rfl rfl rfl rfl eX11_init_23 (by decide) (Nat.le_of_ble_eq_true rfl) rfl ?_
  refine y_aload_n eX11_init_26 rfl rfl ?_
  refine y_new (q := 105) (i' := 105) (z' := 3574) clX6 kcX11_19 blX6 eX11_init_27 rfl rfl rfl (by decide) (by decide) ?_
  refine y_dup eX11_init_30 rfl ?_
  refine z_callI (q := 105) (q' := 168) (i' := 167) (z' := 4396) (na := 0) (As := []) (rest := [.ref (ga g 105), .ref (ga g 0)]) ctX6_105 (by decide) okX6_init rfl rfl kmX11_21 kiX6_init kpX6_init rfl (Nat.le_of_ble_eq_true rfl) eX11_init_31 rfl rfl rfl rfl (by decide) (by decide) (by decide) rfl ?_
  refine z_put (j := 3) (fs' := [.ref (ga g 1), .ref (ga g 53), .int 0, .ref (ga g 105), .null, .null, .null, .null, .null]) clX11 (by decide) kfX11_22 rfl rfl rfl rfl rfl eX11_init_34 (by decide) (Nat.le_of_ble_eq_true rfl) rfl ?_
  refine y_aload_n eX11_init_37 rfl rfl ?_
  refine y_new (q := 168) (i' := 168) (z' := 4411) clX9 kcX11_26 blX9 eX11_init_38 rfl rfl rfl (by decide) (by decide) ?_
  refine y_dup eX11_init_41 rfl ?_
  refine z_callN (q := 168) (q' := 178) (i' := 177) (z' := 4531) (na := 0) (As := []) (rest := [.ref (ga g 168), .ref (ga g 0)]) ctX9_168 (by decide) okX9_init rfl rfl (List.mem_of_getElem? (i := 5) rfl) kiX9_init kpX9_init rfl (Nat.le_of_ble_eq_true rfl) eX11_init_42 rfl rfl rfl rfl (by decide) (by decide) (by decide) rfl ?_
  refine z_put (j := 4) (fs' := [.ref (ga g 1), .ref (ga g 53), .int 0, .ref (ga g 105), .ref (ga g 168), .null, .null, .null, .null]) clX11 (by decide) kfX11_29 rfl rfl rfl rfl rfl eX11_init_45 (by decide) (Nat.le_of_ble_eq_true rfl) rfl ?_
  refine y_aload_n eX11_init_48 rfl rfl ?_
  refine y_new (q := 178) (i' := 178) (z' := 4540) clX8 kcX11_33 blX8 eX11_init_49 rfl rfl rfl (by decide) (by decide) ?_
  refine y_dup eX11_init_52 rfl ?_
  refine z_callN (q := 178) (q' := 180) (i' := 179) (z' := 4940) (na := 0) (As := []) (rest := [.ref (ga g 178), .ref (ga g 0)]) ctX8_178 (by decide) okX8_init rfl rfl (List.mem_of_getElem? (i := 6) rfl) kiX8_init kpX8_init rfl (Nat.le_of_ble_eq_true rfl) eX11_init_53 rfl rfl rfl rfl (by decide) (by decide) (by decide) rfl ?_
  refine z_put (j := 5) (fs' := [.ref (ga g 1), .ref (ga g 53), .int 0, .ref (ga g 105), .ref (ga g 168), .ref (ga g 178), .null, .null, .null]) clX11 (by decide) kfX11_36 rfl rfl rfl rfl rfl eX11_init_56 (by decide) (Nat.le_of_ble_eq_true rfl) rfl ?_
  refine y_aload_n eX11_init_59 rfl rfl ?_
  refine y_new (q := 180) (i' := 180) (z' := 4941) clX2 kcX11_40 blX2 eX11_init_60 rfl rfl rfl (by decide) (by decide) ?_
  refine y_dup eX11_init_63 rfl ?_
  refine z_callN (q := 180) (q' := 189) (i' := 188) (z' := 5456) (na := 0) (As := []) (rest := [.ref (ga g 180), .ref (ga g 0)]) ctX2_180 (by decide) okX2_init rfl rfl (List.mem_of_getElem? (i := 7) rfl) kiX2_init kpX2_init rfl (Nat.le_of_ble_eq_true rfl) eX11_init_64 rfl rfl rfl rfl (by decide) (by decide) (by decide) rfl ?_
  refine z_put (j := 6) (fs' := [.ref (ga g 1), .ref (ga g 53), .int 0, .ref (ga g 105), .ref (ga g 168), .ref (ga g 178), .ref (ga g 180), .null, .null]) clX11 (by decide) kfX11_43 rfl rfl rfl rfl rfl eX11_init_67 (by decide) (Nat.le_of_ble_eq_true rfl) rfl ?_
  refine y_aload_n eX11_init_70 rfl rfl ?_
  refine y_new (q := 189) (i' := 189) (z' := 5461) clX4 kcX11_47 blX4 eX11_init_71 rfl rfl rfl (by decide) (by decide) ?_
  refine y_dup eX11_init_74 rfl ?_
  refine z_callN (q := 189) (q' := 195) (i' := 194) (z' := 5531) (na := 0) (As := []) (rest := [.ref (ga g 189), .ref (ga g 0)]) ctX4_189 (by decide) okX4_init rfl rfl (List.mem_of_getElem? (i := 9) rfl) kiX4_init kpX4_init rfl (Nat.le_of_ble_eq_true rfl) eX11_init_75 rfl rfl rfl rfl (by decide) (by decide) (by decide) rfl ?_
  refine z_put (j := 7) (fs' := [.ref (ga g 1), .ref (ga g 53), .int 0, .ref (ga g 105), .ref (ga g 168), .ref (ga g 178), .ref (ga g 180), .ref (ga g 189), .null]) clX11 (by decide) kfX11_50 rfl rfl rfl rfl rfl eX11_init_78 (by decide) (Nat.le_of_ble_eq_true rfl) rfl ?_
  refine y_aload_n eX11_init_81 rfl rfl ?_
  refine y_new (q := 195) (i' := 195) (z' := 5533) clX5 kcX11_54 blX5 eX11_init_82 rfl rfl rfl (by decide) (by decide) ?_
  refine y_dup eX11_init_85 rfl ?_
  refine z_callN (q := 195) (q' := 198) (i' := 197) (z' := 6135) (na := 0) (As := []) (rest := [.ref (ga g 195), .ref (ga g 0)]) ctX5_195 (by decide) okX5_init rfl rfl (List.mem_of_getElem? (i := 10) rfl) kiX5_init kpX5_init rfl (Nat.le_of_ble_eq_true rfl) eX11_init_86 rfl rfl rfl rfl (by decide) (by decide) (by decide) rfl ?_
  refine z_put (j := 8) (fs' := [.ref (ga g 1), .ref (ga g 53), .int 0, .ref (ga g 105), .ref (ga g 168), .ref (ga g 178), .ref (ga g 180), .ref (ga g 189), .ref (ga g 195)]) clX11 (by decide) kfX11_57 rfl rfl rfl rfl rfl eX11_init_89 (by decide) (Nat.le_of_ble_eq_true rfl) rfl ?_
  exact z_end (by decide) rfl (by rw [ent_obj g M0 rfl (by decide)]; rfl)
