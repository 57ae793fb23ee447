/-! ===== the JDK's String, as the class uses it: length, charAt ===== -/
def ckx (a b : Int32) : Option Int32 := if a < 0 then none else if a < b then some a else none
theorem kJ0_coder_7d493 {g : G} {w : Nat} (hw : w < strN) (M : Mem) : CtrI g uJ0_coder_7d493 1 (fun r => r) (rmP M) [.ref (gs g w)] M (some 0) := by
  refine CtrI.of (l := [.ref (gs g w)]) mJ0_coder_7d493 rfl (Nat.le_of_ble_eq_true rfl) rfl ?_
  refine r_compact gcs_J0_38 dJ0_coder_7d493_0 ?_
  refine r_if_eq dJ0_coder_7d493_3 (fun h => absurd h (by decide)) (fun _ => ?_)
  refine r_aload_n dJ0_coder_7d493_6 rfl rfl ?_
  refine r_scod hw gsf_J0_15 dJ0_coder_7d493_7 ?_
  refine r_goto dJ0_coder_7d493_10 ?_
  exact vRet rfl rfl rfl dJ0_coder_7d493_14
theorem kJ0_isLatin1_aae02 {g : G} {w : Nat} (hw : w < strN) (M : Mem) : CtrI g uJ0_isLatin1_aae02 1 (fun r => r) (rmP M) [.ref (gs g w)] M (some 1) := by
  refine CtrI.of (l := [.ref (gs g w)]) mJ0_isLatin1_aae02 rfl (Nat.le_of_ble_eq_true rfl) rfl ?_
  refine r_compact gcs_J0_38 dJ0_isLatin1_aae02_0 ?_
  refine r_if_eq dJ0_isLatin1_aae02_3 (fun h => absurd h (by decide)) (fun _ => ?_)
  refine r_aload_n dJ0_isLatin1_aae02_6 rfl rfl ?_
  refine r_scod hw gsf_J0_15 dJ0_isLatin1_aae02_7 ?_
  refine r_if_ne dJ0_isLatin1_aae02_10 (fun h => absurd rfl h) (fun _ => ?_)
  refine r_iconst ic_1 dJ0_isLatin1_aae02_13 ?_
  refine r_goto dJ0_isLatin1_aae02_14 ?_
  exact vRet rfl rfl rfl dJ0_isLatin1_aae02_18
theorem jshr_0 (x : Int32) : jshr x 0 = x := sb_shr0 x
theorem kJ0_length_8abf5 {g : G} {w : Nat} (hw : w < strN) (M : Mem) : CtrI g uJ0_length_8abf5 2 (fun r => r) (rmP M) [.ref (gs g w)] M (some (nI (slen w))) := by
  refine CtrI.of (l := [.ref (gs g w)]) mJ0_length_8abf5 rfl (Nat.le_of_ble_eq_true rfl) rfl ?_
  rw [← jshr_0 (nI (slen w))]
  refine r_aload_n dJ0_length_8abf5_0 rfl rfl ?_
  refine r_sval hw gsf_J0_9 dJ0_length_8abf5_1 ?_
  refine r_slen hw dJ0_length_8abf5_4 ?_
  refine r_aload_n dJ0_length_8abf5_5 rfl rfl ?_
  refine r_calliT (call_VS hw (by decide) mJ0_coder_7d493 dJ0_length_8abf5_6 ml_J0_335 inJ0_coder_7d493 slJ0_coder_7d493 parJ0_coder_7d493 rfl (Nat.le_of_ble_eq_true rfl) rfl) (kJ0_coder_7d493 hw _) ?_
  refine r_ishr dJ0_length_8abf5_9 ?_
  exact vRet rfl rfl rfl dJ0_length_8abf5_10
theorem kJ3_checkIndex_8e157 {g : G} (a b : Int32) {z : Value} (hz : z = .null ∨ ∃ t : Nat, z = .ref t) (M : Mem) : CtrI g uJ3_checkIndex_8e157 1 (fun r => r) (rmP M) [.int a, .int b, z] M (ckx a b) := by
  have key : ∀ z : Value, V g uJ3_checkIndex_8e157 1 rvI (rmP M) 0 [.int a, .int b, z] [] M (ckx a b) := by
    intro z
    unfold ckx
    refine r_iload_n dJ3_checkIndex_8e157_0 rfl rfl ?_
    refine r_if_lt dJ3_checkIndex_8e157_1 (fun h => eT h vNone) (fun h => eF h ?_)
    refine r_iload_n dJ3_checkIndex_8e157_4 rfl rfl ?_
    refine r_iload_n dJ3_checkIndex_8e157_5 rfl rfl ?_
    refine r_icmp_lt dJ3_checkIndex_8e157_6 (fun h => eT h ?_) (fun h => eF h vNone)
    refine r_iload_n dJ3_checkIndex_8e157_16 rfl rfl ?_
    exact vRet rfl rfl rfl dJ3_checkIndex_8e157_17
  rcases hz with rfl | ⟨t, rfl⟩
  · exact CtrI.of mJ3_checkIndex_8e157 rfl (Nat.le_of_ble_eq_true rfl) rfl (key .null)
  · exact CtrI.of mJ3_checkIndex_8e157 rfl (Nat.le_of_ble_eq_true rfl) rfl (key (.ref t))
theorem kJ0_checkIndex_df160 {g : G} (a b : Int32) (M : Mem) : CtrV g uJ0_checkIndex_df160 2 (fun _ : Int32 => M) [.int a, .int b] M ((ckx a b).bind fun r => some r) := by
  refine CtrV.of (l := [.int a, .int b]) mJ0_checkIndex_df160 rfl (Nat.le_of_ble_eq_true rfl) rfl ?_
  refine r_iload_n dJ0_checkIndex_df160_0 rfl rfl ?_
  refine r_iload_n dJ0_checkIndex_df160_1 rfl rfl ?_
  refine r_sioobe gsi_J0_1053 dJ0_checkIndex_df160_2 (fun hz => ?_)
  have hcat : ((([] : List Value)).map fun v => v.category).sum ≤ 8 := Nat.le_of_ble_eq_true rfl
  refine r_calli (cl_S [.int a, .int b, gz g] bJ3_checkIndex_8e157 (by decide) dJ0_checkIndex_df160_5 ml_J0_1059 rfl hcat rfl) (kJ3_checkIndex_8e157 a b hz M) (fun r _ => ?_)
  refine r_pop dJ0_checkIndex_df160_8 rfl ?_
  exact vRet rfl rfl trivial dJ0_checkIndex_df160_9
theorem ckx_rdf (w : Nat) (i : Int32) (hn : slen w < 2 ^ 31) (h : ckx i (nI (slen w)) = none) : rdf (sbyt w) (slen w) i = none := by
  unfold ckx at h
  unfold rdf
  by_cases h0 : i < 0
  · rw [if_pos (Or.inl h0)]
  · rw [if_neg h0] at h
    obtain ⟨j, hj, rfl⟩ := nI_of h0
    by_cases h1 : nI j < nI (slen w)
    · rw [if_pos h1] at h; cases h
    · rw [if_pos (Or.inr ?_)]
      rw [nI_clamp hj]
      exact Nat.le_of_not_lt fun q => h1 (nI_lt q hn)
theorem slen_lt : ∀ w, w < strN → slen w < 2 ^ 31 := by decide +kernel
theorem kJ1_charAt_3b067 {g : G} {w : Nat} (hw : w < strN) (i : Int32) (M : Mem) : CtrI g uJ1_charAt_3b067 3 (fun r => r) (rmP M) [.ref (gv g w), .int i] M (schr w i) := by
  have hE : schr w i = ((ckx i (nI (slen w))).bind fun r => some r).bind fun _ => (rdf (sbyt w) (slen w) i).bind fun v => some (ji2c (v &&& 255)) := by
    unfold schr
    cases hc : ckx i (nI (slen w)) with
    | none => rw [ckx_rdf w i (slen_lt w hw) hc]; rfl
    | some r => rfl
  rw [hE]
  refine CtrI.of (l := [.ref (gv g w), .int i]) mJ1_charAt_3b067 rfl (Nat.le_of_ble_eq_true rfl) rfl ?_
  refine r_iload_n dJ1_charAt_3b067_0 rfl rfl ?_
  refine r_aload_n dJ1_charAt_3b067_1 rfl rfl ?_
  refine r_slen hw dJ1_charAt_3b067_2 ?_
  refine r_callv (cl_S [.int i, .int (nI (slen w))] bJ0_checkIndex_df160 (by decide) dJ1_charAt_3b067_3 ml_J1_9 rfl (Nat.le_of_ble_eq_true rfl) rfl) (kJ0_checkIndex_df160 i _ M) (fun r _ => ?_)
  refine r_aload_n dJ1_charAt_3b067_6 rfl rfl ?_
  refine r_iload_n dJ1_charAt_3b067_7 rfl rfl ?_
  refine r_sald hw dJ1_charAt_3b067_8 (fun v => ?_)
  refine r_sipush sp_255 dJ1_charAt_3b067_9 ?_
  refine r_iand dJ1_charAt_3b067_12 ?_
  refine r_i2c dJ1_charAt_3b067_13 ?_
  exact vRet rfl rfl (pk_nc _) dJ1_charAt_3b067_14
theorem kJ0_charAt_5068e {g : G} {w : Nat} (hw : w < strN) (i : Int32) (M : Mem) : CtrI g uJ0_charAt_5068e 4 (fun r => r) (rmP M) [.ref (gs g w), .int i] M (schr w i) := by
  have hE : schr w i = (schr w i).bind fun r => some r := by cases schr w i <;> rfl
  rw [hE]
  refine CtrI.of (l := [.ref (gs g w), .int i]) mJ0_charAt_5068e rfl (Nat.le_of_ble_eq_true rfl) rfl ?_
  refine r_aload_n dJ0_charAt_5068e_0 rfl rfl ?_
  refine r_calliT (call_VS hw (by decide) mJ0_isLatin1_aae02 dJ0_charAt_5068e_1 ml_J0_492 inJ0_isLatin1_aae02 slJ0_isLatin1_aae02 parJ0_isLatin1_aae02 rfl (Nat.le_of_ble_eq_true rfl) rfl) (kJ0_isLatin1_aae02 hw _) ?_
  refine r_if_eq dJ0_charAt_5068e_4 (fun h => absurd h (by decide)) (fun _ => ?_)
  refine r_aload_n dJ0_charAt_5068e_7 rfl rfl ?_
  refine r_sval hw gsf_J0_9 dJ0_charAt_5068e_8 ?_
  refine r_iload_n dJ0_charAt_5068e_11 rfl rfl ?_
  refine r_calli (cl_S [.ref (gv g w), .int i] bJ1_charAt_3b067 (by decide) dJ0_charAt_5068e_12 ml_J0_495 rfl (Nat.le_of_ble_eq_true rfl) rfl) (kJ1_charAt_3b067 hw i M) (fun r hr => ?_)
  refine vRet rfl rfl ?_ dJ0_charAt_5068e_15
  have : ∃ v : Int32, r = ji2c v := by
    unfold schr at hr
    cases hx : rdf (sbyt w) (slen w) i with
    | none => rw [hx] at hr; cases hr
    | some v => rw [hx] at hr; exact ⟨_, (Option.some.inj hr).symm⟩
  obtain ⟨v, rfl⟩ := this
  exact pk_nc v
theorem lsw_ne {x k : Int32} {a : Int} (hk : k.toInt = a) (h : ¬ x = k) : ¬ a = x.toInt := fun e => h (Int32.toInt_inj.mp (e.symm.trans hk.symm))
theorem lsw_no {a o dv k : Int} {r : List (Int × Int)} (h : ¬ a = k) (h2 : Op.lookupswitch.offset r dv k = dv) : Op.lookupswitch.offset ((a, o) :: r) dv k = dv := by
  rw [Op.lookupswitch.offset_cons, if_neg h]; exact h2
