set_option maxHeartbeats 4000000 in
set_option maxRecDepth 100000 in
theorem vX12_keepsTold_L118 {g : G}  (K210 : Mem → Option (Mem))    (hK210 : ∀ (M : Mem), V g uX12_keepsTold 2 rvU rmU 210 [.ref (ga g 198), .null] [] M (K210 M)) : ∀ (n : Nat) (y1 : Int32) (M : Mem), V g uX12_keepsTold 2 rvU rmU 118 [.ref (ga g 198), .int y1] [] M (fX12_keepsTold_L118 K210 n y1 M) := by
  intro n
  induction n with
  | zero => intro y1 M; exact vNone
  | succ n ih =>
    intro y1 M
    rw [fX12_keepsTold_L118]
    refine r_iload_n dX12_keepsTold_118 rfl rfl ?_
    refine r_bipush bp_14 dX12_keepsTold_119 ?_
    refine r_icmp_ge dX12_keepsTold_121 (fun h => eT h ?_) (fun h => eF h ?_)
    · exact vSub (l' := [.ref (ga g 198), .null]) ⟨Or.inr rfl, ⟨Or.inl rfl, trivial⟩⟩ (hK210 _)
    · refine r_aload_n dX12_keepsTold_124 rfl rfl ?_
      refine r_getR (k' := 202) dX12_keepsTold_125 fl_X12_19 kdc_198 rfl ?_
      refine r_iload_n dX12_keepsTold_128 rfl rfl ?_
      refine r_aload_n dX12_keepsTold_129 rfl rfl ?_
      refine r_aload_n dX12_keepsTold_130 rfl rfl ?_
      refine r_getR (k' := 202) dX12_keepsTold_131 fl_X12_19 kdc_198 rfl ?_
      refine r_iload_n dX12_keepsTold_134 rfl rfl ?_
      refine r_iald dX12_keepsTold_135 kdc_202 (fun v21 => ?_)
      refine r_calli (cl_V [.int v21] bX12_keeps (by decide) dX12_keepsTold_136 ml_X12_440 kdc_198 rfl (Nat.le_of_ble_eq_true rfl) rfl) (kX12_keeps _ _) (fun r22 _ => ?_)
      refine r_iast dX12_keepsTold_139 kdc_202 (fun M23 => ?_)
      refine r_aload_n dX12_keepsTold_140 rfl rfl ?_
      refine r_getR (k' := 203) dX12_keepsTold_141 fl_X12_22 kdc_198 rfl ?_
      refine r_iload_n dX12_keepsTold_144 rfl rfl ?_
      refine r_aload_n dX12_keepsTold_145 rfl rfl ?_
      refine r_aload_n dX12_keepsTold_146 rfl rfl ?_
      refine r_getR (k' := 203) dX12_keepsTold_147 fl_X12_22 kdc_198 rfl ?_
      refine r_iload_n dX12_keepsTold_150 rfl rfl ?_
      refine r_iald dX12_keepsTold_151 kdc_203 (fun v24 => ?_)
      refine r_calli (cl_V [.int v24] bX12_keeps (by decide) dX12_keepsTold_152 ml_X12_440 kdc_198 rfl (Nat.le_of_ble_eq_true rfl) rfl) (kX12_keeps _ _) (fun r25 _ => ?_)
      refine r_iast dX12_keepsTold_155 kdc_203 (fun M26 => ?_)
      refine r_aload_n dX12_keepsTold_156 rfl rfl ?_
      refine r_getR (k' := 204) dX12_keepsTold_157 fl_X12_25 kdc_198 rfl ?_
      refine r_iload_n dX12_keepsTold_160 rfl rfl ?_
      refine r_aload_n dX12_keepsTold_161 rfl rfl ?_
      refine r_aload_n dX12_keepsTold_162 rfl rfl ?_
      refine r_getR (k' := 204) dX12_keepsTold_163 fl_X12_25 kdc_198 rfl ?_
      refine r_iload_n dX12_keepsTold_166 rfl rfl ?_
      refine r_iald dX12_keepsTold_167 kdc_204 (fun v27 => ?_)
      refine r_calli (cl_V [.int v27] bX12_keeps (by decide) dX12_keepsTold_168 ml_X12_440 kdc_198 rfl (Nat.le_of_ble_eq_true rfl) rfl) (kX12_keeps _ _) (fun r28 _ => ?_)
      refine r_iast dX12_keepsTold_171 kdc_204 (fun M29 => ?_)
      refine r_aload_n dX12_keepsTold_172 rfl rfl ?_
      refine r_getR (k' := 218) dX12_keepsTold_173 fl_X12_71 kdc_198 rfl ?_
      refine r_iload_n dX12_keepsTold_176 rfl rfl ?_
      refine r_aload_n dX12_keepsTold_177 rfl rfl ?_
      refine r_aload_n dX12_keepsTold_178 rfl rfl ?_
      refine r_getR (k' := 218) dX12_keepsTold_179 fl_X12_71 kdc_198 rfl ?_
      refine r_iload_n dX12_keepsTold_182 rfl rfl ?_
      refine r_iald dX12_keepsTold_183 kdc_218 (fun v30 => ?_)
      refine r_calli (cl_V [.int v30] bX12_keeps (by decide) dX12_keepsTold_184 ml_X12_440 kdc_198 rfl (Nat.le_of_ble_eq_true rfl) rfl) (kX12_keeps _ _) (fun r31 _ => ?_)
      refine r_iast dX12_keepsTold_187 kdc_218 (fun M32 => ?_)
      refine r_aload_n dX12_keepsTold_188 rfl rfl ?_
      refine r_getR (k' := 221) dX12_keepsTold_189 fl_X12_80 kdc_198 rfl ?_
      refine r_iload_n dX12_keepsTold_192 rfl rfl ?_
      refine r_aload_n dX12_keepsTold_193 rfl rfl ?_
      refine r_aload_n dX12_keepsTold_194 rfl rfl ?_
      refine r_getR (k' := 221) dX12_keepsTold_195 fl_X12_80 kdc_198 rfl ?_
      refine r_iload_n dX12_keepsTold_198 rfl rfl ?_
      refine r_iald dX12_keepsTold_199 kdc_221 (fun v33 => ?_)
      refine r_calli (cl_V [.int v33] bX12_keeps (by decide) dX12_keepsTold_200 ml_X12_440 kdc_198 rfl (Nat.le_of_ble_eq_true rfl) rfl) (kX12_keeps _ _) (fun r34 _ => ?_)
      refine r_iast dX12_keepsTold_203 kdc_221 (fun M35 => ?_)
      refine r_iinc (l' := [.ref (ga g 198), .int (y1 + 1)]) dX12_keepsTold_204 rfl (inc_1 _) (Nat.le_of_ble_eq_true rfl) rfl rfl ?_
      refine r_goto dX12_keepsTold_207 ?_
      exact ih _ _
set_option maxHeartbeats 4000000 in
set_option maxRecDepth 100000 in
theorem vX12_keepsTold_L212 {g : G}  (K240 : Mem → Option (Mem))    (hK240 : ∀ (M : Mem), V g uX12_keepsTold 2 rvU rmU 240 [.ref (ga g 198), .null] [] M (K240 M)) : ∀ (n : Nat) (y1 : Int32) (M : Mem), V g uX12_keepsTold 2 rvU rmU 212 [.ref (ga g 198), .int y1] [] M (fX12_keepsTold_L212 K240 n y1 M) := by
  intro n
  induction n with
  | zero => intro y1 M; exact vNone
  | succ n ih =>
    intro y1 M
    rw [fX12_keepsTold_L212]
    refine r_iload_n dX12_keepsTold_212 rfl rfl ?_
    refine r_bipush bp_48 dX12_keepsTold_213 ?_
    refine r_icmp_ge dX12_keepsTold_215 (fun h => eT h ?_) (fun h => eF h ?_)
    · exact vSub (l' := [.ref (ga g 198), .null]) ⟨Or.inr rfl, ⟨Or.inl rfl, trivial⟩⟩ (hK240 _)
    · refine r_aload_n dX12_keepsTold_218 rfl rfl ?_
      refine r_getR (k' := 216) dX12_keepsTold_219 fl_X12_65 kdc_198 rfl ?_
      refine r_iload_n dX12_keepsTold_222 rfl rfl ?_
      refine r_aload_n dX12_keepsTold_223 rfl rfl ?_
      refine r_aload_n dX12_keepsTold_224 rfl rfl ?_
      refine r_getR (k' := 216) dX12_keepsTold_225 fl_X12_65 kdc_198 rfl ?_
      refine r_iload_n dX12_keepsTold_228 rfl rfl ?_
      refine r_iald dX12_keepsTold_229 kdc_216 (fun v37 => ?_)
      refine r_calli (cl_V [.int v37] bX12_keeps (by decide) dX12_keepsTold_230 ml_X12_440 kdc_198 rfl (Nat.le_of_ble_eq_true rfl) rfl) (kX12_keeps _ _) (fun r38 _ => ?_)
      refine r_iast dX12_keepsTold_233 kdc_216 (fun M39 => ?_)
      refine r_iinc (l' := [.ref (ga g 198), .int (y1 + 1)]) dX12_keepsTold_234 rfl (inc_1 _) (Nat.le_of_ble_eq_true rfl) rfl rfl ?_
      refine r_goto dX12_keepsTold_237 ?_
      exact ih _ _
set_option maxHeartbeats 4000000 in
set_option maxRecDepth 100000 in
theorem vX12_keepsTold_L242 {g : G}  (K270 : Mem → Option (Mem))    (hK270 : ∀ (M : Mem), V g uX12_keepsTold 2 rvU rmU 270 [.ref (ga g 198), .null] [] M (K270 M)) : ∀ (n : Nat) (y1 : Int32) (M : Mem), V g uX12_keepsTold 2 rvU rmU 242 [.ref (ga g 198), .int y1] [] M (fX12_keepsTold_L242 K270 n y1 M) := by
  intro n
  induction n with
  | zero => intro y1 M; exact vNone
  | succ n ih =>
    intro y1 M
    rw [fX12_keepsTold_L242]
    refine r_iload_n dX12_keepsTold_242 rfl rfl ?_
    refine r_bipush bp_64 dX12_keepsTold_243 ?_
    refine r_icmp_ge dX12_keepsTold_245 (fun h => eT h ?_) (fun h => eF h ?_)
    · exact vSub (l' := [.ref (ga g 198), .null]) ⟨Or.inr rfl, ⟨Or.inl rfl, trivial⟩⟩ (hK270 _)
    · refine r_aload_n dX12_keepsTold_248 rfl rfl ?_
      refine r_getR (k' := 217) dX12_keepsTold_249 fl_X12_68 kdc_198 rfl ?_
      refine r_iload_n dX12_keepsTold_252 rfl rfl ?_
      refine r_aload_n dX12_keepsTold_253 rfl rfl ?_
      refine r_aload_n dX12_keepsTold_254 rfl rfl ?_
      refine r_getR (k' := 217) dX12_keepsTold_255 fl_X12_68 kdc_198 rfl ?_
      refine r_iload_n dX12_keepsTold_258 rfl rfl ?_
      refine r_iald dX12_keepsTold_259 kdc_217 (fun v41 => ?_)
      refine r_calli (cl_V [.int v41] bX12_keeps (by decide) dX12_keepsTold_260 ml_X12_440 kdc_198 rfl (Nat.le_of_ble_eq_true rfl) rfl) (kX12_keeps _ _) (fun r42 _ => ?_)
      refine r_iast dX12_keepsTold_263 kdc_217 (fun M43 => ?_)
      refine r_iinc (l' := [.ref (ga g 198), .int (y1 + 1)]) dX12_keepsTold_264 rfl (inc_1 _) (Nat.le_of_ble_eq_true rfl) rfl rfl ?_
      refine r_goto dX12_keepsTold_267 ?_
      exact ih _ _
set_option maxHeartbeats 4000000 in
set_option maxRecDepth 100000 in
theorem vX12_keepsTold_L272 {g : G}  (K316 : Mem → Option (Mem))    (hK316 : ∀ (M : Mem), V g uX12_keepsTold 2 rvU rmU 316 [.ref (ga g 198), .null] [] M (K316 M)) : ∀ (n : Nat) (y1 : Int32) (M : Mem), V g uX12_keepsTold 2 rvU rmU 272 [.ref (ga g 198), .int y1] [] M (fX12_keepsTold_L272 K316 n y1 M) := by
  intro n
  induction n with
  | zero => intro y1 M; exact vNone
  | succ n ih =>
    intro y1 M
    rw [fX12_keepsTold_L272]
    refine r_iload_n dX12_keepsTold_272 rfl rfl ?_
    refine r_bipush bp_16 dX12_keepsTold_273 ?_
    refine r_icmp_ge dX12_keepsTold_275 (fun h => eT h ?_) (fun h => eF h ?_)
    · exact vSub (l' := [.ref (ga g 198), .null]) ⟨Or.inr rfl, ⟨Or.inl rfl, trivial⟩⟩ (hK316 _)
    · refine r_aload_n dX12_keepsTold_278 rfl rfl ?_
      refine r_getR (k' := 225) dX12_keepsTold_279 fl_X12_92 kdc_198 rfl ?_
      refine r_iload_n dX12_keepsTold_282 rfl rfl ?_
      refine r_aload_n dX12_keepsTold_283 rfl rfl ?_
      refine r_aload_n dX12_keepsTold_284 rfl rfl ?_
      refine r_getR (k' := 225) dX12_keepsTold_285 fl_X12_92 kdc_198 rfl ?_
      refine r_iload_n dX12_keepsTold_288 rfl rfl ?_
      refine r_iald dX12_keepsTold_289 kdc_225 (fun v45 => ?_)
      refine r_calli (cl_V [.int v45] bX12_keeps (by decide) dX12_keepsTold_290 ml_X12_440 kdc_198 rfl (Nat.le_of_ble_eq_true rfl) rfl) (kX12_keeps _ _) (fun r46 _ => ?_)
      refine r_iast dX12_keepsTold_293 kdc_225 (fun M47 => ?_)
      refine r_aload_n dX12_keepsTold_294 rfl rfl ?_
      refine r_getR (k' := 232) dX12_keepsTold_295 fl_X12_113 kdc_198 rfl ?_
      refine r_iload_n dX12_keepsTold_298 rfl rfl ?_
      refine r_aload_n dX12_keepsTold_299 rfl rfl ?_
      refine r_aload_n dX12_keepsTold_300 rfl rfl ?_
      refine r_getR (k' := 232) dX12_keepsTold_301 fl_X12_113 kdc_198 rfl ?_
      refine r_iload_n dX12_keepsTold_304 rfl rfl ?_
      refine r_iald dX12_keepsTold_305 kdc_232 (fun v48 => ?_)
      refine r_calli (cl_V [.int v48] bX12_keeps (by decide) dX12_keepsTold_306 ml_X12_440 kdc_198 rfl (Nat.le_of_ble_eq_true rfl) rfl) (kX12_keeps _ _) (fun r49 _ => ?_)
      refine r_iast dX12_keepsTold_309 kdc_232 (fun M50 => ?_)
      refine r_iinc (l' := [.ref (ga g 198), .int (y1 + 1)]) dX12_keepsTold_310 rfl (inc_1 _) (Nat.le_of_ble_eq_true rfl) rfl rfl ?_
      refine r_goto dX12_keepsTold_313 ?_
      exact ih _ _
set_option maxHeartbeats 4000000 in
set_option maxRecDepth 100000 in
theorem vX12_keepsTold_L318 {g : G}       : ∀ (n : Nat) (y1 : Int32) (M : Mem), V g uX12_keepsTold 2 rvU rmU 318 [.ref (ga g 198), .int y1] [] M (fX12_keepsTold_L318 n y1 M) := by
  intro n
  induction n with
  | zero => intro y1 M; exact vNone
  | succ n ih =>
    intro y1 M
    rw [fX12_keepsTold_L318]
    refine r_iload_n dX12_keepsTold_318 rfl rfl ?_
    refine r_bipush bp_9 dX12_keepsTold_319 ?_
    refine r_icmp_ge dX12_keepsTold_321 (fun h => eT h ?_) (fun h => eF h ?_)
    · exact vRet rfl rfl trivial dX12_keepsTold_346
    · refine r_aload_n dX12_keepsTold_324 rfl rfl ?_
      refine r_getR (k' := 230) dX12_keepsTold_325 fl_X12_107 kdc_198 rfl ?_
      refine r_iload_n dX12_keepsTold_328 rfl rfl ?_
      refine r_aload_n dX12_keepsTold_329 rfl rfl ?_
      refine r_aload_n dX12_keepsTold_330 rfl rfl ?_
      refine r_getR (k' := 230) dX12_keepsTold_331 fl_X12_107 kdc_198 rfl ?_
      refine r_iload_n dX12_keepsTold_334 rfl rfl ?_
      refine r_iald dX12_keepsTold_335 kdc_230 (fun v52 => ?_)
      refine r_calli (cl_V [.int v52] bX12_keeps (by decide) dX12_keepsTold_336 ml_X12_440 kdc_198 rfl (Nat.le_of_ble_eq_true rfl) rfl) (kX12_keeps _ _) (fun r53 _ => ?_)
      refine r_iast dX12_keepsTold_339 kdc_230 (fun M54 => ?_)
      refine r_iinc (l' := [.ref (ga g 198), .int (y1 + 1)]) dX12_keepsTold_340 rfl (inc_1 _) (Nat.le_of_ble_eq_true rfl) rfl rfl ?_
      refine r_goto dX12_keepsTold_343 ?_
      exact ih _ _
set_option maxHeartbeats 4000000 in
set_option maxRecDepth 100000 in
theorem vX12_keepsTold {g : G}    (M : Mem) : V g uX12_keepsTold 2 rvU rmU 0 [.ref (ga g 198), .null] [] M (fX12_keepsTold M) := by
  unfold fX12_keepsTold
  refine r_aload_n dX12_keepsTold_0 rfl rfl ?_
  refine r_aload_n dX12_keepsTold_1 rfl rfl ?_
  refine r_aload_n dX12_keepsTold_2 rfl rfl ?_
  refine r_getI dX12_keepsTold_3 fl_X12_134 kdc_198 ?_
  refine r_calli (cl_V [.int (M 198 6)] bX12_keeps (by decide) dX12_keepsTold_6 ml_X12_440 kdc_198 rfl (Nat.le_of_ble_eq_true rfl) rfl) (kX12_keeps _ _) (fun r1 _ => ?_)
  refine r_put dX12_keepsTold_9 fw_X12_134 kdc_198 (fun M2 => ?_)
  refine r_aload_n dX12_keepsTold_12 rfl rfl ?_
  refine r_aload_n dX12_keepsTold_13 rfl rfl ?_
  refine r_aload_n dX12_keepsTold_14 rfl rfl ?_
  refine r_getI dX12_keepsTold_15 fl_X12_137 kdc_198 ?_
  refine r_calli (cl_V [.int (M2 198 7)] bX12_keeps (by decide) dX12_keepsTold_18 ml_X12_440 kdc_198 rfl (Nat.le_of_ble_eq_true rfl) rfl) (kX12_keeps _ _) (fun r3 _ => ?_)
  refine r_put dX12_keepsTold_21 fw_X12_137 kdc_198 (fun M4 => ?_)
  refine r_aload_n dX12_keepsTold_24 rfl rfl ?_
  refine r_aload_n dX12_keepsTold_25 rfl rfl ?_
  refine r_aload_n dX12_keepsTold_26 rfl rfl ?_
  refine r_getI dX12_keepsTold_27 fl_X12_287 kdc_198 ?_
  refine r_calli (cl_V [.int (M4 198 35)] bX12_keeps (by decide) dX12_keepsTold_30 ml_X12_440 kdc_198 rfl (Nat.le_of_ble_eq_true rfl) rfl) (kX12_keeps _ _) (fun r5 _ => ?_)
  refine r_put dX12_keepsTold_33 fw_X12_287 kdc_198 (fun M6 => ?_)
  refine r_aload_n dX12_keepsTold_36 rfl rfl ?_
  refine r_aload_n dX12_keepsTold_37 rfl rfl ?_
  refine r_aload_n dX12_keepsTold_38 rfl rfl ?_
  refine r_getI dX12_keepsTold_39 fl_X12_290 kdc_198 ?_
  refine r_calli (cl_V [.int (M6 198 37)] bX12_keeps (by decide) dX12_keepsTold_42 ml_X12_440 kdc_198 rfl (Nat.le_of_ble_eq_true rfl) rfl) (kX12_keeps _ _) (fun r7 _ => ?_)
  refine r_put dX12_keepsTold_45 fw_X12_290 kdc_198 (fun M8 => ?_)
  refine r_aload_n dX12_keepsTold_48 rfl rfl ?_
  refine r_aload_n dX12_keepsTold_49 rfl rfl ?_
  refine r_aload_n dX12_keepsTold_50 rfl rfl ?_
  refine r_getI dX12_keepsTold_51 fl_X12_284 kdc_198 ?_
  refine r_calli (cl_V [.int (M8 198 39)] bX12_keeps (by decide) dX12_keepsTold_54 ml_X12_440 kdc_198 rfl (Nat.le_of_ble_eq_true rfl) rfl) (kX12_keeps _ _) (fun r9 _ => ?_)
  refine r_put dX12_keepsTold_57 fw_X12_284 kdc_198 (fun M10 => ?_)
  refine r_aload_n dX12_keepsTold_60 rfl rfl ?_
  refine r_aload_n dX12_keepsTold_61 rfl rfl ?_
  refine r_aload_n dX12_keepsTold_62 rfl rfl ?_
  refine r_getI dX12_keepsTold_63 fl_X12_394 kdc_198 ?_
  refine r_calli (cl_V [.int (M10 198 43)] bX12_keeps (by decide) dX12_keepsTold_66 ml_X12_440 kdc_198 rfl (Nat.le_of_ble_eq_true rfl) rfl) (kX12_keeps _ _) (fun r11 _ => ?_)
  refine r_put dX12_keepsTold_69 fw_X12_394 kdc_198 (fun M12 => ?_)
  refine r_aload_n dX12_keepsTold_72 rfl rfl ?_
  refine r_aload_n dX12_keepsTold_73 rfl rfl ?_
  refine r_aload_n dX12_keepsTold_74 rfl rfl ?_
  refine r_getI dX12_keepsTold_75 fl_X12_412 kdc_198 ?_
  refine r_calli (cl_V [.int (M12 198 48)] bX12_keeps (by decide) dX12_keepsTold_78 ml_X12_440 kdc_198 rfl (Nat.le_of_ble_eq_true rfl) rfl) (kX12_keeps _ _) (fun r13 _ => ?_)
  refine r_put dX12_keepsTold_81 fw_X12_412 kdc_198 (fun M14 => ?_)
  refine r_aload_n dX12_keepsTold_84 rfl rfl ?_
  refine r_getR (k' := 231) dX12_keepsTold_85 fl_X12_110 kdc_198 rfl ?_
  refine r_iconst ic_0 dX12_keepsTold_88 ?_
  refine r_aload_n dX12_keepsTold_89 rfl rfl ?_
  refine r_aload_n dX12_keepsTold_90 rfl rfl ?_
  refine r_getR (k' := 231) dX12_keepsTold_91 fl_X12_110 kdc_198 rfl ?_
  refine r_iconst ic_0 dX12_keepsTold_94 ?_
  refine r_iald dX12_keepsTold_95 kdc_231 (fun v15 => ?_)
  refine r_calli (cl_V [.int v15] bX12_keeps (by decide) dX12_keepsTold_96 ml_X12_440 kdc_198 rfl (Nat.le_of_ble_eq_true rfl) rfl) (kX12_keeps _ _) (fun r16 _ => ?_)
  refine r_iast dX12_keepsTold_99 kdc_231 (fun M17 => ?_)
  refine r_aload_n dX12_keepsTold_100 rfl rfl ?_
  refine r_getR (k' := 231) dX12_keepsTold_101 fl_X12_110 kdc_198 rfl ?_
  refine r_iconst ic_1 dX12_keepsTold_104 ?_
  refine r_aload_n dX12_keepsTold_105 rfl rfl ?_
  refine r_aload_n dX12_keepsTold_106 rfl rfl ?_
  refine r_getR (k' := 231) dX12_keepsTold_107 fl_X12_110 kdc_198 rfl ?_
  refine r_iconst ic_1 dX12_keepsTold_110 ?_
  refine r_iald dX12_keepsTold_111 kdc_231 (fun v18 => ?_)
  refine r_calli (cl_V [.int v18] bX12_keeps (by decide) dX12_keepsTold_112 ml_X12_440 kdc_198 rfl (Nat.le_of_ble_eq_true rfl) rfl) (kX12_keeps _ _) (fun r19 _ => ?_)
  refine r_iast dX12_keepsTold_115 kdc_231 (fun M20 => ?_)
  refine r_iconst ic_0 dX12_keepsTold_116 ?_
  refine r_istore_n (l' := [.ref (ga g 198), .int 0]) dX12_keepsTold_117 rfl (Nat.le_of_ble_eq_true rfl) rfl rfl ?_
  refine vX12_keepsTold_L118 _ (fun M36 => ?_) FU _ _
  · refine r_iconst ic_0 dX12_keepsTold_210 ?_
    refine r_istore_n (l' := [.ref (ga g 198), .int 0]) dX12_keepsTold_211 rfl (Nat.le_of_ble_eq_true rfl) rfl rfl ?_
    refine vX12_keepsTold_L212 _ (fun M40 => ?_) FU _ _
    · refine r_iconst ic_0 dX12_keepsTold_240 ?_
      refine r_istore_n (l' := [.ref (ga g 198), .int 0]) dX12_keepsTold_241 rfl (Nat.le_of_ble_eq_true rfl) rfl rfl ?_
      refine vX12_keepsTold_L242 _ (fun M44 => ?_) FU _ _
      · refine r_iconst ic_0 dX12_keepsTold_270 ?_
        refine r_istore_n (l' := [.ref (ga g 198), .int 0]) dX12_keepsTold_271 rfl (Nat.le_of_ble_eq_true rfl) rfl rfl ?_
        refine vX12_keepsTold_L272 _ (fun M51 => ?_) FU _ _
        · refine r_iconst ic_0 dX12_keepsTold_316 ?_
          refine r_istore_n (l' := [.ref (ga g 198), .int 0]) dX12_keepsTold_317 rfl (Nat.le_of_ble_eq_true rfl) rfl rfl ?_
          refine vX12_keepsTold_L318  FU _ _
theorem kX12_keepsTold {g : G}    (M : Mem) : CtrV g uX12_keepsTold 2 rmU [.ref (ga g 198)] M (fX12_keepsTold M) := CtrV.of mX12_keepsTold rfl (Nat.le_of_ble_eq_true rfl) rfl (vX12_keepsTold M)
set_option maxHeartbeats 4000000 in
set_option maxRecDepth 100000 in
theorem vX12_keepsLaw_L18 {g : G}  (K94 : Mem → Option (Mem))    (hK94 : ∀ (M : Mem), V g uX12_keepsLaw 2 rvU rmU 94 [.ref (ga g 198), .null] [] M (K94 M)) : ∀ (n : Nat) (y1 : Int32) (M : Mem), V g uX12_keepsLaw 2 rvU rmU 18 [.ref (ga g 198), .int y1] [] M (fX12_keepsLaw_L18 K94 n y1 M) := by
  intro n
  induction n with
  | zero => intro y1 M; exact vNone
  | succ n ih =>
    intro y1 M
    rw [fX12_keepsLaw_L18]
    refine r_iload_n dX12_keepsLaw_18 rfl rfl ?_
    refine r_bipush bp_16 dX12_keepsLaw_19 ?_
    refine r_icmp_ge dX12_keepsLaw_21 (fun h => eT h ?_) (fun h => eF h ?_)
    · exact vSub (l' := [.ref (ga g 198), .null]) ⟨Or.inr rfl, ⟨Or.inl rfl, trivial⟩⟩ (hK94 _)
    · refine r_aload_n dX12_keepsLaw_24 rfl rfl ?_
      refine r_getR (k' := 209) dX12_keepsLaw_25 fl_X12_40 kdc_198 rfl ?_
      refine r_iload_n dX12_keepsLaw_28 rfl rfl ?_
      refine r_aload_n dX12_keepsLaw_29 rfl rfl ?_
      refine r_aload_n dX12_keepsLaw_30 rfl rfl ?_
      refine r_getR (k' := 209) dX12_keepsLaw_31 fl_X12_40 kdc_198 rfl ?_
      refine r_iload_n dX12_keepsLaw_34 rfl rfl ?_
      refine r_iald dX12_keepsLaw_35 kdc_209 (fun v4 => ?_)
      refine r_calli (cl_V [.int v4] bX12_keeps (by decide) dX12_keepsLaw_36 ml_X12_440 kdc_198 rfl (Nat.le_of_ble_eq_true rfl) rfl) (kX12_keeps _ _) (fun r5 _ => ?_)
      refine r_iast dX12_keepsLaw_39 kdc_209 (fun M6 => ?_)
      refine r_aload_n dX12_keepsLaw_40 rfl rfl ?_
      refine r_getR (k' := 210) dX12_keepsLaw_41 fl_X12_43 kdc_198 rfl ?_
      refine r_iload_n dX12_keepsLaw_44 rfl rfl ?_
      refine r_aload_n dX12_keepsLaw_45 rfl rfl ?_
      refine r_aload_n dX12_keepsLaw_46 rfl rfl ?_
      refine r_getR (k' := 210) dX12_keepsLaw_47 fl_X12_43 kdc_198 rfl ?_
      refine r_iload_n dX12_keepsLaw_50 rfl rfl ?_
      refine r_iald dX12_keepsLaw_51 kdc_210 (fun v7 => ?_)
      refine r_calli (cl_V [.int v7] bX12_keeps (by decide) dX12_keepsLaw_52 ml_X12_440 kdc_198 rfl (Nat.le_of_ble_eq_true rfl) rfl) (kX12_keeps _ _) (fun r8 _ => ?_)
      refine r_iast dX12_keepsLaw_55 kdc_210 (fun M9 => ?_)
      refine r_aload_n dX12_keepsLaw_56 rfl rfl ?_
      refine r_getR (k' := 211) dX12_keepsLaw_57 fl_X12_46 kdc_198 rfl ?_
      refine r_iload_n dX12_keepsLaw_60 rfl rfl ?_
      refine r_aload_n dX12_keepsLaw_61 rfl rfl ?_
      refine r_aload_n dX12_keepsLaw_62 rfl rfl ?_
      refine r_getR (k' := 211) dX12_keepsLaw_63 fl_X12_46 kdc_198 rfl ?_
      refine r_iload_n dX12_keepsLaw_66 rfl rfl ?_
      refine r_iald dX12_keepsLaw_67 kdc_211 (fun v10 => ?_)
      refine r_calli (cl_V [.int v10] bX12_keeps (by decide) dX12_keepsLaw_68 ml_X12_440 kdc_198 rfl (Nat.le_of_ble_eq_true rfl) rfl) (kX12_keeps _ _) (fun r11 _ => ?_)
      refine r_iast dX12_keepsLaw_71 kdc_211 (fun M12 => ?_)
      refine r_aload_n dX12_keepsLaw_72 rfl rfl ?_
      refine r_getR (k' := 212) dX12_keepsLaw_73 fl_X12_49 kdc_198 rfl ?_
      refine r_iload_n dX12_keepsLaw_76 rfl rfl ?_
      refine r_aload_n dX12_keepsLaw_77 rfl rfl ?_
      refine r_aload_n dX12_keepsLaw_78 rfl rfl ?_
      refine r_getR (k' := 212) dX12_keepsLaw_79 fl_X12_49 kdc_198 rfl ?_
      refine r_iload_n dX12_keepsLaw_82 rfl rfl ?_
      refine r_iald dX12_keepsLaw_83 kdc_212 (fun v13 => ?_)
      refine r_calli (cl_V [.int v13] bX12_keeps (by decide) dX12_keepsLaw_84 ml_X12_440 kdc_198 rfl (Nat.le_of_ble_eq_true rfl) rfl) (kX12_keeps _ _) (fun r14 _ => ?_)
      refine r_iast dX12_keepsLaw_87 kdc_212 (fun M15 => ?_)
      refine r_iinc (l' := [.ref (ga g 198), .int (y1 + 1)]) dX12_keepsLaw_88 rfl (inc_1 _) (Nat.le_of_ble_eq_true rfl) rfl rfl ?_
      refine r_goto dX12_keepsLaw_91 ?_
      exact ih _ _
set_option maxHeartbeats 4000000 in
set_option maxRecDepth 100000 in
theorem vX12_keepsLaw_L96 {g : G}       : ∀ (n : Nat) (y1 : Int32) (M : Mem), V g uX12_keepsLaw 2 rvU rmU 96 [.ref (ga g 198), .int y1] [] M (fX12_keepsLaw_L96 n y1 M) := by
  intro n
  induction n with
  | zero => intro y1 M; exact vNone
  | succ n ih =>
    intro y1 M
    rw [fX12_keepsLaw_L96]
    refine r_iload_n dX12_keepsLaw_96 rfl rfl ?_
    refine r_sipush sp_400 dX12_keepsLaw_97 ?_
    refine r_icmp_ge dX12_keepsLaw_100 (fun h => eT h ?_) (fun h => eF h ?_)
    · exact vRet rfl rfl trivial dX12_keepsLaw_141
    · refine r_aload_n dX12_keepsLaw_103 rfl rfl ?_
      refine r_getR (k' := 213) dX12_keepsLaw_104 fl_X12_52 kdc_198 rfl ?_
      refine r_iload_n dX12_keepsLaw_107 rfl rfl ?_
      refine r_aload_n dX12_keepsLaw_108 rfl rfl ?_
      refine r_aload_n dX12_keepsLaw_109 rfl rfl ?_
      refine r_getR (k' := 213) dX12_keepsLaw_110 fl_X12_52 kdc_198 rfl ?_
      refine r_iload_n dX12_keepsLaw_113 rfl rfl ?_
      refine r_iald dX12_keepsLaw_114 kdc_213 (fun v17 => ?_)
      refine r_calli (cl_V [.int v17] bX12_keeps (by decide) dX12_keepsLaw_115 ml_X12_440 kdc_198 rfl (Nat.le_of_ble_eq_true rfl) rfl) (kX12_keeps _ _) (fun r18 _ => ?_)
      refine r_iast dX12_keepsLaw_118 kdc_213 (fun M19 => ?_)
      refine r_aload_n dX12_keepsLaw_119 rfl rfl ?_
      refine r_getR (k' := 214) dX12_keepsLaw_120 fl_X12_55 kdc_198 rfl ?_
      refine r_iload_n dX12_keepsLaw_123 rfl rfl ?_
      refine r_aload_n dX12_keepsLaw_124 rfl rfl ?_
      refine r_aload_n dX12_keepsLaw_125 rfl rfl ?_
      refine r_getR (k' := 214) dX12_keepsLaw_126 fl_X12_55 kdc_198 rfl ?_
      refine r_iload_n dX12_keepsLaw_129 rfl rfl ?_
      refine r_iald dX12_keepsLaw_130 kdc_214 (fun v20 => ?_)
      refine r_calli (cl_V [.int v20] bX12_keeps (by decide) dX12_keepsLaw_131 ml_X12_440 kdc_198 rfl (Nat.le_of_ble_eq_true rfl) rfl) (kX12_keeps _ _) (fun r21 _ => ?_)
      refine r_iast dX12_keepsLaw_134 kdc_214 (fun M22 => ?_)
      refine r_iinc (l' := [.ref (ga g 198), .int (y1 + 1)]) dX12_keepsLaw_135 rfl (inc_1 _) (Nat.le_of_ble_eq_true rfl) rfl rfl ?_
      refine r_goto dX12_keepsLaw_138 ?_
      exact ih _ _
set_option maxHeartbeats 4000000 in
set_option maxRecDepth 100000 in
theorem vX12_keepsLaw {g : G}    (M : Mem) : V g uX12_keepsLaw 2 rvU rmU 0 [.ref (ga g 198), .null] [] M (fX12_keepsLaw M) := by
  unfold fX12_keepsLaw
  refine r_aload_n dX12_keepsLaw_0 rfl rfl ?_
  refine r_getR (k' := 208) dX12_keepsLaw_1 fl_X12_37 kdc_198 rfl ?_
  refine r_iconst ic_0 dX12_keepsLaw_4 ?_
  refine r_aload_n dX12_keepsLaw_5 rfl rfl ?_
  refine r_aload_n dX12_keepsLaw_6 rfl rfl ?_
  refine r_getR (k' := 208) dX12_keepsLaw_7 fl_X12_37 kdc_198 rfl ?_
  refine r_iconst ic_0 dX12_keepsLaw_10 ?_
  refine r_iald dX12_keepsLaw_11 kdc_208 (fun v1 => ?_)
  refine r_calli (cl_V [.int v1] bX12_keeps (by decide) dX12_keepsLaw_12 ml_X12_440 kdc_198 rfl (Nat.le_of_ble_eq_true rfl) rfl) (kX12_keeps _ _) (fun r2 _ => ?_)
  refine r_iast dX12_keepsLaw_15 kdc_208 (fun M3 => ?_)
  refine r_iconst ic_0 dX12_keepsLaw_16 ?_
  refine r_istore_n (l' := [.ref (ga g 198), .int 0]) dX12_keepsLaw_17 rfl (Nat.le_of_ble_eq_true rfl) rfl rfl ?_
  refine vX12_keepsLaw_L18 _ (fun M16 => ?_) FU _ _
  · refine r_iconst ic_0 dX12_keepsLaw_94 ?_
    refine r_istore_n (l' := [.ref (ga g 198), .int 0]) dX12_keepsLaw_95 rfl (Nat.le_of_ble_eq_true rfl) rfl rfl ?_
    refine vX12_keepsLaw_L96  FU _ _
theorem kX12_keepsLaw {g : G}    (M : Mem) : CtrV g uX12_keepsLaw 2 rmU [.ref (ga g 198)] M (fX12_keepsLaw M) := CtrV.of mX12_keepsLaw rfl (Nat.le_of_ble_eq_true rfl) rfl (vX12_keepsLaw M)
set_option maxHeartbeats 4000000 in
set_option maxRecDepth 100000 in
theorem vX12_image_L35 {g : G}  (K63 : Mem → Option (Int32 × Mem))  (c1 : Int32)  (hK63 : ∀ (M : Mem), V g uX12_image 3 rvW rmW 63 [.ref (ga g 198), .int c1, .null] [] M (K63 M)) : ∀ (n : Nat) (y2 : Int32) (M : Mem), V g uX12_image 3 rvW rmW 35 [.ref (ga g 198), .int c1, .int y2] [] M (fX12_image_L35 K63 n y2 M) := by
  intro n
  induction n with
  | zero => intro y2 M; exact vNone
  | succ n ih =>
    intro y2 M
    rw [fX12_image_L35]
    refine r_iload_n dX12_image_35 rfl rfl ?_
    refine r_bipush bp_83 dX12_image_36 ?_
    refine r_icmp_ge dX12_image_38 (fun h => eT h ?_) (fun h => eF h ?_)
    · exact vSub (l' := [.ref (ga g 198), .int c1, .null]) ⟨Or.inr rfl, ⟨Or.inr rfl, ⟨Or.inl rfl, trivial⟩⟩⟩ (hK63 _)
    · refine r_aload_n dX12_image_41 rfl rfl ?_
      refine r_getR (k' := 199) dX12_image_42 fl_X12_7 kdc_198 rfl ?_
      refine r_iload_n dX12_image_45 rfl rfl ?_
      refine r_aload_n dX12_image_46 rfl rfl ?_
      refine r_aload_n dX12_image_47 rfl rfl ?_
      refine r_getR (k' := 199) dX12_image_48 fl_X12_7 kdc_198 rfl ?_
      refine r_iload_n dX12_image_51 rfl rfl ?_
      refine r_iald dX12_image_52 kdc_199 (fun v6 => ?_)
      refine r_calli (cl_V [.int v6] bX12_keeps (by decide) dX12_image_53 ml_X12_440 kdc_198 rfl (Nat.le_of_ble_eq_true rfl) rfl) (kX12_keeps _ _) (fun r7 _ => ?_)
      refine r_iast dX12_image_56 kdc_199 (fun M8 => ?_)
      refine r_iinc (l' := [.ref (ga g 198), .int c1, .int (y2 + 1)]) dX12_image_57 rfl (inc_1 _) (Nat.le_of_ble_eq_true rfl) rfl rfl ?_
      refine r_goto dX12_image_60 ?_
      exact ih _ _
set_option maxHeartbeats 4000000 in
set_option maxRecDepth 100000 in
theorem vX12_image_L69 {g : G}  (K98 : Mem → Option (Int32 × Mem))  (c1 : Int32)  (hK98 : ∀ (M : Mem), V g uX12_image 3 rvW rmW 98 [.ref (ga g 198), .int c1, .null] [] M (K98 M)) : ∀ (n : Nat) (y2 : Int32) (M : Mem), V g uX12_image 3 rvW rmW 69 [.ref (ga g 198), .int c1, .int y2] [] M (fX12_image_L69 K98 n y2 M) := by
  intro n
  induction n with
  | zero => intro y2 M; exact vNone
  | succ n ih =>
    intro y2 M
    rw [fX12_image_L69]
    refine r_iload_n dX12_image_69 rfl rfl ?_
    refine r_sipush sp_600 dX12_image_70 ?_
    refine r_icmp_ge dX12_image_73 (fun h => eT h ?_) (fun h => eF h ?_)
    · exact vSub (l' := [.ref (ga g 198), .int c1, .null]) ⟨Or.inr rfl, ⟨Or.inr rfl, ⟨Or.inl rfl, trivial⟩⟩⟩ (hK98 _)
    · refine r_aload_n dX12_image_76 rfl rfl ?_
      refine r_getR (k' := 205) dX12_image_77 fl_X12_28 kdc_198 rfl ?_
      refine r_iload_n dX12_image_80 rfl rfl ?_
      refine r_aload_n dX12_image_81 rfl rfl ?_
      refine r_aload_n dX12_image_82 rfl rfl ?_
      refine r_getR (k' := 205) dX12_image_83 fl_X12_28 kdc_198 rfl ?_
      refine r_iload_n dX12_image_86 rfl rfl ?_
      refine r_iald dX12_image_87 kdc_205 (fun v11 => ?_)
      refine r_calli (cl_V [.int v11] bX12_keeps (by decide) dX12_image_88 ml_X12_440 kdc_198 rfl (Nat.le_of_ble_eq_true rfl) rfl) (kX12_keeps _ _) (fun r12 _ => ?_)
      refine r_iast dX12_image_91 kdc_205 (fun M13 => ?_)
      refine r_iinc (l' := [.ref (ga g 198), .int c1, .int (y2 + 1)]) dX12_image_92 rfl (inc_1 _) (Nat.le_of_ble_eq_true rfl) rfl rfl ?_
      refine r_goto dX12_image_95 ?_
      exact ih _ _
set_option maxHeartbeats 4000000 in
set_option maxRecDepth 100000 in
theorem vX12_image {g : G}   (p1 : Int32) (M : Mem) : V g uX12_image 3 rvW rmW 0 [.ref (ga g 198), .int p1, .null] [] M (fX12_image p1 M) := by
  unfold fX12_image
  refine r_aload_n dX12_image_0 rfl rfl ?_
  refine r_iconst ic_0 dX12_image_1 ?_
  refine r_put dX12_image_2 fw_X12_122 kdc_198 (fun M1 => ?_)
  refine r_iload_n dX12_image_5 rfl rfl ?_
  refine eJ (fun (J2 : Option (Int32 × Mem)) => V g uX12_image 3 rvW rmW 18 [.ref (ga g 198), .int p1, .null] [] M1 (J2)) ( ?_) (fun J2 hJ2 => ?_)
  · refine r_aload_n dX12_image_18 rfl rfl ?_
    refine r_iload_n dX12_image_19 rfl rfl ?_
    refine r_putZ dX12_image_20 fw_X12_437 kdc_198 (fun M3 => ?_)
    refine r_aload_n dX12_image_23 rfl rfl ?_
    refine r_iconst ic_1 dX12_image_24 ?_
    refine r_putL dX12_image_25 fw_X12_443 kdc_198 rfl rfl (fun M4 => ?_)
    refine r_aload_n dX12_image_28 rfl rfl ?_
    refine r_iconst ic_0 dX12_image_29 ?_
    refine r_put dX12_image_30 fw_X12_434 kdc_198 (fun M5 => ?_)
    refine r_iconst ic_0 dX12_image_33 ?_
    refine r_istore_n (l' := [.ref (ga g 198), .int p1, .int 0]) dX12_image_34 rfl (Nat.le_of_ble_eq_true rfl) rfl rfl ?_
    refine vX12_image_L35 _ _ (fun M9 => ?_) FU _ _
    · refine r_aload_n dX12_image_63 rfl rfl ?_
      refine r_callv (cl_V [] bX12_keepsTold (by decide) dX12_image_64 ml_X12_446 kdc_198 rfl (Nat.le_of_ble_eq_true rfl) rfl) (kX12_keepsTold _) (fun M10 _ => ?_)
      refine r_iconst ic_0 dX12_image_67 ?_
      refine r_istore_n (l' := [.ref (ga g 198), .int p1, .int 0]) dX12_image_68 rfl (Nat.le_of_ble_eq_true rfl) rfl rfl ?_
      refine vX12_image_L69 _ _ (fun M14 => ?_) FU _ _
      · refine r_aload_n dX12_image_98 rfl rfl ?_
        refine r_callv (cl_V [] bX12_keepsLaw (by decide) dX12_image_99 ml_X12_449 kdc_198 rfl (Nat.le_of_ble_eq_true rfl) rfl) (kX12_keepsLaw _) (fun M15 _ => ?_)
        refine r_iload_n dX12_image_102 rfl rfl ?_
        refine r_if_ne dX12_image_103 (fun h => eF h ?_) (fun h => eT h ?_)
        · refine r_iconst ic_1 dX12_image_111 ?_
          exact vRet rfl rfl rfl dX12_image_112
        · refine r_aload_n dX12_image_106 rfl rfl ?_
          refine r_iconst ic_0 dX12_image_107 ?_
          refine r_put dX12_image_108 fw_X12_125 kdc_198 (fun M16 => ?_)
          refine r_iconst ic_1 dX12_image_111 ?_
          exact vRet rfl rfl rfl dX12_image_112
  · refine r_if_ne dX12_image_6 (fun h => eF h ?_) (fun h => eT h ?_)
    · exact hJ2
    · refine r_aload_n dX12_image_9 rfl rfl ?_
      refine r_getI dX12_image_10 fl_X12_443 kdc_198 ?_
      refine r_if_ne dX12_image_13 (fun h => eF h ?_) (fun h => eT h ?_)
      · exact hJ2
      · refine r_iconst ic_0 dX12_image_16 ?_
        exact vRet rfl rfl rfl dX12_image_17
theorem kX12_image {g : G}   (p1 : Int32) (M : Mem) : CtrI g uX12_image 3 (fun r => r.1) rmW [.ref (ga g 198), .int p1] M (fX12_image p1 M) := CtrI.of mX12_image rfl (Nat.le_of_ble_eq_true rfl) rfl (vX12_image p1 M)
set_option maxHeartbeats 4000000 in
set_option maxRecDepth 100000 in
theorem vX11_look {g : G}   (p1 : Int32) (M : Mem) : V g uX11_look 2 rvI (rmP M) 0 [.ref (ga g 0), .int p1, .null] [] M (fX11_look p1 M) := by
  unfold fX11_look
  refine r_aload_n dX11_look_0 rfl rfl ?_
  refine r_getR (k' := 1) dX11_look_1 fl_X11_12 kdc_0 rfl ?_
  refine r_getR (k' := 2) dX11_look_4 fl_X11_61 kdc_1 rfl ?_
  refine r_astore_n (l' := [.ref (ga g 0), .int p1, .ref (ga g 2)]) dX11_look_7 rfl (Nat.le_of_ble_eq_true rfl) rfl rfl ?_
  refine r_iload_n dX11_look_8 rfl rfl ?_
  refine r_tsw (n := 14) (tg := [80, 85, 90, 96, 102, 107, 112, 117, 128, 133, 144, 155, 166, 177]) (td := 185) dX11_look_9 rfl (by decide) (by decide) (by decide) (by decide) (by decide +kernel) (by decide) (lt_s (lt_s (lt_s (lt_s (lt_s (lt_s (lt_s (lt_s (lt_s (lt_s (lt_s (lt_s (lt_s (lt_s (lt_0) ?_) ?_) ?_) ?_) ?_) ?_) ?_) ?_) ?_) ?_) ?_) ?_) ?_) ?_) ?_
  · refine r_aload_n dX11_look_80 rfl rfl ?_
    refine r_getI dX11_look_81 fl_X11_75 kdc_2 ?_
    exact vRet rfl rfl rfl dX11_look_84
  · refine r_aload_n dX11_look_85 rfl rfl ?_
    refine r_getI dX11_look_86 fl_X11_86 kdc_2 ?_
    exact vRet rfl rfl rfl dX11_look_89
  · refine r_aload_n dX11_look_90 rfl rfl ?_
    refine r_iconst ic_1 dX11_look_91 ?_
    refine r_calli (cl_V [.int 1] bX9_thoseThatAre (by decide) dX11_look_92 ml_X11_252 kdc_2 rfl (Nat.le_of_ble_eq_true rfl) rfl) (kX9_thoseThatAre kdc_2 _ _) (fun v1 _ => ?_)
    exact vRet rfl rfl rfl dX11_look_95
  · refine r_aload_n dX11_look_96 rfl rfl ?_
    refine r_iconst ic_2 dX11_look_97 ?_
    refine r_calli (cl_V [.int 2] bX9_thoseThatAre (by decide) dX11_look_98 ml_X11_252 kdc_2 rfl (Nat.le_of_ble_eq_true rfl) rfl) (kX9_thoseThatAre kdc_2 _ _) (fun v2 _ => ?_)
    exact vRet rfl rfl rfl dX11_look_101
  · refine r_aload_n dX11_look_102 rfl rfl ?_
    refine r_getI dX11_look_103 fl_X11_107 kdc_2 ?_
    exact vRet rfl rfl rfl dX11_look_106
  · refine r_aload_n dX11_look_107 rfl rfl ?_
    refine r_getI dX11_look_108 fl_X11_110 kdc_2 ?_
    exact vRet rfl rfl rfl dX11_look_111
  · refine r_aload_n dX11_look_112 rfl rfl ?_
    refine r_getI dX11_look_113 fl_X11_143 kdc_2 ?_
    exact vRet rfl rfl rfl dX11_look_116
  · refine r_aload_n dX11_look_117 rfl rfl ?_
    refine r_getR (k' := 1) dX11_look_118 fl_X11_12 kdc_0 rfl ?_
    refine r_getR (k' := 12) dX11_look_121 fl_X11_116 kdc_1 rfl ?_
    refine r_getI dX11_look_124 fl_X11_120 kdc_12 ?_
    exact vRet rfl rfl rfl dX11_look_127
  · refine r_aload_n dX11_look_128 rfl rfl ?_
    refine r_getI dX11_look_129 fl_X11_64 kdc_2 ?_
    exact vRet rfl rfl rfl dX11_look_132
  · refine r_aload_n dX11_look_133 rfl rfl ?_
    refine r_getR (k' := 1) dX11_look_134 fl_X11_12 kdc_0 rfl ?_
    refine r_getR (k' := 17) dX11_look_137 fl_X11_163 kdc_1 rfl ?_
    refine r_getI dX11_look_140 fl_X11_174 kdc_17 ?_
    exact vRet rfl rfl rfl dX11_look_143
  · refine r_aload_n dX11_look_144 rfl rfl ?_
    refine r_getR (k' := 1) dX11_look_145 fl_X11_12 kdc_0 rfl ?_
    refine r_getR (k' := 25) dX11_look_148 fl_X11_360 kdc_1 rfl ?_
    refine r_getI dX11_look_151 fl_X11_120 kdc_25 ?_
    exact vRet rfl rfl rfl dX11_look_154
  · refine r_aload_n dX11_look_155 rfl rfl ?_
    refine r_getR (k' := 1) dX11_look_156 fl_X11_12 kdc_0 rfl ?_
    refine r_getR (k' := 30) dX11_look_159 fl_X11_363 kdc_1 rfl ?_
    refine r_getI dX11_look_162 fl_X11_120 kdc_30 ?_
    exact vRet rfl rfl rfl dX11_look_165
  · refine r_aload_n dX11_look_166 rfl rfl ?_
    refine r_getR (k' := 1) dX11_look_167 fl_X11_12 kdc_0 rfl ?_
    refine r_getR (k' := 35) dX11_look_170 fl_X11_366 kdc_1 rfl ?_
    refine r_getI dX11_look_173 fl_X11_120 kdc_35 ?_
    exact vRet rfl rfl rfl dX11_look_176
  · refine r_aload_n dX11_look_177 rfl rfl ?_
    refine r_getR (k' := 105) dX11_look_178 fl_X11_22 kdc_0 rfl ?_
    refine r_getI dX11_look_181 fl_X11_369 kdc_105 ?_
    exact vRet rfl rfl rfl dX11_look_184
  · refine r_ldcw lc_X11_370 dX11_look_185 ?_
    exact vRet rfl rfl rfl dX11_look_188
theorem kX11_look {g : G}   (p1 : Int32) (M : Mem) : CtrI g uX11_look 2 (fun r => r) (rmP M) [.ref (ga g 0), .int p1] M (fX11_look p1 M) := CtrI.of mX11_look rfl (Nat.le_of_ble_eq_true rfl) rfl (vX11_look p1 M)
set_option maxHeartbeats 4000000 in
set_option maxRecDepth 100000 in
theorem vX12_look {g : G}   (p1 : Int32) (M : Mem) : V g uX12_look 2 rvW rmW 0 [.ref (ga g 198), .int p1] [] M (fX12_look p1 M) := by
  unfold fX12_look
  refine r_aload_n dX12_look_0 rfl rfl ?_
  refine r_iconst ic_0 dX12_look_1 ?_
  refine r_put dX12_look_2 fw_X12_122 kdc_198 (fun M1 => ?_)
  refine r_iload_n dX12_look_5 rfl rfl ?_
  refine r_if_ne dX12_look_6 (fun h => eF h ?_) (fun h => eT h ?_)
  · refine r_iload_n dX12_look_14 rfl rfl ?_
    refine r_iconst ic_1 dX12_look_15 ?_
    refine r_icmp_ne dX12_look_16 (fun h => eF h ?_) (fun h => eT h ?_)
    · refine r_iload_n dX12_look_24 rfl rfl ?_
      refine r_iconst ic_2 dX12_look_25 ?_
      refine eJ (fun (J2 : Option (Int32 × Mem)) => V g uX12_look 2 rvW rmW 34 [.ref (ga g 198), .int p1] [] M1 (J2)) ( ?_) (fun J2 hJ2 => ?_)
      · refine r_aload_n dX12_look_34 rfl rfl ?_
        refine r_iload_n dX12_look_35 rfl rfl ?_
        refine r_iconst ic_1 dX12_look_36 ?_
        refine r_isub dX12_look_37 ?_
        refine r_calli (cl_V [.int (p1 - 1)] bX12_setThatIs (by decide) dX12_look_38 ml_X12_385 kdc_198 rfl (Nat.le_of_ble_eq_true rfl) rfl) (kX12_setThatIs _ _) (fun v3 _ => ?_)
        exact vRet rfl rfl rfl dX12_look_41
      · refine r_icmp_eq dX12_look_26 (fun h => eT h ?_) (fun h => eF h ?_)
        · exact hJ2
        · refine r_iload_n dX12_look_29 rfl rfl ?_
          refine r_iconst ic_3 dX12_look_30 ?_
          refine r_icmp_ne dX12_look_31 (fun h => eF h ?_) (fun h => eT h ?_)
          · refine r_iload_n dX12_look_42 rfl rfl ?_
            refine r_iconst ic_4 dX12_look_43 ?_
            refine eJ (fun (J4 : Option (Int32 × Mem)) => V g uX12_look 2 rvW rmW 52 [.ref (ga g 198), .int p1] [] M1 (J4)) ( ?_) (fun J4 hJ4 => ?_)
            · refine r_aload_n dX12_look_52 rfl rfl ?_
              refine r_getR (k' := 199) dX12_look_53 fl_X12_7 kdc_198 rfl ?_
              refine r_iconst ic_3 dX12_look_56 ?_
              refine r_iload_n dX12_look_57 rfl rfl ?_
              refine r_iadd dX12_look_58 ?_
              refine r_iconst ic_4 dX12_look_59 ?_
              refine r_isub dX12_look_60 ?_
              refine r_iald dX12_look_61 kdc_199 (fun v5 => ?_)
              exact vRet rfl rfl rfl dX12_look_62
            · refine r_icmp_eq dX12_look_44 (fun h => eT h ?_) (fun h => eF h ?_)
              · exact hJ4
              · refine r_iload_n dX12_look_47 rfl rfl ?_
                refine r_iconst ic_5 dX12_look_48 ?_
                refine r_icmp_ne dX12_look_49 (fun h => eF h ?_) (fun h => eT h ?_)
                · refine r_iload_n dX12_look_63 rfl rfl ?_
                  refine r_bipush bp_6 dX12_look_64 ?_
                  refine r_icmp_ne dX12_look_66 (fun h => eF h ?_) (fun h => eT h ?_)
                  · refine r_iload_n dX12_look_76 rfl rfl ?_
                    refine r_bipush bp_7 dX12_look_77 ?_
                    refine r_icmp_ne dX12_look_79 (fun h => eF h ?_) (fun h => eT h ?_)
                    · refine r_iload_n dX12_look_89 rfl rfl ?_
                      refine r_bipush bp_8 dX12_look_90 ?_
                      refine r_icmp_ne dX12_look_92 (fun h => eF h ?_) (fun h => eT h ?_)
                      · refine r_iload_n dX12_look_102 rfl rfl ?_
                        refine r_bipush bp_9 dX12_look_103 ?_
                        refine r_icmp_ne dX12_look_105 (fun h => eF h ?_) (fun h => eT h ?_)
                        · refine r_iload_n dX12_look_115 rfl rfl ?_
                          refine r_bipush bp_10 dX12_look_116 ?_
                          refine r_icmp_ne dX12_look_118 (fun h => eF h ?_) (fun h => eT h ?_)
                          · refine r_iload_n dX12_look_126 rfl rfl ?_
                            refine r_bipush bp_11 dX12_look_127 ?_
                            refine r_icmp_ne dX12_look_129 (fun h => eF h ?_) (fun h => eT h ?_)
                            · refine r_iload_n dX12_look_137 rfl rfl ?_
                              refine r_bipush bp_12 dX12_look_138 ?_
                              refine r_icmp_ne dX12_look_140 (fun h => eF h ?_) (fun h => eT h ?_)
                              · refine r_iload_n dX12_look_148 rfl rfl ?_
                                refine r_bipush bp_13 dX12_look_149 ?_
                                refine r_icmp_ne dX12_look_151 (fun h => eF h ?_) (fun h => eT h ?_)
                                · refine r_ldcw lc_X12_452 dX12_look_161 ?_
                                  exact vRet rfl rfl rfl dX12_look_164
                                · refine r_aload_n dX12_look_154 rfl rfl ?_
                                  refine r_getI dX12_look_155 fl_X12_125 kdc_198 ?_
                                  refine r_goto dX12_look_158 ?_
                                  exact vRet rfl rfl rfl dX12_look_164
                              · refine r_aload_n dX12_look_143 rfl rfl ?_
                                refine r_getI dX12_look_144 fl_X12_284 kdc_198 ?_
                                exact vRet rfl rfl rfl dX12_look_147
                            · refine r_aload_n dX12_look_132 rfl rfl ?_
                              refine r_getI dX12_look_133 fl_X12_290 kdc_198 ?_
                              exact vRet rfl rfl rfl dX12_look_136
                          · refine r_aload_n dX12_look_121 rfl rfl ?_
                            refine r_getI dX12_look_122 fl_X12_287 kdc_198 ?_
                            exact vRet rfl rfl rfl dX12_look_125
                        · refine r_aload_n dX12_look_108 rfl rfl ?_
                          refine r_getR (k' := 208) dX12_look_109 fl_X12_37 kdc_198 rfl ?_
                          refine r_iconst ic_0 dX12_look_112 ?_
                          refine r_iald dX12_look_113 kdc_208 (fun v6 => ?_)
                          exact vRet rfl rfl rfl dX12_look_114
                      · refine r_aload_n dX12_look_95 rfl rfl ?_
                        refine r_getR (k' := 199) dX12_look_96 fl_X12_7 kdc_198 rfl ?_
                        refine r_iconst ic_1 dX12_look_99 ?_
                        refine r_iald dX12_look_100 kdc_199 (fun v7 => ?_)
                        exact vRet rfl rfl rfl dX12_look_101
                    · refine r_aload_n dX12_look_82 rfl rfl ?_
                      refine r_getR (k' := 199) dX12_look_83 fl_X12_7 kdc_198 rfl ?_
                      refine r_iconst ic_2 dX12_look_86 ?_
                      refine r_iald dX12_look_87 kdc_199 (fun v8 => ?_)
                      exact vRet rfl rfl rfl dX12_look_88
                  · refine r_aload_n dX12_look_69 rfl rfl ?_
                    refine r_getR (k' := 199) dX12_look_70 fl_X12_7 kdc_198 rfl ?_
                    refine r_iconst ic_0 dX12_look_73 ?_
                    refine r_iald dX12_look_74 kdc_199 (fun v9 => ?_)
                    exact vRet rfl rfl rfl dX12_look_75
                · exact hJ4
          · exact hJ2
    · refine r_aload_n dX12_look_19 rfl rfl ?_
      refine r_getI dX12_look_20 fl_X12_137 kdc_198 ?_
      exact vRet rfl rfl rfl dX12_look_23
  · refine r_aload_n dX12_look_9 rfl rfl ?_
    refine r_getI dX12_look_10 fl_X12_134 kdc_198 ?_
    exact vRet rfl rfl rfl dX12_look_13
theorem kX12_look {g : G}   (p1 : Int32) (M : Mem) : CtrI g uX12_look 2 (fun r => r.1) rmW [.ref (ga g 198), .int p1] M (fX12_look p1 M) := CtrI.of mX12_look rfl (Nat.le_of_ble_eq_true rfl) rfl (vX12_look p1 M)
set_option maxHeartbeats 4000000 in
set_option maxRecDepth 100000 in
theorem vL_law_L18 {g : G}       : ∀ (n : Nat) (y3 : Int32) (M : Mem), V g uL_law 60 rvW rmW 18 [.ref (gb g), .ref (ga g 0), .ref (ga g 198), .int y3] [] M (fL_law_L18 g n y3 M) := by
  intro n
  induction n with
  | zero => intro y3 M; exact vNone
  | succ n ih =>
    intro y3 M
    rw [fL_law_L18]
    refine r_iload_n dL_law_18 rfl rfl ?_
    refine r_aload_n dL_law_19 rfl rfl ?_
    refine r_xlen dL_law_20 ?_
    refine r_bipush bp_6 dL_law_21 ?_
    refine r_isub dL_law_23 ?_
    refine r_icmp_gt dL_law_24 (fun h => eT h ?_) (fun h => eF h ?_)
    · refine r_iconst ic_1 dL_law_1332 ?_
      exact vRet rfl rfl rfl dL_law_1333
    · refine r_aload_n dL_law_27 rfl rfl ?_
      refine r_iload_n dL_law_28 rfl rfl ?_
      refine r_xld dL_law_29 (fun v1 => ?_)
      refine r_bipush bp_63 dL_law_30 ?_
      refine r_iand dL_law_32 ?_
      refine eJ (fun (J2 : (Mem) → Option (Int32 × Mem)) => ∀ (M3 : Mem), V g uL_law 60 rvW rmW 1326 [.ref (gb g), .ref (ga g 0), .ref (ga g 198), .int y3] [] M3 (J2 M3)) (fun M3 => ?_) (fun J2 hJ2 => ?_)
      · refine r_iinc (l' := [.ref (gb g), .ref (ga g 0), .ref (ga g 198), .int (y3 + 6)]) dL_law_1326 rfl (inc_6 _) (Nat.le_of_ble_eq_true rfl) rfl rfl ?_
        refine r_goto dL_law_1329 ?_
        exact ih _ _
      · refine r_tsw (n := 36) (tg := [192, 215, 238, 281, 324, 357, 380, 443, 466, 489, 512, 545, 578, 611, 644, 667, 700, 723, 746, 789, 822, 855, 888, 921, 944, 967, 1000, 1043, 1076, 1129, 1162, 1185, 1218, 1251, 1264, 1303]) (td := 1326) dL_law_33 rfl (by decide) (by decide) (by decide) (by decide) (by decide +kernel) (by decide) (lt_s (lt_s (lt_s (lt_s (lt_s (lt_s (lt_s (lt_s (lt_s (lt_s (lt_s (lt_s (lt_s (lt_s (lt_s (lt_s (lt_s (lt_s (lt_s (lt_s (lt_s (lt_s (lt_s (lt_s (lt_s (lt_s (lt_s (lt_s (lt_s (lt_s (lt_s (lt_s (lt_s (lt_s (lt_s (lt_s (lt_0) ?_) ?_) ?_) ?_) ?_) ?_) ?_) ?_) ?_) ?_) ?_) ?_) ?_) ?_) ?_) ?_) ?_) ?_) ?_) ?_) ?_) ?_) ?_) ?_) ?_) ?_) ?_) ?_) ?_) ?_) ?_) ?_) ?_) ?_) ?_) ?_) ?_
        · refine r_aload_n dL_law_192 rfl rfl ?_
          refine r_aload_n dL_law_193 rfl rfl ?_
          refine r_iload_n dL_law_194 rfl rfl ?_
          refine r_iconst ic_1 dL_law_195 ?_
          refine r_iadd dL_law_196 ?_
          refine r_xld dL_law_197 (fun v4 => ?_)
          refine r_calli (cl_V [.int v4] bX11_state (by decide) dL_law_198 ml_L_13 kdc_0 rfl (Nat.le_of_ble_eq_true rfl) rfl) (kX11_state _ _) (fun r5 _ => ?_)
          refine r_aload_n dL_law_201 rfl rfl ?_
          refine r_aload_n dL_law_202 rfl rfl ?_
          refine r_iload_n dL_law_203 rfl rfl ?_
          refine r_iconst ic_1 dL_law_204 ?_
          refine r_iadd dL_law_205 ?_
          refine r_xld dL_law_206 (fun v6 => ?_)
          refine r_calli (cl_V [.int v6] bX12_state (by decide) dL_law_207 ml_L_17 kdc_198 rfl (Nat.le_of_ble_eq_true rfl) rfl) (kX12_state _ _) (fun r7 _ => ?_)
          refine r_icmp_eq dL_law_210 (fun h => eT h ?_) (fun h => eF h ?_)
          · exact hJ2 _
          · refine r_iconst ic_0 dL_law_213 ?_
            exact vRet rfl rfl rfl dL_law_214
        · refine r_aload_n dL_law_215 rfl rfl ?_
          refine r_aload_n dL_law_216 rfl rfl ?_
          refine r_iload_n dL_law_217 rfl rfl ?_
          refine r_iconst ic_1 dL_law_218 ?_
          refine r_iadd dL_law_219 ?_
          refine r_xld dL_law_220 (fun v8 => ?_)
          refine r_calli (cl_V [.int v8] bX11_person (by decide) dL_law_221 ml_L_18 kdc_0 rfl (Nat.le_of_ble_eq_true rfl) rfl) (kX11_person _ _) (fun r9 _ => ?_)
          refine r_aload_n dL_law_224 rfl rfl ?_
          refine r_aload_n dL_law_225 rfl rfl ?_
          refine r_iload_n dL_law_226 rfl rfl ?_
          refine r_iconst ic_1 dL_law_227 ?_
          refine r_iadd dL_law_228 ?_
          refine r_xld dL_law_229 (fun v10 => ?_)
          refine r_calli (cl_V [.int v10] bX12_person (by decide) dL_law_230 ml_L_21 kdc_198 rfl (Nat.le_of_ble_eq_true rfl) rfl) (kX12_person _ _) (fun r11 _ => ?_)
          refine r_icmp_eq dL_law_233 (fun h => eT h ?_) (fun h => eF h ?_)
          · exact hJ2 _
          · refine r_iconst ic_0 dL_law_236 ?_
            exact vRet rfl rfl rfl dL_law_237
        · refine r_aload_n dL_law_238 rfl rfl ?_
          refine r_aload_n dL_law_239 rfl rfl ?_
          refine r_iload_n dL_law_240 rfl rfl ?_
          refine r_iconst ic_1 dL_law_241 ?_
          refine r_iadd dL_law_242 ?_
          refine r_xld dL_law_243 (fun v12 => ?_)
          refine r_aload_n dL_law_244 rfl rfl ?_
          refine r_iload_n dL_law_245 rfl rfl ?_
          refine r_iconst ic_2 dL_law_246 ?_
          refine r_iadd dL_law_247 ?_
          refine r_xld dL_law_248 (fun v13 => ?_)
          refine r_aload_n dL_law_249 rfl rfl ?_
          refine r_iload_n dL_law_250 rfl rfl ?_
          refine r_iconst ic_3 dL_law_251 ?_
          refine r_iadd dL_law_252 ?_
          refine r_xld dL_law_253 (fun v14 => ?_)
          refine r_calli (cl_V [.int v12, .int v13, .int v14] bX11_bargain (by decide) dL_law_254 ml_L_22 kdc_0 rfl (Nat.le_of_ble_eq_true rfl) rfl) (kX11_bargain _ _ _ _) (fun r15 _ => ?_)
          refine r_aload_n dL_law_257 rfl rfl ?_
          refine r_aload_n dL_law_258 rfl rfl ?_
          refine r_iload_n dL_law_259 rfl rfl ?_
          refine r_iconst ic_1 dL_law_260 ?_
          refine r_iadd dL_law_261 ?_
          refine r_xld dL_law_262 (fun v16 => ?_)
          refine r_aload_n dL_law_263 rfl rfl ?_
          refine r_iload_n dL_law_264 rfl rfl ?_
          refine r_iconst ic_2 dL_law_265 ?_
          refine r_iadd dL_law_266 ?_
          refine r_xld dL_law_267 (fun v17 => ?_)
          refine r_aload_n dL_law_268 rfl rfl ?_
          refine r_iload_n dL_law_269 rfl rfl ?_
          refine r_iconst ic_3 dL_law_270 ?_
          refine r_iadd dL_law_271 ?_
          refine r_xld dL_law_272 (fun v18 => ?_)
          refine r_calli (cl_V [.int v16, .int v17, .int v18] bX12_bargain (by decide) dL_law_273 ml_L_26 kdc_198 rfl (Nat.le_of_ble_eq_true rfl) rfl) (kX12_bargain _ _ _ _) (fun r19 _ => ?_)
          refine r_icmp_eq dL_law_276 (fun h => eT h ?_) (fun h => eF h ?_)
          · exact hJ2 _
          · refine r_iconst ic_0 dL_law_279 ?_
            exact vRet rfl rfl rfl dL_law_280
        · refine r_aload_n dL_law_281 rfl rfl ?_
          refine r_aload_n dL_law_282 rfl rfl ?_
          refine r_iload_n dL_law_283 rfl rfl ?_
          refine r_iconst ic_1 dL_law_284 ?_
          refine r_iadd dL_law_285 ?_
          refine r_xld dL_law_286 (fun v20 => ?_)
          refine r_aload_n dL_law_287 rfl rfl ?_
          refine r_iload_n dL_law_288 rfl rfl ?_
          refine r_iconst ic_2 dL_law_289 ?_
          refine r_iadd dL_law_290 ?_
          refine r_xld dL_law_291 (fun v21 => ?_)
          refine r_aload_n dL_law_292 rfl rfl ?_
          refine r_iload_n dL_law_293 rfl rfl ?_
          refine r_iconst ic_3 dL_law_294 ?_
          refine r_iadd dL_law_295 ?_
          refine r_xld dL_law_296 (fun v22 => ?_)
          refine r_calli (cl_V [.int v20, .int v21, .int v22] bX11_set (by decide) dL_law_297 ml_L_27 kdc_0 rfl (Nat.le_of_ble_eq_true rfl) rfl) (kX11_set _ _ _ _) (fun r23 _ => ?_)
          refine r_aload_n dL_law_300 rfl rfl ?_
          refine r_aload_n dL_law_301 rfl rfl ?_
          refine r_iload_n dL_law_302 rfl rfl ?_
          refine r_iconst ic_1 dL_law_303 ?_
          refine r_iadd dL_law_304 ?_
          refine r_xld dL_law_305 (fun v24 => ?_)
          refine r_aload_n dL_law_306 rfl rfl ?_
          refine r_iload_n dL_law_307 rfl rfl ?_
          refine r_iconst ic_2 dL_law_308 ?_
          refine r_iadd dL_law_309 ?_
          refine r_xld dL_law_310 (fun v25 => ?_)
          refine r_aload_n dL_law_311 rfl rfl ?_
          refine r_iload_n dL_law_312 rfl rfl ?_
          refine r_iconst ic_3 dL_law_313 ?_
          refine r_iadd dL_law_314 ?_
          refine r_xld dL_law_315 (fun v26 => ?_)
          refine r_calli (cl_V [.int v24, .int v25, .int v26] bX12_set (by decide) dL_law_316 ml_L_31 kdc_198 rfl (Nat.le_of_ble_eq_true rfl) rfl) (kX12_set _ _ _ _) (fun r27 _ => ?_)
          refine r_icmp_eq dL_law_319 (fun h => eT h ?_) (fun h => eF h ?_)
          · exact hJ2 _
          · refine r_iconst ic_0 dL_law_322 ?_
            exact vRet rfl rfl rfl dL_law_323
        · refine r_aload_n dL_law_324 rfl rfl ?_
          refine r_aload_n dL_law_325 rfl rfl ?_
          refine r_iload_n dL_law_326 rfl rfl ?_
          refine r_iconst ic_1 dL_law_327 ?_
          refine r_iadd dL_law_328 ?_
          refine r_xld dL_law_329 (fun v28 => ?_)
          refine r_aload_n dL_law_330 rfl rfl ?_
          refine r_iload_n dL_law_331 rfl rfl ?_
          refine r_iconst ic_2 dL_law_332 ?_
          refine r_iadd dL_law_333 ?_
          refine r_xld dL_law_334 (fun v29 => ?_)
          refine r_calli (cl_V [.int v28, .int v29] bX11_act (by decide) dL_law_335 ml_L_32 kdc_0 rfl (Nat.le_of_ble_eq_true rfl) rfl) (kX11_act _ _ _) (fun r30 _ => ?_)
          refine r_aload_n dL_law_338 rfl rfl ?_
          refine r_aload_n dL_law_339 rfl rfl ?_
          refine r_iload_n dL_law_340 rfl rfl ?_
          refine r_iconst ic_1 dL_law_341 ?_
          refine r_iadd dL_law_342 ?_
          refine r_xld dL_law_343 (fun v31 => ?_)
          refine r_aload_n dL_law_344 rfl rfl ?_
          refine r_iload_n dL_law_345 rfl rfl ?_
          refine r_iconst ic_2 dL_law_346 ?_
          refine r_iadd dL_law_347 ?_
          refine r_xld dL_law_348 (fun v32 => ?_)
          refine r_calli (cl_V [.int v31, .int v32] bX12_act (by decide) dL_law_349 ml_L_36 kdc_198 rfl (Nat.le_of_ble_eq_true rfl) rfl) (kX12_act _ _ _) (fun r33 _ => ?_)
          refine r_icmp_eq dL_law_352 (fun h => eT h ?_) (fun h => eF h ?_)
          · exact hJ2 _
          · refine r_iconst ic_0 dL_law_355 ?_
            exact vRet rfl rfl rfl dL_law_356
        · refine r_aload_n dL_law_357 rfl rfl ?_
          refine r_aload_n dL_law_358 rfl rfl ?_
          refine r_iload_n dL_law_359 rfl rfl ?_
          refine r_iconst ic_1 dL_law_360 ?_
          refine r_iadd dL_law_361 ?_
          refine r_xld dL_law_362 (fun v34 => ?_)
          refine r_calli (cl_V [.int v34] bX11_days (by decide) dL_law_363 ml_L_37 kdc_0 rfl (Nat.le_of_ble_eq_true rfl) rfl) (kX11_days _ _) (fun r35 _ => ?_)
          refine r_aload_n dL_law_366 rfl rfl ?_
          refine r_aload_n dL_law_367 rfl rfl ?_
          refine r_iload_n dL_law_368 rfl rfl ?_
          refine r_iconst ic_1 dL_law_369 ?_
          refine r_iadd dL_law_370 ?_
          refine r_xld dL_law_371 (fun v36 => ?_)
          refine r_calli (cl_V [.int v36] bX12_days (by decide) dL_law_372 ml_L_40 kdc_198 rfl (Nat.le_of_ble_eq_true rfl) rfl) (kX12_days _ _) (fun r37 _ => ?_)
          refine r_icmp_eq dL_law_375 (fun h => eT h ?_) (fun h => eF h ?_)
          · exact hJ2 _
          · refine r_iconst ic_0 dL_law_378 ?_
            exact vRet rfl rfl rfl dL_law_379
        · refine r_aload_n dL_law_380 rfl rfl ?_
          refine r_aload_n dL_law_381 rfl rfl ?_
          refine r_iload_n dL_law_382 rfl rfl ?_
          refine r_iconst ic_1 dL_law_383 ?_
          refine r_iadd dL_law_384 ?_
          refine r_xld dL_law_385 (fun v38 => ?_)
          refine r_aload_n dL_law_386 rfl rfl ?_
          refine r_iload_n dL_law_387 rfl rfl ?_
          refine r_iconst ic_2 dL_law_388 ?_
          refine r_iadd dL_law_389 ?_
          refine r_xld dL_law_390 (fun v39 => ?_)
          refine r_aload_n dL_law_391 rfl rfl ?_
          refine r_iload_n dL_law_392 rfl rfl ?_
          refine r_iconst ic_3 dL_law_393 ?_
          refine r_iadd dL_law_394 ?_
          refine r_xld dL_law_395 (fun v40 => ?_)
          refine r_aload_n dL_law_396 rfl rfl ?_
          refine r_iload_n dL_law_397 rfl rfl ?_
          refine r_iconst ic_4 dL_law_398 ?_
          refine r_iadd dL_law_399 ?_
          refine r_xld dL_law_400 (fun v41 => ?_)
          refine r_aload_n dL_law_401 rfl rfl ?_
          refine r_iload_n dL_law_402 rfl rfl ?_
          refine r_iconst ic_5 dL_law_403 ?_
          refine r_iadd dL_law_404 ?_
          refine r_xld dL_law_405 (fun v42 => ?_)
          refine r_calli (cl_V [.int v38, .int v39, .int v40, .int v41, .int v42] bX11_feed (by decide) dL_law_406 ml_L_41 kdc_0 rfl (Nat.le_of_ble_eq_true rfl) rfl) (kX11_feed _ _ _ _ _ _) (fun r43 _ => ?_)
          refine r_aload_n dL_law_409 rfl rfl ?_
          refine r_aload_n dL_law_410 rfl rfl ?_
          refine r_iload_n dL_law_411 rfl rfl ?_
          refine r_iconst ic_1 dL_law_412 ?_
          refine r_iadd dL_law_413 ?_
          refine r_xld dL_law_414 (fun v44 => ?_)
          refine r_aload_n dL_law_415 rfl rfl ?_
          refine r_iload_n dL_law_416 rfl rfl ?_
          refine r_iconst ic_2 dL_law_417 ?_
          refine r_iadd dL_law_418 ?_
          refine r_xld dL_law_419 (fun v45 => ?_)
          refine r_aload_n dL_law_420 rfl rfl ?_
          refine r_iload_n dL_law_421 rfl rfl ?_
          refine r_iconst ic_3 dL_law_422 ?_
          refine r_iadd dL_law_423 ?_
          refine r_xld dL_law_424 (fun v46 => ?_)
          refine r_aload_n dL_law_425 rfl rfl ?_
          refine r_iload_n dL_law_426 rfl rfl ?_
          refine r_iconst ic_4 dL_law_427 ?_
          refine r_iadd dL_law_428 ?_
          refine r_xld dL_law_429 (fun v47 => ?_)
          refine r_aload_n dL_law_430 rfl rfl ?_
          refine r_iload_n dL_law_431 rfl rfl ?_
          refine r_iconst ic_5 dL_law_432 ?_
          refine r_iadd dL_law_433 ?_
          refine r_xld dL_law_434 (fun v48 => ?_)
          refine r_calli (cl_V [.int v44, .int v45, .int v46, .int v47, .int v48] bX12_feed (by decide) dL_law_435 ml_L_45 kdc_198 rfl (Nat.le_of_ble_eq_true rfl) rfl) (kX12_feed _ _ _ _ _ _) (fun r49 _ => ?_)
          refine r_icmp_eq dL_law_438 (fun h => eT h ?_) (fun h => eF h ?_)
          · exact hJ2 _
          · refine r_iconst ic_0 dL_law_441 ?_
            exact vRet rfl rfl rfl dL_law_442
        · refine r_aload_n dL_law_443 rfl rfl ?_
          refine r_aload_n dL_law_444 rfl rfl ?_
          refine r_iload_n dL_law_445 rfl rfl ?_
          refine r_iconst ic_1 dL_law_446 ?_
          refine r_iadd dL_law_447 ?_
          refine r_xld dL_law_448 (fun v50 => ?_)
          refine r_calli (cl_V [.int v50] bX11_end (by decide) dL_law_449 ml_L_46 kdc_0 rfl (Nat.le_of_ble_eq_true rfl) rfl) (kX11_end _ _) (fun r51 _ => ?_)
          refine r_aload_n dL_law_452 rfl rfl ?_
          refine r_aload_n dL_law_453 rfl rfl ?_
          refine r_iload_n dL_law_454 rfl rfl ?_
          refine r_iconst ic_1 dL_law_455 ?_
          refine r_iadd dL_law_456 ?_
          refine r_xld dL_law_457 (fun v52 => ?_)
          refine r_calli (cl_V [.int v52] bX12_end (by decide) dL_law_458 ml_L_50 kdc_198 rfl (Nat.le_of_ble_eq_true rfl) rfl) (kX12_end _ _) (fun r53 _ => ?_)
          refine r_icmp_eq dL_law_461 (fun h => eT h ?_) (fun h => eF h ?_)
          · exact hJ2 _
          · refine r_iconst ic_0 dL_law_464 ?_
            exact vRet rfl rfl rfl dL_law_465
        · refine r_aload_n dL_law_466 rfl rfl ?_
          refine r_aload_n dL_law_467 rfl rfl ?_
          refine r_iload_n dL_law_468 rfl rfl ?_
          refine r_iconst ic_1 dL_law_469 ?_
          refine r_iadd dL_law_470 ?_
          refine r_xld dL_law_471 (fun v54 => ?_)
          refine r_calli (cl_V [.int v54] bX11_text (by decide) dL_law_472 ml_L_51 kdc_0 rfl (Nat.le_of_ble_eq_true rfl) rfl) (kX11_text _ _) (fun r55 _ => ?_)
          refine r_aload_n dL_law_475 rfl rfl ?_
          refine r_aload_n dL_law_476 rfl rfl ?_
          refine r_iload_n dL_law_477 rfl rfl ?_
          refine r_iconst ic_1 dL_law_478 ?_
          refine r_iadd dL_law_479 ?_
          refine r_xld dL_law_480 (fun v56 => ?_)
          refine r_calli (cl_V [.int v56] bX12_text (by decide) dL_law_481 ml_L_54 kdc_198 rfl (Nat.le_of_ble_eq_true rfl) rfl) (kX12_text _ _) (fun r57 _ => ?_)
          refine r_icmp_eq dL_law_484 (fun h => eT h ?_) (fun h => eF h ?_)
          · exact hJ2 _
          · refine r_iconst ic_0 dL_law_487 ?_
            exact vRet rfl rfl rfl dL_law_488
        · refine r_aload_n dL_law_489 rfl rfl ?_
          refine r_aload_n dL_law_490 rfl rfl ?_
          refine r_iload_n dL_law_491 rfl rfl ?_
          refine r_iconst ic_1 dL_law_492 ?_
          refine r_iadd dL_law_493 ?_
          refine r_xld dL_law_494 (fun v58 => ?_)
          refine r_calliT (cl_V [.int v58] bX11_fault (by decide) dL_law_495 ml_L_55 kdc_0 rfl (Nat.le_of_ble_eq_true rfl) rfl) (kX11_fault _ _) ?_
          refine r_aload_n dL_law_498 rfl rfl ?_
          refine r_aload_n dL_law_499 rfl rfl ?_
          refine r_iload_n dL_law_500 rfl rfl ?_
          refine r_iconst ic_1 dL_law_501 ?_
          refine r_iadd dL_law_502 ?_
          refine r_xld dL_law_503 (fun v59 => ?_)
          refine r_calli (cl_V [.int v59] bX12_fault (by decide) dL_law_504 ml_L_58 kdc_198 rfl (Nat.le_of_ble_eq_true rfl) rfl) (kX12_fault _ _) (fun r60 _ => ?_)
          refine r_icmp_eq dL_law_507 (fun h => eT h ?_) (fun h => eF h ?_)
          · exact hJ2 _
          · refine r_iconst ic_0 dL_law_510 ?_
            exact vRet rfl rfl rfl dL_law_511
        · refine r_aload_n dL_law_512 rfl rfl ?_
          refine r_aload_n dL_law_513 rfl rfl ?_
          refine r_iload_n dL_law_514 rfl rfl ?_
          refine r_iconst ic_1 dL_law_515 ?_
          refine r_iadd dL_law_516 ?_
          refine r_xld dL_law_517 (fun v61 => ?_)
          refine r_aload_n dL_law_518 rfl rfl ?_
          refine r_iload_n dL_law_519 rfl rfl ?_
          refine r_iconst ic_2 dL_law_520 ?_
          refine r_iadd dL_law_521 ?_
          refine r_xld dL_law_522 (fun v62 => ?_)
          refine r_calli (cl_V [.int v61, .int v62] bX11_of (by decide) dL_law_523 ml_L_59 kdc_0 rfl (Nat.le_of_ble_eq_true rfl) rfl) (kX11_of _ _ _) (fun v63 _ => ?_)
          refine r_aload_n dL_law_526 rfl rfl ?_
          refine r_aload_n dL_law_527 rfl rfl ?_
          refine r_iload_n dL_law_528 rfl rfl ?_
          refine r_iconst ic_1 dL_law_529 ?_
          refine r_iadd dL_law_530 ?_
          refine r_xld dL_law_531 (fun v64 => ?_)
          refine r_aload_n dL_law_532 rfl rfl ?_
          refine r_iload_n dL_law_533 rfl rfl ?_
          refine r_iconst ic_2 dL_law_534 ?_
          refine r_iadd dL_law_535 ?_
          refine r_xld dL_law_536 (fun v65 => ?_)
          refine r_calli (cl_V [.int v64, .int v65] bX12_of (by decide) dL_law_537 ml_L_63 kdc_198 rfl (Nat.le_of_ble_eq_true rfl) rfl) (kX12_of _ _ _) (fun r66 _ => ?_)
          refine r_icmp_eq dL_law_540 (fun h => eT h ?_) (fun h => eF h ?_)
          · exact hJ2 _
          · refine r_iconst ic_0 dL_law_543 ?_
            exact vRet rfl rfl rfl dL_law_544
        · refine r_aload_n dL_law_545 rfl rfl ?_
          refine r_aload_n dL_law_546 rfl rfl ?_
          refine r_iload_n dL_law_547 rfl rfl ?_
          refine r_iconst ic_1 dL_law_548 ?_
          refine r_iadd dL_law_549 ?_
          refine r_xld dL_law_550 (fun v67 => ?_)
          refine r_aload_n dL_law_551 rfl rfl ?_
          refine r_iload_n dL_law_552 rfl rfl ?_
          refine r_iconst ic_2 dL_law_553 ?_
          refine r_iadd dL_law_554 ?_
          refine r_xld dL_law_555 (fun v68 => ?_)
          refine r_calli (cl_V [.int v67, .int v68] bX11_deal (by decide) dL_law_556 ml_L_64 kdc_0 rfl (Nat.le_of_ble_eq_true rfl) rfl) (kX11_deal _ _ _) (fun r69 _ => ?_)
          refine r_aload_n dL_law_559 rfl rfl ?_
          refine r_aload_n dL_law_560 rfl rfl ?_
          refine r_iload_n dL_law_561 rfl rfl ?_
          refine r_iconst ic_1 dL_law_562 ?_
          refine r_iadd dL_law_563 ?_
          refine r_xld dL_law_564 (fun v70 => ?_)
          refine r_aload_n dL_law_565 rfl rfl ?_
          refine r_iload_n dL_law_566 rfl rfl ?_
          refine r_iconst ic_2 dL_law_567 ?_
          refine r_iadd dL_law_568 ?_
          refine r_xld dL_law_569 (fun v71 => ?_)
          refine r_calli (cl_V [.int v70, .int v71] bX12_deal (by decide) dL_law_570 ml_L_67 kdc_198 rfl (Nat.le_of_ble_eq_true rfl) rfl) (kX12_deal _ _ _) (fun r72 _ => ?_)
          refine r_icmp_eq dL_law_573 (fun h => eT h ?_) (fun h => eF h ?_)
          · exact hJ2 _
          · refine r_iconst ic_0 dL_law_576 ?_
            exact vRet rfl rfl rfl dL_law_577
        · refine r_aload_n dL_law_578 rfl rfl ?_
          refine r_aload_n dL_law_579 rfl rfl ?_
          refine r_iload_n dL_law_580 rfl rfl ?_
          refine r_iconst ic_1 dL_law_581 ?_
          refine r_iadd dL_law_582 ?_
          refine r_xld dL_law_583 (fun v73 => ?_)
          refine r_aload_n dL_law_584 rfl rfl ?_
          refine r_iload_n dL_law_585 rfl rfl ?_
          refine r_iconst ic_2 dL_law_586 ?_
          refine r_iadd dL_law_587 ?_
          refine r_xld dL_law_588 (fun v74 => ?_)
          refine r_calli (cl_V [.int v73, .int v74] bX11_book (by decide) dL_law_589 ml_L_68 kdc_0 rfl (Nat.le_of_ble_eq_true rfl) rfl) (kX11_book _ _ _) (fun v75 _ => ?_)
          refine r_aload_n dL_law_592 rfl rfl ?_
          refine r_aload_n dL_law_593 rfl rfl ?_
          refine r_iload_n dL_law_594 rfl rfl ?_
          refine r_iconst ic_1 dL_law_595 ?_
          refine r_iadd dL_law_596 ?_
          refine r_xld dL_law_597 (fun v76 => ?_)
          refine r_aload_n dL_law_598 rfl rfl ?_
          refine r_iload_n dL_law_599 rfl rfl ?_
          refine r_iconst ic_2 dL_law_600 ?_
          refine r_iadd dL_law_601 ?_
          refine r_xld dL_law_602 (fun v77 => ?_)
          refine r_calli (cl_V [.int v76, .int v77] bX12_book (by decide) dL_law_603 ml_L_71 kdc_198 rfl (Nat.le_of_ble_eq_true rfl) rfl) (kX12_book _ _ _) (fun r78 _ => ?_)
          refine r_icmp_eq dL_law_606 (fun h => eT h ?_) (fun h => eF h ?_)
          · exact hJ2 _
          · refine r_iconst ic_0 dL_law_609 ?_
            exact vRet rfl rfl rfl dL_law_610
        · refine r_aload_n dL_law_611 rfl rfl ?_
          refine r_aload_n dL_law_612 rfl rfl ?_
          refine r_iload_n dL_law_613 rfl rfl ?_
          refine r_iconst ic_1 dL_law_614 ?_
          refine r_iadd dL_law_615 ?_
          refine r_xld dL_law_616 (fun v79 => ?_)
          refine r_aload_n dL_law_617 rfl rfl ?_
          refine r_iload_n dL_law_618 rfl rfl ?_
          refine r_iconst ic_2 dL_law_619 ?_
          refine r_iadd dL_law_620 ?_
          refine r_xld dL_law_621 (fun v80 => ?_)
          refine r_calli (cl_V [.int v79, .int v80] bX11_goes (by decide) dL_law_622 ml_L_72 kdc_0 rfl (Nat.le_of_ble_eq_true rfl) rfl) (kX11_goes _ _ _) (fun r81 _ => ?_)
          refine r_aload_n dL_law_625 rfl rfl ?_
          refine r_aload_n dL_law_626 rfl rfl ?_
          refine r_iload_n dL_law_627 rfl rfl ?_
          refine r_iconst ic_1 dL_law_628 ?_
          refine r_iadd dL_law_629 ?_
          refine r_xld dL_law_630 (fun v82 => ?_)
          refine r_aload_n dL_law_631 rfl rfl ?_
          refine r_iload_n dL_law_632 rfl rfl ?_
          refine r_iconst ic_2 dL_law_633 ?_
          refine r_iadd dL_law_634 ?_
          refine r_xld dL_law_635 (fun v83 => ?_)
          refine r_calli (cl_V [.int v82, .int v83] bX12_goes (by decide) dL_law_636 ml_L_75 kdc_198 rfl (Nat.le_of_ble_eq_true rfl) rfl) (kX12_goes _ _ _) (fun r84 _ => ?_)
          refine r_icmp_eq dL_law_639 (fun h => eT h ?_) (fun h => eF h ?_)
          · exact hJ2 _
          · refine r_iconst ic_0 dL_law_642 ?_
            exact vRet rfl rfl rfl dL_law_643
        · refine r_aload_n dL_law_644 rfl rfl ?_
          refine r_aload_n dL_law_645 rfl rfl ?_
          refine r_iload_n dL_law_646 rfl rfl ?_
          refine r_iconst ic_1 dL_law_647 ?_
          refine r_iadd dL_law_648 ?_
          refine r_xld dL_law_649 (fun v85 => ?_)
          refine r_calli (cl_V [.int v85] bX11_holds (by decide) dL_law_650 ml_L_76 kdc_0 rfl (Nat.le_of_ble_eq_true rfl) rfl) (kX11_holds _ _) (fun r86 _ => ?_)
          refine r_aload_n dL_law_653 rfl rfl ?_
          refine r_aload_n dL_law_654 rfl rfl ?_
          refine r_iload_n dL_law_655 rfl rfl ?_
          refine r_iconst ic_1 dL_law_656 ?_
          refine r_iadd dL_law_657 ?_
          refine r_xld dL_law_658 (fun v87 => ?_)
          refine r_calli (cl_V [.int v87] bX12_holds (by decide) dL_law_659 ml_L_79 kdc_198 rfl (Nat.le_of_ble_eq_true rfl) rfl) (kX12_holds _ _) (fun r88 _ => ?_)
          refine r_icmp_eq dL_law_662 (fun h => eT h ?_) (fun h => eF h ?_)
          · exact hJ2 _
          · refine r_iconst ic_0 dL_law_665 ?_
            exact vRet rfl rfl rfl dL_law_666
        · refine r_aload_n dL_law_667 rfl rfl ?_
          refine r_aload_n dL_law_668 rfl rfl ?_
          refine r_iload_n dL_law_669 rfl rfl ?_
          refine r_iconst ic_1 dL_law_670 ?_
          refine r_iadd dL_law_671 ?_
          refine r_xld dL_law_672 (fun v89 => ?_)
          refine r_aload_n dL_law_673 rfl rfl ?_
          refine r_iload_n dL_law_674 rfl rfl ?_
          refine r_iconst ic_2 dL_law_675 ?_
          refine r_iadd dL_law_676 ?_
          refine r_xld dL_law_677 (fun v90 => ?_)
          refine r_calli (cl_V [.int v89, .int v90] bX11_deals (by decide) dL_law_678 ml_L_80 kdc_0 rfl (Nat.le_of_ble_eq_true rfl) rfl) (kX11_deals _ _ _) (fun v91 _ => ?_)
          refine r_aload_n dL_law_681 rfl rfl ?_
          refine r_aload_n dL_law_682 rfl rfl ?_
          refine r_iload_n dL_law_683 rfl rfl ?_
          refine r_iconst ic_1 dL_law_684 ?_
          refine r_iadd dL_law_685 ?_
          refine r_xld dL_law_686 (fun v92 => ?_)
          refine r_aload_n dL_law_687 rfl rfl ?_
          refine r_iload_n dL_law_688 rfl rfl ?_
          refine r_iconst ic_2 dL_law_689 ?_
          refine r_iadd dL_law_690 ?_
          refine r_xld dL_law_691 (fun v93 => ?_)
          refine r_calli (cl_V [.int v92, .int v93] bX12_deals (by decide) dL_law_692 ml_L_83 kdc_198 rfl (Nat.le_of_ble_eq_true rfl) rfl) (kX12_deals _ _ _) (fun r94 _ => ?_)
          refine r_icmp_eq dL_law_695 (fun h => eT h ?_) (fun h => eF h ?_)
          · exact hJ2 _
          · refine r_iconst ic_0 dL_law_698 ?_
            exact vRet rfl rfl rfl dL_law_699
        · refine r_aload_n dL_law_700 rfl rfl ?_
          refine r_aload_n dL_law_701 rfl rfl ?_
          refine r_iload_n dL_law_702 rfl rfl ?_
          refine r_iconst ic_1 dL_law_703 ?_
          refine r_iadd dL_law_704 ?_
          refine r_xld dL_law_705 (fun v95 => ?_)
          refine r_calli (cl_V [.int v95] bX11_jump (by decide) dL_law_706 ml_L_84 kdc_0 rfl (Nat.le_of_ble_eq_true rfl) rfl) (kX11_jump _ _) (fun r96 _ => ?_)
          refine r_aload_n dL_law_709 rfl rfl ?_
          refine r_aload_n dL_law_710 rfl rfl ?_
          refine r_iload_n dL_law_711 rfl rfl ?_
          refine r_iconst ic_1 dL_law_712 ?_
          refine r_iadd dL_law_713 ?_
          refine r_xld dL_law_714 (fun v97 => ?_)
          refine r_calli (cl_V [.int v97] bX12_jump (by decide) dL_law_715 ml_L_87 kdc_198 rfl (Nat.le_of_ble_eq_true rfl) rfl) (kX12_jump _ _) (fun r98 _ => ?_)
          refine r_icmp_eq dL_law_718 (fun h => eT h ?_) (fun h => eF h ?_)
          · exact hJ2 _
          · refine r_iconst ic_0 dL_law_721 ?_
            exact vRet rfl rfl rfl dL_law_722
        · refine r_aload_n dL_law_723 rfl rfl ?_
          refine r_aload_n dL_law_724 rfl rfl ?_
          refine r_iload_n dL_law_725 rfl rfl ?_
          refine r_iconst ic_1 dL_law_726 ?_
          refine r_iadd dL_law_727 ?_
          refine r_xld dL_law_728 (fun v99 => ?_)
          refine r_calli (cl_V [.int v99] bX11_jumps (by decide) dL_law_729 ml_L_88 kdc_0 rfl (Nat.le_of_ble_eq_true rfl) rfl) (kX11_jumps _ _) (fun r100 _ => ?_)
          refine r_aload_n dL_law_732 rfl rfl ?_
          refine r_aload_n dL_law_733 rfl rfl ?_
          refine r_iload_n dL_law_734 rfl rfl ?_
          refine r_iconst ic_1 dL_law_735 ?_
          refine r_iadd dL_law_736 ?_
          refine r_xld dL_law_737 (fun v101 => ?_)
          refine r_calli (cl_V [.int v101] bX12_jumps (by decide) dL_law_738 ml_L_91 kdc_198 rfl (Nat.le_of_ble_eq_true rfl) rfl) (kX12_jumps _ _) (fun r102 _ => ?_)
          refine r_icmp_eq dL_law_741 (fun h => eT h ?_) (fun h => eF h ?_)
          · exact hJ2 _
          · refine r_iconst ic_0 dL_law_744 ?_
            exact vRet rfl rfl rfl dL_law_745
        · refine r_aload_n dL_law_746 rfl rfl ?_
          refine r_aload_n dL_law_747 rfl rfl ?_
          refine r_iload_n dL_law_748 rfl rfl ?_
          refine r_iconst ic_1 dL_law_749 ?_
          refine r_iadd dL_law_750 ?_
          refine r_xld dL_law_751 (fun v103 => ?_)
          refine r_aload_n dL_law_752 rfl rfl ?_
          refine r_iload_n dL_law_753 rfl rfl ?_
          refine r_iconst ic_2 dL_law_754 ?_
          refine r_iadd dL_law_755 ?_
          refine r_xld dL_law_756 (fun v104 => ?_)
          refine r_aload_n dL_law_757 rfl rfl ?_
          refine r_iload_n dL_law_758 rfl rfl ?_
          refine r_iconst ic_3 dL_law_759 ?_
          refine r_iadd dL_law_760 ?_
          refine r_xld dL_law_761 (fun v105 => ?_)
          refine r_calli (cl_V [.int v103, .int v104, .int v105] bX11_walks (by decide) dL_law_762 ml_L_92 kdc_0 rfl (Nat.le_of_ble_eq_true rfl) rfl) (kX11_walks _ _ _ _) (fun r106 _ => ?_)
          refine r_aload_n dL_law_765 rfl rfl ?_
          refine r_aload_n dL_law_766 rfl rfl ?_
          refine r_iload_n dL_law_767 rfl rfl ?_
          refine r_iconst ic_1 dL_law_768 ?_
          refine r_iadd dL_law_769 ?_
          refine r_xld dL_law_770 (fun v107 => ?_)
          refine r_aload_n dL_law_771 rfl rfl ?_
          refine r_iload_n dL_law_772 rfl rfl ?_
          refine r_iconst ic_2 dL_law_773 ?_
          refine r_iadd dL_law_774 ?_
          refine r_xld dL_law_775 (fun v108 => ?_)
          refine r_aload_n dL_law_776 rfl rfl ?_
          refine r_iload_n dL_law_777 rfl rfl ?_
          refine r_iconst ic_3 dL_law_778 ?_
          refine r_iadd dL_law_779 ?_
          refine r_xld dL_law_780 (fun v109 => ?_)
          refine r_calli (cl_V [.int v107, .int v108, .int v109] bX12_walks (by decide) dL_law_781 ml_L_95 kdc_198 rfl (Nat.le_of_ble_eq_true rfl) rfl) (kX12_walks _ _ _ _) (fun r110 _ => ?_)
          refine r_icmp_eq dL_law_784 (fun h => eT h ?_) (fun h => eF h ?_)
          · exact hJ2 _
          · refine r_iconst ic_0 dL_law_787 ?_
            exact vRet rfl rfl rfl dL_law_788
        · refine r_aload_n dL_law_789 rfl rfl ?_
          refine r_aload_n dL_law_790 rfl rfl ?_
          refine r_iload_n dL_law_791 rfl rfl ?_
          refine r_iconst ic_1 dL_law_792 ?_
          refine r_iadd dL_law_793 ?_
          refine r_xld dL_law_794 (fun v111 => ?_)
          refine r_aload_n dL_law_795 rfl rfl ?_
          refine r_iload_n dL_law_796 rfl rfl ?_
          refine r_iconst ic_2 dL_law_797 ?_
          refine r_iadd dL_law_798 ?_
          refine r_xld dL_law_799 (fun v112 => ?_)
          refine r_calli (cl_V [.int v111, .int v112] bX11_apart (by decide) dL_law_800 ml_L_96 kdc_0 rfl (Nat.le_of_ble_eq_true rfl) rfl) (kX11_apart _ _ _) (fun v113 _ => ?_)
          refine r_aload_n dL_law_803 rfl rfl ?_
          refine r_aload_n dL_law_804 rfl rfl ?_
          refine r_iload_n dL_law_805 rfl rfl ?_
          refine r_iconst ic_1 dL_law_806 ?_
          refine r_iadd dL_law_807 ?_
          refine r_xld dL_law_808 (fun v114 => ?_)
          refine r_aload_n dL_law_809 rfl rfl ?_
          refine r_iload_n dL_law_810 rfl rfl ?_
          refine r_iconst ic_2 dL_law_811 ?_
          refine r_iadd dL_law_812 ?_
          refine r_xld dL_law_813 (fun v115 => ?_)
          refine r_calli (cl_V [.int v114, .int v115] bX12_apart (by decide) dL_law_814 ml_L_99 kdc_198 rfl (Nat.le_of_ble_eq_true rfl) rfl) (kX12_apart _ _ _) (fun r116 _ => ?_)
          refine r_icmp_eq dL_law_817 (fun h => eT h ?_) (fun h => eF h ?_)
          · exact hJ2 _
          · refine r_iconst ic_0 dL_law_820 ?_
            exact vRet rfl rfl rfl dL_law_821
        · refine r_aload_n dL_law_822 rfl rfl ?_
          refine r_aload_n dL_law_823 rfl rfl ?_
          refine r_iload_n dL_law_824 rfl rfl ?_
          refine r_iconst ic_1 dL_law_825 ?_
          refine r_iadd dL_law_826 ?_
          refine r_xld dL_law_827 (fun v117 => ?_)
          refine r_aload_n dL_law_828 rfl rfl ?_
          refine r_iload_n dL_law_829 rfl rfl ?_
          refine r_iconst ic_2 dL_law_830 ?_
          refine r_iadd dL_law_831 ?_
          refine r_xld dL_law_832 (fun v118 => ?_)
          refine r_calli (cl_V [.int v117, .int v118] bX11_corners (by decide) dL_law_833 ml_L_100 kdc_0 rfl (Nat.le_of_ble_eq_true rfl) rfl) (kX11_corners _ _ _) (fun v119 _ => ?_)
          refine r_aload_n dL_law_836 rfl rfl ?_
          refine r_aload_n dL_law_837 rfl rfl ?_
          refine r_iload_n dL_law_838 rfl rfl ?_
          refine r_iconst ic_1 dL_law_839 ?_
          refine r_iadd dL_law_840 ?_
          refine r_xld dL_law_841 (fun v120 => ?_)
          refine r_aload_n dL_law_842 rfl rfl ?_
          refine r_iload_n dL_law_843 rfl rfl ?_
          refine r_iconst ic_2 dL_law_844 ?_
          refine r_iadd dL_law_845 ?_
          refine r_xld dL_law_846 (fun v121 => ?_)
          refine r_calli (cl_V [.int v120, .int v121] bX12_corners (by decide) dL_law_847 ml_L_103 kdc_198 rfl (Nat.le_of_ble_eq_true rfl) rfl) (kX12_corners _ _ _) (fun r122 _ => ?_)
          refine r_icmp_eq dL_law_850 (fun h => eT h ?_) (fun h => eF h ?_)
          · exact hJ2 _
          · refine r_iconst ic_0 dL_law_853 ?_
            exact vRet rfl rfl rfl dL_law_854
        · refine r_aload_n dL_law_855 rfl rfl ?_
          refine r_aload_n dL_law_856 rfl rfl ?_
          refine r_iload_n dL_law_857 rfl rfl ?_
          refine r_iconst ic_1 dL_law_858 ?_
          refine r_iadd dL_law_859 ?_
          refine r_xld dL_law_860 (fun v123 => ?_)
          refine r_aload_n dL_law_861 rfl rfl ?_
          refine r_iload_n dL_law_862 rfl rfl ?_
          refine r_iconst ic_2 dL_law_863 ?_
          refine r_iadd dL_law_864 ?_
          refine r_xld dL_law_865 (fun v124 => ?_)
          refine r_calli (cl_V [.int v123, .int v124] bX11_parts (by decide) dL_law_866 ml_L_104 kdc_0 rfl (Nat.le_of_ble_eq_true rfl) rfl) (kX11_parts _ _ _) (fun r125 _ => ?_)
          refine r_aload_n dL_law_869 rfl rfl ?_
          refine r_aload_n dL_law_870 rfl rfl ?_
          refine r_iload_n dL_law_871 rfl rfl ?_
          refine r_iconst ic_1 dL_law_872 ?_
          refine r_iadd dL_law_873 ?_
          refine r_xld dL_law_874 (fun v126 => ?_)
          refine r_aload_n dL_law_875 rfl rfl ?_
          refine r_iload_n dL_law_876 rfl rfl ?_
          refine r_iconst ic_2 dL_law_877 ?_
          refine r_iadd dL_law_878 ?_
          refine r_xld dL_law_879 (fun v127 => ?_)
          refine r_calli (cl_V [.int v126, .int v127] bX12_parts (by decide) dL_law_880 ml_L_107 kdc_198 rfl (Nat.le_of_ble_eq_true rfl) rfl) (kX12_parts _ _ _) (fun r128 _ => ?_)
          refine r_icmp_eq dL_law_883 (fun h => eT h ?_) (fun h => eF h ?_)
          · exact hJ2 _
          · refine r_iconst ic_0 dL_law_886 ?_
            exact vRet rfl rfl rfl dL_law_887
        · refine r_aload_n dL_law_888 rfl rfl ?_
          refine r_aload_n dL_law_889 rfl rfl ?_
          refine r_iload_n dL_law_890 rfl rfl ?_
          refine r_iconst ic_1 dL_law_891 ?_
          refine r_iadd dL_law_892 ?_
          refine r_xld dL_law_893 (fun v129 => ?_)
          refine r_aload_n dL_law_894 rfl rfl ?_
          refine r_iload_n dL_law_895 rfl rfl ?_
          refine r_iconst ic_2 dL_law_896 ?_
          refine r_iadd dL_law_897 ?_
          refine r_xld dL_law_898 (fun v130 => ?_)
          refine r_calli (cl_V [.int v129, .int v130] bX11_lasts (by decide) dL_law_899 ml_L_108 kdc_0 rfl (Nat.le_of_ble_eq_true rfl) rfl) (kX11_lasts _ _ _) (fun v131 _ => ?_)
          refine r_aload_n dL_law_902 rfl rfl ?_
          refine r_aload_n dL_law_903 rfl rfl ?_
          refine r_iload_n dL_law_904 rfl rfl ?_
          refine r_iconst ic_1 dL_law_905 ?_
          refine r_iadd dL_law_906 ?_
          refine r_xld dL_law_907 (fun v132 => ?_)
          refine r_aload_n dL_law_908 rfl rfl ?_
          refine r_iload_n dL_law_909 rfl rfl ?_
          refine r_iconst ic_2 dL_law_910 ?_
          refine r_iadd dL_law_911 ?_
          refine r_xld dL_law_912 (fun v133 => ?_)
          refine r_calli (cl_V [.int v132, .int v133] bX12_lasts (by decide) dL_law_913 ml_L_111 kdc_198 rfl (Nat.le_of_ble_eq_true rfl) rfl) (kX12_lasts _ _ _) (fun r134 _ => ?_)
          refine r_icmp_eq dL_law_916 (fun h => eT h ?_) (fun h => eF h ?_)
          · exact hJ2 _
          · refine r_iconst ic_0 dL_law_919 ?_
            exact vRet rfl rfl rfl dL_law_920
        · refine r_aload_n dL_law_921 rfl rfl ?_
          refine r_aload_n dL_law_922 rfl rfl ?_
          refine r_iload_n dL_law_923 rfl rfl ?_
          refine r_iconst ic_1 dL_law_924 ?_
          refine r_iadd dL_law_925 ?_
          refine r_xld dL_law_926 (fun v135 => ?_)
          refine r_calli (cl_V [.int v135] bX11_turn (by decide) dL_law_927 ml_L_112 kdc_0 rfl (Nat.le_of_ble_eq_true rfl) rfl) (kX11_turn _ _) (fun r136 _ => ?_)
          refine r_aload_n dL_law_930 rfl rfl ?_
          refine r_aload_n dL_law_931 rfl rfl ?_
          refine r_iload_n dL_law_932 rfl rfl ?_
          refine r_iconst ic_1 dL_law_933 ?_
          refine r_iadd dL_law_934 ?_
          refine r_xld dL_law_935 (fun v137 => ?_)
          refine r_calli (cl_V [.int v137] bX12_turn (by decide) dL_law_936 ml_L_115 kdc_198 rfl (Nat.le_of_ble_eq_true rfl) rfl) (kX12_turn _ _) (fun r138 _ => ?_)
          refine r_icmp_eq dL_law_939 (fun h => eT h ?_) (fun h => eF h ?_)
          · exact hJ2 _
          · refine r_iconst ic_0 dL_law_942 ?_
            exact vRet rfl rfl rfl dL_law_943
        · refine r_aload_n dL_law_944 rfl rfl ?_
          refine r_aload_n dL_law_945 rfl rfl ?_
          refine r_iload_n dL_law_946 rfl rfl ?_
          refine r_iconst ic_1 dL_law_947 ?_
          refine r_iadd dL_law_948 ?_
          refine r_xld dL_law_949 (fun v139 => ?_)
          refine r_calli (cl_V [.int v139] bX11_turning (by decide) dL_law_950 ml_L_116 kdc_0 rfl (Nat.le_of_ble_eq_true rfl) rfl) (kX11_turning _ _) (fun r140 _ => ?_)
          refine r_aload_n dL_law_953 rfl rfl ?_
          refine r_aload_n dL_law_954 rfl rfl ?_
          refine r_iload_n dL_law_955 rfl rfl ?_
          refine r_iconst ic_1 dL_law_956 ?_
          refine r_iadd dL_law_957 ?_
          refine r_xld dL_law_958 (fun v141 => ?_)
          refine r_calli (cl_V [.int v141] bX12_turning (by decide) dL_law_959 ml_L_119 kdc_198 rfl (Nat.le_of_ble_eq_true rfl) rfl) (kX12_turning _ _) (fun r142 _ => ?_)
          refine r_icmp_eq dL_law_962 (fun h => eT h ?_) (fun h => eF h ?_)
          · exact hJ2 _
          · refine r_iconst ic_0 dL_law_965 ?_
            exact vRet rfl rfl rfl dL_law_966
        · refine r_aload_n dL_law_967 rfl rfl ?_
          refine r_aload_n dL_law_968 rfl rfl ?_
          refine r_iload_n dL_law_969 rfl rfl ?_
          refine r_iconst ic_1 dL_law_970 ?_
          refine r_iadd dL_law_971 ?_
          refine r_xld dL_law_972 (fun v143 => ?_)
          refine r_aload_n dL_law_973 rfl rfl ?_
          refine r_iload_n dL_law_974 rfl rfl ?_
          refine r_iconst ic_2 dL_law_975 ?_
          refine r_iadd dL_law_976 ?_
          refine r_xld dL_law_977 (fun v144 => ?_)
          refine r_calli (cl_V [.int v143, .int v144] bX11_ant (by decide) dL_law_978 ml_L_120 kdc_0 rfl (Nat.le_of_ble_eq_true rfl) rfl) (kX11_ant _ _ _) (fun v145 _ => ?_)
          refine r_aload_n dL_law_981 rfl rfl ?_
          refine r_aload_n dL_law_982 rfl rfl ?_
          refine r_iload_n dL_law_983 rfl rfl ?_
          refine r_iconst ic_1 dL_law_984 ?_
          refine r_iadd dL_law_985 ?_
          refine r_xld dL_law_986 (fun v146 => ?_)
          refine r_aload_n dL_law_987 rfl rfl ?_
          refine r_iload_n dL_law_988 rfl rfl ?_
          refine r_iconst ic_2 dL_law_989 ?_
          refine r_iadd dL_law_990 ?_
          refine r_xld dL_law_991 (fun v147 => ?_)
          refine r_calli (cl_V [.int v146, .int v147] bX12_ant (by decide) dL_law_992 ml_L_123 kdc_198 rfl (Nat.le_of_ble_eq_true rfl) rfl) (kX12_ant _ _ _) (fun r148 _ => ?_)
          refine r_icmp_eq dL_law_995 (fun h => eT h ?_) (fun h => eF h ?_)
          · exact hJ2 _
          · refine r_iconst ic_0 dL_law_998 ?_
            exact vRet rfl rfl rfl dL_law_999
        · refine r_aload_n dL_law_1000 rfl rfl ?_
          refine r_aload_n dL_law_1001 rfl rfl ?_
          refine r_iload_n dL_law_1002 rfl rfl ?_
          refine r_iconst ic_1 dL_law_1003 ?_
          refine r_iadd dL_law_1004 ?_
          refine r_xld dL_law_1005 (fun v149 => ?_)
          refine r_aload_n dL_law_1006 rfl rfl ?_
          refine r_iload_n dL_law_1007 rfl rfl ?_
          refine r_iconst ic_2 dL_law_1008 ?_
          refine r_iadd dL_law_1009 ?_
          refine r_xld dL_law_1010 (fun v150 => ?_)
          refine r_aload_n dL_law_1011 rfl rfl ?_
          refine r_iload_n dL_law_1012 rfl rfl ?_
          refine r_iconst ic_3 dL_law_1013 ?_
          refine r_iadd dL_law_1014 ?_
          refine r_xld dL_law_1015 (fun v151 => ?_)
          refine r_calli (cl_V [.int v149, .int v150, .int v151] bX11_row (by decide) dL_law_1016 ml_L_124 kdc_0 rfl (Nat.le_of_ble_eq_true rfl) rfl) (kX11_row _ _ _ _) (fun v152 _ => ?_)
          refine r_aload_n dL_law_1019 rfl rfl ?_
          refine r_aload_n dL_law_1020 rfl rfl ?_
          refine r_iload_n dL_law_1021 rfl rfl ?_
          refine r_iconst ic_1 dL_law_1022 ?_
          refine r_iadd dL_law_1023 ?_
          refine r_xld dL_law_1024 (fun v153 => ?_)
          refine r_aload_n dL_law_1025 rfl rfl ?_
          refine r_iload_n dL_law_1026 rfl rfl ?_
          refine r_iconst ic_2 dL_law_1027 ?_
          refine r_iadd dL_law_1028 ?_
          refine r_xld dL_law_1029 (fun v154 => ?_)
          refine r_aload_n dL_law_1030 rfl rfl ?_
          refine r_iload_n dL_law_1031 rfl rfl ?_
          refine r_iconst ic_3 dL_law_1032 ?_
          refine r_iadd dL_law_1033 ?_
          refine r_xld dL_law_1034 (fun v155 => ?_)
          refine r_calli (cl_V [.int v153, .int v154, .int v155] bX12_row (by decide) dL_law_1035 ml_L_127 kdc_198 rfl (Nat.le_of_ble_eq_true rfl) rfl) (kX12_row _ _ _ _) (fun r156 _ => ?_)
          refine r_icmp_eq dL_law_1038 (fun h => eT h ?_) (fun h => eF h ?_)
          · exact hJ2 _
          · refine r_iconst ic_0 dL_law_1041 ?_
            exact vRet rfl rfl rfl dL_law_1042
        · refine r_aload_n dL_law_1043 rfl rfl ?_
          refine r_aload_n dL_law_1044 rfl rfl ?_
          refine r_iload_n dL_law_1045 rfl rfl ?_
          refine r_iconst ic_1 dL_law_1046 ?_
          refine r_iadd dL_law_1047 ?_
          refine r_xld dL_law_1048 (fun v157 => ?_)
          refine r_aload_n dL_law_1049 rfl rfl ?_
          refine r_iload_n dL_law_1050 rfl rfl ?_
          refine r_iconst ic_2 dL_law_1051 ?_
          refine r_iadd dL_law_1052 ?_
          refine r_xld dL_law_1053 (fun v158 => ?_)
          refine r_calli (cl_V [.int v157, .int v158] bX11_own (by decide) dL_law_1054 ml_L_128 kdc_0 rfl (Nat.le_of_ble_eq_true rfl) rfl) (kX11_own _ _ _) (fun v159 _ => ?_)
          refine r_aload_n dL_law_1057 rfl rfl ?_
          refine r_aload_n dL_law_1058 rfl rfl ?_
          refine r_iload_n dL_law_1059 rfl rfl ?_
          refine r_iconst ic_1 dL_law_1060 ?_
          refine r_iadd dL_law_1061 ?_
          refine r_xld dL_law_1062 (fun v160 => ?_)
          refine r_aload_n dL_law_1063 rfl rfl ?_
          refine r_iload_n dL_law_1064 rfl rfl ?_
          refine r_iconst ic_2 dL_law_1065 ?_
          refine r_iadd dL_law_1066 ?_
          refine r_xld dL_law_1067 (fun v161 => ?_)
          refine r_calli (cl_V [.int v160, .int v161] bX12_own (by decide) dL_law_1068 ml_L_131 kdc_198 rfl (Nat.le_of_ble_eq_true rfl) rfl) (kX12_own _ _ _) (fun r162 _ => ?_)
          refine r_icmp_eq dL_law_1071 (fun h => eT h ?_) (fun h => eF h ?_)
          · exact hJ2 _
          · refine r_iconst ic_0 dL_law_1074 ?_
            exact vRet rfl rfl rfl dL_law_1075
        · refine r_aload_n dL_law_1076 rfl rfl ?_
          refine r_aload_n dL_law_1077 rfl rfl ?_
          refine r_iload_n dL_law_1078 rfl rfl ?_
          refine r_iconst ic_1 dL_law_1079 ?_
          refine r_iadd dL_law_1080 ?_
          refine r_xld dL_law_1081 (fun v163 => ?_)
          refine r_aload_n dL_law_1082 rfl rfl ?_
          refine r_iload_n dL_law_1083 rfl rfl ?_
          refine r_iconst ic_2 dL_law_1084 ?_
          refine r_iadd dL_law_1085 ?_
          refine r_xld dL_law_1086 (fun v164 => ?_)
          refine r_aload_n dL_law_1087 rfl rfl ?_
          refine r_iload_n dL_law_1088 rfl rfl ?_
          refine r_iconst ic_3 dL_law_1089 ?_
          refine r_iadd dL_law_1090 ?_
          refine r_xld dL_law_1091 (fun v165 => ?_)
          refine r_aload_n dL_law_1092 rfl rfl ?_
          refine r_iload_n dL_law_1093 rfl rfl ?_
          refine r_iconst ic_4 dL_law_1094 ?_
          refine r_iadd dL_law_1095 ?_
          refine r_xld dL_law_1096 (fun v166 => ?_)
          refine r_calli (cl_V [.int v163, .int v164, .int v165, .int v166] bX11_round (by decide) dL_law_1097 ml_L_132 kdc_0 rfl (Nat.le_of_ble_eq_true rfl) rfl) (kX11_round _ _ _ _ _) (fun v167 _ => ?_)
          refine r_aload_n dL_law_1100 rfl rfl ?_
          refine r_aload_n dL_law_1101 rfl rfl ?_
          refine r_iload_n dL_law_1102 rfl rfl ?_
          refine r_iconst ic_1 dL_law_1103 ?_
          refine r_iadd dL_law_1104 ?_
          refine r_xld dL_law_1105 (fun v168 => ?_)
          refine r_aload_n dL_law_1106 rfl rfl ?_
          refine r_iload_n dL_law_1107 rfl rfl ?_
          refine r_iconst ic_2 dL_law_1108 ?_
          refine r_iadd dL_law_1109 ?_
          refine r_xld dL_law_1110 (fun v169 => ?_)
          refine r_aload_n dL_law_1111 rfl rfl ?_
          refine r_iload_n dL_law_1112 rfl rfl ?_
          refine r_iconst ic_3 dL_law_1113 ?_
          refine r_iadd dL_law_1114 ?_
          refine r_xld dL_law_1115 (fun v170 => ?_)
          refine r_aload_n dL_law_1116 rfl rfl ?_
          refine r_iload_n dL_law_1117 rfl rfl ?_
          refine r_iconst ic_4 dL_law_1118 ?_
          refine r_iadd dL_law_1119 ?_
          refine r_xld dL_law_1120 (fun v171 => ?_)
          refine r_calli (cl_V [.int v168, .int v169, .int v170, .int v171] bX12_round (by decide) dL_law_1121 ml_L_136 kdc_198 rfl (Nat.le_of_ble_eq_true rfl) rfl) (kX12_round _ _ _ _ _) (fun r172 _ => ?_)
          refine r_icmp_eq dL_law_1124 (fun h => eT h ?_) (fun h => eF h ?_)
          · exact hJ2 _
          · refine r_iconst ic_0 dL_law_1127 ?_
            exact vRet rfl rfl rfl dL_law_1128
        · refine r_aload_n dL_law_1129 rfl rfl ?_
          refine r_aload_n dL_law_1130 rfl rfl ?_
          refine r_iload_n dL_law_1131 rfl rfl ?_
          refine r_iconst ic_1 dL_law_1132 ?_
          refine r_iadd dL_law_1133 ?_
          refine r_xld dL_law_1134 (fun v173 => ?_)
          refine r_aload_n dL_law_1135 rfl rfl ?_
          refine r_iload_n dL_law_1136 rfl rfl ?_
          refine r_iconst ic_2 dL_law_1137 ?_
          refine r_iadd dL_law_1138 ?_
          refine r_xld dL_law_1139 (fun v174 => ?_)
          refine r_calli (cl_V [.int v173, .int v174] bX11_nine (by decide) dL_law_1140 ml_L_137 kdc_0 rfl (Nat.le_of_ble_eq_true rfl) rfl) (kX11_nine _ _ _) (fun r175 _ => ?_)
          refine r_aload_n dL_law_1143 rfl rfl ?_
          refine r_aload_n dL_law_1144 rfl rfl ?_
          refine r_iload_n dL_law_1145 rfl rfl ?_
          refine r_iconst ic_1 dL_law_1146 ?_
          refine r_iadd dL_law_1147 ?_
          refine r_xld dL_law_1148 (fun v176 => ?_)
          refine r_aload_n dL_law_1149 rfl rfl ?_
          refine r_iload_n dL_law_1150 rfl rfl ?_
          refine r_iconst ic_2 dL_law_1151 ?_
          refine r_iadd dL_law_1152 ?_
          refine r_xld dL_law_1153 (fun v177 => ?_)
          refine r_calli (cl_V [.int v176, .int v177] bX12_nine (by decide) dL_law_1154 ml_L_140 kdc_198 rfl (Nat.le_of_ble_eq_true rfl) rfl) (kX12_nine _ _ _) (fun r178 _ => ?_)
          refine r_icmp_eq dL_law_1157 (fun h => eT h ?_) (fun h => eF h ?_)
          · exact hJ2 _
          · refine r_iconst ic_0 dL_law_1160 ?_
            exact vRet rfl rfl rfl dL_law_1161
        · refine r_aload_n dL_law_1162 rfl rfl ?_
          refine r_aload_n dL_law_1163 rfl rfl ?_
          refine r_iload_n dL_law_1164 rfl rfl ?_
          refine r_iconst ic_1 dL_law_1165 ?_
          refine r_iadd dL_law_1166 ?_
          refine r_xld dL_law_1167 (fun v179 => ?_)
          refine r_calli (cl_V [.int v179] bX11_even (by decide) dL_law_1168 ml_L_141 kdc_0 rfl (Nat.le_of_ble_eq_true rfl) rfl) (kX11_even _ _) (fun r180 _ => ?_)
          refine r_aload_n dL_law_1171 rfl rfl ?_
          refine r_aload_n dL_law_1172 rfl rfl ?_
          refine r_iload_n dL_law_1173 rfl rfl ?_
          refine r_iconst ic_1 dL_law_1174 ?_
          refine r_iadd dL_law_1175 ?_
          refine r_xld dL_law_1176 (fun v181 => ?_)
          refine r_calli (cl_V [.int v181] bX12_even (by decide) dL_law_1177 ml_L_144 kdc_198 rfl (Nat.le_of_ble_eq_true rfl) rfl) (kX12_even _ _) (fun r182 _ => ?_)
          refine r_icmp_eq dL_law_1180 (fun h => eT h ?_) (fun h => eF h ?_)
          · exact hJ2 _
          · refine r_iconst ic_0 dL_law_1183 ?_
            exact vRet rfl rfl rfl dL_law_1184
        · refine r_aload_n dL_law_1185 rfl rfl ?_
          refine r_aload_n dL_law_1186 rfl rfl ?_
          refine r_iload_n dL_law_1187 rfl rfl ?_
          refine r_iconst ic_1 dL_law_1188 ?_
          refine r_iadd dL_law_1189 ?_
          refine r_xld dL_law_1190 (fun v183 => ?_)
          refine r_aload_n dL_law_1191 rfl rfl ?_
          refine r_iload_n dL_law_1192 rfl rfl ?_
          refine r_iconst ic_2 dL_law_1193 ?_
          refine r_iadd dL_law_1194 ?_
          refine r_xld dL_law_1195 (fun v184 => ?_)
          refine r_calli (cl_V [.int v183, .int v184] bX11_rule (by decide) dL_law_1196 ml_L_145 kdc_0 rfl (Nat.le_of_ble_eq_true rfl) rfl) (kX11_rule _ _ _) (fun r185 _ => ?_)
          refine r_aload_n dL_law_1199 rfl rfl ?_
          refine r_aload_n dL_law_1200 rfl rfl ?_
          refine r_iload_n dL_law_1201 rfl rfl ?_
          refine r_iconst ic_1 dL_law_1202 ?_
          refine r_iadd dL_law_1203 ?_
          refine r_xld dL_law_1204 (fun v186 => ?_)
          refine r_aload_n dL_law_1205 rfl rfl ?_
          refine r_iload_n dL_law_1206 rfl rfl ?_
          refine r_iconst ic_2 dL_law_1207 ?_
          refine r_iadd dL_law_1208 ?_
          refine r_xld dL_law_1209 (fun v187 => ?_)
          refine r_calli (cl_V [.int v186, .int v187] bX12_rule (by decide) dL_law_1210 ml_L_148 kdc_198 rfl (Nat.le_of_ble_eq_true rfl) rfl) (kX12_rule _ _ _) (fun r188 _ => ?_)
          refine r_icmp_eq dL_law_1213 (fun h => eT h ?_) (fun h => eF h ?_)
          · exact hJ2 _
          · refine r_iconst ic_0 dL_law_1216 ?_
            exact vRet rfl rfl rfl dL_law_1217
        · refine r_aload_n dL_law_1218 rfl rfl ?_
          refine r_aload_n dL_law_1219 rfl rfl ?_
          refine r_iload_n dL_law_1220 rfl rfl ?_
          refine r_iconst ic_1 dL_law_1221 ?_
          refine r_iadd dL_law_1222 ?_
          refine r_xld dL_law_1223 (fun v189 => ?_)
          refine r_aload_n dL_law_1224 rfl rfl ?_
          refine r_iload_n dL_law_1225 rfl rfl ?_
          refine r_iconst ic_2 dL_law_1226 ?_
          refine r_iadd dL_law_1227 ?_
          refine r_xld dL_law_1228 (fun v190 => ?_)
          refine r_calli (cl_V [.int v189, .int v190] bX11_game (by decide) dL_law_1229 ml_L_149 kdc_0 rfl (Nat.le_of_ble_eq_true rfl) rfl) (kX11_game _ _ _) (fun r191 _ => ?_)
          refine r_aload_n dL_law_1232 rfl rfl ?_
          refine r_aload_n dL_law_1233 rfl rfl ?_
          refine r_iload_n dL_law_1234 rfl rfl ?_
          refine r_iconst ic_1 dL_law_1235 ?_
          refine r_iadd dL_law_1236 ?_
          refine r_xld dL_law_1237 (fun v192 => ?_)
          refine r_aload_n dL_law_1238 rfl rfl ?_
          refine r_iload_n dL_law_1239 rfl rfl ?_
          refine r_iconst ic_2 dL_law_1240 ?_
          refine r_iadd dL_law_1241 ?_
          refine r_xld dL_law_1242 (fun v193 => ?_)
          refine r_calli (cl_V [.int v192, .int v193] bX12_game (by decide) dL_law_1243 ml_L_152 kdc_198 rfl (Nat.le_of_ble_eq_true rfl) rfl) (kX12_game _ _ _) (fun r194 _ => ?_)
          refine r_icmp_eq dL_law_1246 (fun h => eT h ?_) (fun h => eF h ?_)
          · exact hJ2 _
          · refine r_iconst ic_0 dL_law_1249 ?_
            exact vRet rfl rfl rfl dL_law_1250
        · refine r_aload_n dL_law_1251 rfl rfl ?_
          refine r_calli (cl_V [] bX11_undo (by decide) dL_law_1252 ml_L_153 kdc_0 rfl (Nat.le_of_ble_eq_true rfl) rfl) (kX11_undo _) (fun r195 _ => ?_)
          refine r_aload_n dL_law_1255 rfl rfl ?_
          refine r_calli (cl_V [] bX12_undo (by decide) dL_law_1256 ml_L_157 kdc_198 rfl (Nat.le_of_ble_eq_true rfl) rfl) (kX12_undo _) (fun r196 _ => ?_)
          refine r_icmp_eq dL_law_1259 (fun h => eT h ?_) (fun h => eF h ?_)
          · exact hJ2 _
          · refine r_iconst ic_0 dL_law_1262 ?_
            exact vRet rfl rfl rfl dL_law_1263
        · refine r_aload_n dL_law_1264 rfl rfl ?_
          refine r_aload_n dL_law_1265 rfl rfl ?_
          refine r_iload_n dL_law_1266 rfl rfl ?_
          refine r_iconst ic_1 dL_law_1267 ?_
          refine r_iadd dL_law_1268 ?_
          refine r_xld dL_law_1269 (fun v197 => ?_)
          refine eJ (fun (J198 : (Int32) → Option (Int32 × Mem)) => ∀ (t199 : Int32), V g uL_law 60 rvW rmW 1278 [.ref (gb g), .ref (ga g 0), .ref (ga g 198), .int y3] [.int t199, .ref (ga g 0)] M (J198 t199)) (fun t199 => ?_) (fun J198 hJ198 => ?_)
          · refine r_calli (cl_V [.int t199] bX11_image (by decide) dL_law_1278 ml_L_158 kdc_0 rfl (Nat.le_of_ble_eq_true rfl) rfl) (kX11_image _ _) (fun r200 _ => ?_)
            refine r_aload_n dL_law_1281 rfl rfl ?_
            refine r_aload_n dL_law_1282 rfl rfl ?_
            refine r_iload_n dL_law_1283 rfl rfl ?_
            refine r_iconst ic_1 dL_law_1284 ?_
            refine r_iadd dL_law_1285 ?_
            refine r_xld dL_law_1286 (fun v201 => ?_)
            refine eJ (fun (J202 : (Int32) → Option (Int32 × Mem)) => ∀ (t203 : Int32), V g uL_law 60 rvW rmW 1295 [.ref (gb g), .ref (ga g 0), .ref (ga g 198), .int y3] [.int t203, .ref (ga g 198), .int r200.1] r200.2 (J202 t203)) (fun t203 => ?_) (fun J202 hJ202 => ?_)
            · refine r_calli (cl_V [.int t203] bX12_image (by decide) dL_law_1295 ml_L_162 kdc_198 rfl (Nat.le_of_ble_eq_true rfl) rfl) (kX12_image _ _) (fun r204 _ => ?_)
              refine r_icmp_eq dL_law_1298 (fun h => eT h ?_) (fun h => eF h ?_)
              · exact hJ2 _
              · refine r_iconst ic_0 dL_law_1301 ?_
                exact vRet rfl rfl rfl dL_law_1302
            · refine r_if_eq dL_law_1287 (fun h => eT h ?_) (fun h => eF h ?_)
              · refine r_iconst ic_0 dL_law_1294 ?_
                exact hJ202 _
              · refine r_iconst ic_1 dL_law_1290 ?_
                refine r_goto dL_law_1291 ?_
                exact hJ202 _
          · refine r_if_eq dL_law_1270 (fun h => eT h ?_) (fun h => eF h ?_)
            · refine r_iconst ic_0 dL_law_1277 ?_
              exact hJ198 _
            · refine r_iconst ic_1 dL_law_1273 ?_
              refine r_goto dL_law_1274 ?_
              exact hJ198 _
        · refine r_aload_n dL_law_1303 rfl rfl ?_
          refine r_aload_n dL_law_1304 rfl rfl ?_
          refine r_iload_n dL_law_1305 rfl rfl ?_
          refine r_iconst ic_1 dL_law_1306 ?_
          refine r_iadd dL_law_1307 ?_
          refine r_xld dL_law_1308 (fun v205 => ?_)
          refine r_calli (cl_V [.int v205] bX11_look (by decide) dL_law_1309 ml_L_163 kdc_0 rfl (Nat.le_of_ble_eq_true rfl) rfl) (kX11_look _ _) (fun v206 _ => ?_)
          refine r_aload_n dL_law_1312 rfl rfl ?_
          refine r_aload_n dL_law_1313 rfl rfl ?_
          refine r_iload_n dL_law_1314 rfl rfl ?_
          refine r_iconst ic_1 dL_law_1315 ?_
          refine r_iadd dL_law_1316 ?_
          refine r_xld dL_law_1317 (fun v207 => ?_)
          refine r_calli (cl_V [.int v207] bX12_look (by decide) dL_law_1318 ml_L_166 kdc_198 rfl (Nat.le_of_ble_eq_true rfl) rfl) (kX12_look _ _) (fun r208 _ => ?_)
          refine r_icmp_eq dL_law_1321 (fun h => eT h ?_) (fun h => eF h ?_)
          · exact hJ2 _
          · refine r_iconst ic_0 dL_law_1324 ?_
            exact vRet rfl rfl rfl dL_law_1325
        · exact hJ2 _
set_option maxHeartbeats 4000000 in
set_option maxRecDepth 100000 in
theorem vL_law {g : G}   (p3 : Int32) (M : Mem) : V g uL_law 60 rvW rmW 18 [.ref (gb g), .ref (ga g 0), .ref (ga g 198), .int p3] [] M (fL_law g p3 M) := by
  unfold fL_law
  refine vL_law_L18  FU _ _
