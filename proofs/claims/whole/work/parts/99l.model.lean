/-! printed: the constructor of the reference -/
set_option maxRecDepth 100000 in
set_option maxHeartbeats 4000000 in
theorem ctX12_198 {g : G} {N0 : Nat} : Ctor g N0 uX12_init 1 198 199 36 17729 (.inr (12, [.int 0, .null, .null, .int 0, .null, .int 0, .int 0, .int 0, .null, .null, .null, .null, .null, .int 0, .int 0, .int 0, .int 0, .int 0, .null, .null, .null, .null, .null, .null, .null, .null, .int 0, .int 0, .int 0, .null, .int 0, .int 0, .int 0, .int 0, .int 0, .int 0, .null, .int 0, .null, .int 0, .null, .null, .null, .int 0, .null, .null, .null, .null, .int 0, .null, .null, .null, .null, .null, .null, .null, .null, .null, .int 0, .int 0, .int 0, .null])) [] := by
  refine Ctor.of (l := [.ref (ga g 198)]) okX12_init rfl rfl (Nat.le_of_ble_eq_true rfl) rfl eX12_init_1007.1 (fun C hC => ?_)
  refine z_begin hC ?_
  refine y_aload_n eX12_init_0 rfl rfl ?_
  refine y_objInit (by decide) kmX12_1 k_obi k_obc eX12_init_1 ?_
  refine y_aload_n eX12_init_4 rfl rfl ?_
  refine y_bipush (v := 83) (by decide) eX12_init_5 ?_
  refine z_newi (N := 83) (q := 199) (q' := 200) (i' := 1) (z' := 83) (by decide) (by decide) (Nat.le_of_ble_eq_true rfl) eX12_init_7 rfl rfl rfl (by decide) (by decide) (by decide) rfl (M0_0 (by decide)) rfl k_arr_int ?_
  refine z_put (j := 1) (fs' := [.int 0, .ref (ga g 199), .null, .int 0, .null, .int 0, .int 0, .int 0, .null, .null, .null, .null, .null, .int 0, .int 0, .int 0, .int 0, .int 0, .null, .null, .null, .null, .null, .null, .null, .null, .int 0, .int 0, .int 0, .null, .int 0, .int 0, .int 0, .int 0, .int 0, .int 0, .null, .int 0, .null, .int 0, .null, .null, .null, .int 0, .null, .null, .null, .null, .int 0, .null, .null, .null, .null, .null, .null, .null, .null, .null, .int 0, .int 0, .int 0, .null]) clX12 (by decide) kfX12_7 rfl rfl rfl rfl rfl eX12_init_9 (by decide) (Nat.le_of_ble_eq_true rfl) rfl ?_
  refine y_aload_n eX12_init_12 rfl rfl ?_
  refine y_sipush (v := 498) (by decide) eX12_init_13 ?_
  refine z_newi (N := 498) (q := 200) (q' := 201) (i' := 2) (z' := 581) (by decide) (by decide) (Nat.le_of_ble_eq_true rfl) eX12_init_16 rfl rfl rfl (by decide) (by decide) (by decide) rfl (M0_0 (by decide)) rfl k_arr_int ?_
  refine z_put (j := 2) (fs' := [.int 0, .ref (ga g 199), .ref (ga g 200), .int 0, .null, .int 0, .int 0, .int 0, .null, .null, .null, .null, .null, .int 0, .int 0, .int 0, .int 0, .int 0, .null, .null, .null, .null, .null, .null, .null, .null, .int 0, .int 0, .int 0, .null, .int 0, .int 0, .int 0, .int 0, .int 0, .int 0, .null, .int 0, .null, .int 0, .null, .null, .null, .int 0, .null, .null, .null, .null, .int 0, .null, .null, .null, .null, .null, .null, .null, .null, .null, .int 0, .int 0, .int 0, .null]) clX12 (by decide) kfX12_13 rfl rfl rfl rfl rfl eX12_init_18 (by decide) (Nat.le_of_ble_eq_true rfl) rfl ?_
  refine y_aload_n eX12_init_21 rfl rfl ?_
  refine y_bipush (v := 83) (by decide) eX12_init_22 ?_
  refine z_newi (N := 83) (q := 201) (q' := 202) (i' := 3) (z' := 664) (by decide) (by decide) (Nat.le_of_ble_eq_true rfl) eX12_init_24 rfl rfl rfl (by decide) (by decide) (by decide) rfl (M0_0 (by decide)) rfl k_arr_int ?_
  refine z_put (j := 4) (fs' := [.int 0, .ref (ga g 199), .ref (ga g 200), .int 0, .ref (ga g 201), .int 0, .int 0, .int 0, .null, .null, .null, .null, .null, .int 0, .int 0, .int 0, .int 0, .int 0, .null, .null, .null, .null, .null, .null, .null, .null, .int 0, .int 0, .int 0, .null, .int 0, .int 0, .int 0, .int 0, .int 0, .int 0, .null, .int 0, .null, .int 0, .null, .null, .null, .int 0, .null, .null, .null, .null, .int 0, .null, .null, .null, .null, .null, .null, .null, .null, .null, .int 0, .int 0, .int 0, .null]) clX12 (by decide) kfX12_16 rfl rfl rfl rfl rfl eX12_init_26 (by decide) (Nat.le_of_ble_eq_true rfl) rfl ?_
  refine y_aload_n eX12_init_29 rfl rfl ?_
  refine y_bipush (v := 14) (by decide) eX12_init_30 ?_
  refine z_newi (N := 14) (q := 202) (q' := 203) (i' := 4) (z' := 678) (by decide) (by decide) (Nat.le_of_ble_eq_true rfl) eX12_init_32 rfl rfl rfl (by decide) (by decide) (by decide) rfl (M0_0 (by decide)) rfl k_arr_int ?_
  refine z_put (j := 8) (fs' := [.int 0, .ref (ga g 199), .ref (ga g 200), .int 0, .ref (ga g 201), .int 0, .int 0, .int 0, .ref (ga g 202), .null, .null, .null, .null, .int 0, .int 0, .int 0, .int 0, .int 0, .null, .null, .null, .null, .null, .null, .null, .null, .int 0, .int 0, .int 0, .null, .int 0, .int 0, .int 0, .int 0, .int 0, .int 0, .null, .int 0, .null, .int 0, .null, .null, .null, .int 0, .null, .null, .null, .null, .int 0, .null, .null, .null, .null, .null, .null, .null, .null, .null, .int 0, .int 0, .int 0, .null]) clX12 (by decide) kfX12_19 rfl rfl rfl rfl rfl eX12_init_34 (by decide) (Nat.le_of_ble_eq_true rfl) rfl ?_
  refine y_aload_n eX12_init_37 rfl rfl ?_
  refine y_bipush (v := 14) (by decide) eX12_init_38 ?_
  refine z_newi (N := 14) (q := 203) (q' := 204) (i' := 5) (z' := 692) (by decide) (by decide) (Nat.le_of_ble_eq_true rfl) eX12_init_40 rfl rfl rfl (by decide) (by decide) (by decide) rfl (M0_0 (by decide)) rfl k_arr_int ?_
  refine z_put (j := 9) (fs' := [.int 0, .ref (ga g 199), .ref (ga g 200), .int 0, .ref (ga g 201), .int 0, .int 0, .int 0, .ref (ga g 202), .ref (ga g 203), .null, .null, .null, .int 0, .int 0, .int 0, .int 0, .int 0, .null, .null, .null, .null, .null, .null, .null, .null, .int 0, .int 0, .int 0, .null, .int 0, .int 0, .int 0, .int 0, .int 0, .int 0, .null, .int 0, .null, .int 0, .null, .null, .null, .int 0, .null, .null, .null, .null, .int 0, .null, .null, .null, .null, .null, .null, .null, .null, .null, .int 0, .int 0, .int 0, .null]) clX12 (by decide) kfX12_22 rfl rfl rfl rfl rfl eX12_init_42 (by decide) (Nat.le_of_ble_eq_true rfl) rfl ?_
  refine y_aload_n eX12_init_45 rfl rfl ?_
  refine y_bipush (v := 14) (by decide) eX12_init_46 ?_
  refine z_newi (N := 14) (q := 204) (q' := 205) (i' := 6) (z' := 706) (by decide) (by decide) (Nat.le_of_ble_eq_true rfl) eX12_init_48 rfl rfl rfl (by decide) (by decide) (by decide) rfl (M0_0 (by decide)) rfl k_arr_int ?_
  refine z_put (j := 10) (fs' := [.int 0, .ref (ga g 199), .ref (ga g 200), .int 0, .ref (ga g 201), .int 0, .int 0, .int 0, .ref (ga g 202), .ref (ga g 203), .ref (ga g 204), .null, .null, .int 0, .int 0, .int 0, .int 0, .int 0, .null, .null, .null, .null, .null, .null, .null, .null, .int 0, .int 0, .int 0, .null, .int 0, .int 0, .int 0, .int 0, .int 0, .int 0, .null, .int 0, .null, .int 0, .null, .null, .null, .int 0, .null, .null, .null, .null, .int 0, .null, .null, .null, .null, .null, .null, .null, .null, .null, .int 0, .int 0, .int 0, .null]) clX12 (by decide) kfX12_25 rfl rfl rfl rfl rfl eX12_init_50 (by decide) (Nat.le_of_ble_eq_true rfl) rfl ?_
  refine y_aload_n eX12_init_53 rfl rfl ?_
  refine y_sipush (v := 600) (by decide) eX12_init_54 ?_
  refine z_newi (N := 600) (q := 205) (q' := 206) (i' := 7) (z' := 1306) (by decide) (by decide) (Nat.le_of_ble_eq_true rfl) eX12_init_57 rfl rfl rfl (by decide) (by decide) (by decide) rfl (M0_0 (by decide)) rfl k_arr_int ?_
  refine z_put (j := 11) (fs' := [.int 0, .ref (ga g 199), .ref (ga g 200), .int 0, .ref (ga g 201), .int 0, .int 0, .int 0, .ref (ga g 202), .ref (ga g 203), .ref (ga g 204), .ref (ga g 205), .null, .int 0, .int 0, .int 0, .int 0, .int 0, .null, .null, .null, .null, .null, .null, .null, .null, .int 0, .int 0, .int 0, .null, .int 0, .int 0, .int 0, .int 0, .int 0, .int 0, .null, .int 0, .null, .int 0, .null, .null, .null, .int 0, .null, .null, .null, .null, .int 0, .null, .null, .null, .null, .null, .null, .null, .null, .null, .int 0, .int 0, .int 0, .null]) clX12 (by decide) kfX12_28 rfl rfl rfl rfl rfl eX12_init_59 (by decide) (Nat.le_of_ble_eq_true rfl) rfl ?_
  refine y_aload_n eX12_init_62 rfl rfl ?_
  refine y_sipush (v := 400) (by decide) eX12_init_63 ?_
  refine z_newi (N := 400) (q := 206) (q' := 207) (i' := 8) (z' := 1706) (by decide) (by decide) (Nat.le_of_ble_eq_true rfl) eX12_init_66 rfl rfl rfl (by decide) (by decide) (by decide) rfl (M0_0 (by decide)) rfl k_arr_int ?_
  refine z_put (j := 12) (fs' := [.int 0, .ref (ga g 199), .ref (ga g 200), .int 0, .ref (ga g 201), .int 0, .int 0, .int 0, .ref (ga g 202), .ref (ga g 203), .ref (ga g 204), .ref (ga g 205), .ref (ga g 206), .int 0, .int 0, .int 0, .int 0, .int 0, .null, .null, .null, .null, .null, .null, .null, .null, .int 0, .int 0, .int 0, .null, .int 0, .int 0, .int 0, .int 0, .int 0, .int 0, .null, .int 0, .null, .int 0, .null, .null, .null, .int 0, .null, .null, .null, .null, .int 0, .null, .null, .null, .null, .null, .null, .null, .null, .null, .int 0, .int 0, .int 0, .null]) clX12 (by decide) kfX12_31 rfl rfl rfl rfl rfl eX12_init_68 (by decide) (Nat.le_of_ble_eq_true rfl) rfl ?_
  refine y_aload_n eX12_init_71 rfl rfl ?_
  refine y_bipush (v := 118) (by decide) eX12_init_72 ?_
  refine o_neww (N := 118) (q := 207) (q' := 208) (i' := 9) (z' := 1824) (by decide) (by decide) (Nat.le_of_ble_eq_true rfl) eX12_init_74 rfl rfl rfl (by decide) (by decide) (by decide) rfl k_arr_int ?_
  refine y_dup eX12_init_76 rfl ?_
  refine y_iconst (v := 0) (by decide) eX12_init_77 ?_
  refine y_bipush (v := 32) (by decide) eX12_init_78 ?_
  refine o_word (t := 0) (t' := 1) eX12_init_80 (by decide) (by decide) (by decide) (by decide) rfl rfl ?_
  refine y_dup eX12_init_81 rfl ?_
  refine y_iconst (v := 1) (by decide) eX12_init_82 ?_
  refine y_bipush (v := 114) (by decide) eX12_init_83 ?_
  refine o_word (t := 1) (t' := 2) eX12_init_85 (by decide) (by decide) (by decide) (by decide) rfl rfl ?_
  refine y_dup eX12_init_86 rfl ?_
  refine y_iconst (v := 2) (by decide) eX12_init_87 ?_
  refine y_bipush (v := 111) (by decide) eX12_init_88 ?_
  refine o_word (t := 2) (t' := 3) eX12_init_90 (by decide) (by decide) (by decide) (by decide) rfl rfl ?_
  refine y_dup eX12_init_91 rfl ?_
  refine y_iconst (v := 3) (by decide) eX12_init_92 ?_
  refine y_bipush (v := 108) (by decide) eX12_init_93 ?_
  refine o_word (t := 3) (t' := 4) eX12_init_95 (by decide) (by decide) (by decide) (by decide) rfl rfl ?_
  refine y_dup eX12_init_96 rfl ?_
  refine y_iconst (v := 4) (by decide) eX12_init_97 ?_
  refine y_bipush (v := 108) (by decide) eX12_init_98 ?_
  refine o_word (t := 4) (t' := 5) eX12_init_100 (by decide) (by decide) (by decide) (by decide) rfl rfl ?_
  refine y_dup eX12_init_101 rfl ?_
  refine y_iconst (v := 5) (by decide) eX12_init_102 ?_
  refine y_bipush (v := 115) (by decide) eX12_init_103 ?_
  refine o_word (t := 5) (t' := 6) eX12_init_105 (by decide) (by decide) (by decide) (by decide) rfl rfl ?_
  refine y_dup eX12_init_106 rfl ?_
  refine y_bipush (v := 6) (by decide) eX12_init_107 ?_
  refine y_bipush (v := 32) (by decide) eX12_init_109 ?_
  refine o_word (t := 6) (t' := 7) eX12_init_111 (by decide) (by decide) (by decide) (by decide) rfl rfl ?_
  refine y_dup eX12_init_112 rfl ?_
  refine y_bipush (v := 7) (by decide) eX12_init_113 ?_
  refine y_bipush (v := 98) (by decide) eX12_init_115 ?_
  refine o_word (t := 7) (t' := 8) eX12_init_117 (by decide) (by decide) (by decide) (by decide) rfl rfl ?_
  refine y_dup eX12_init_118 rfl ?_
  refine y_bipush (v := 8) (by decide) eX12_init_119 ?_
  refine y_bipush (v := 108) (by decide) eX12_init_121 ?_
  refine o_word (t := 8) (t' := 9) eX12_init_123 (by decide) (by decide) (by decide) (by decide) rfl rfl ?_
  refine y_dup eX12_init_124 rfl ?_
  refine y_bipush (v := 9) (by decide) eX12_init_125 ?_
  refine y_bipush (v := 117) (by decide) eX12_init_127 ?_
  refine o_word (t := 9) (t' := 10) eX12_init_129 (by decide) (by decide) (by decide) (by decide) rfl rfl ?_
  refine y_dup eX12_init_130 rfl ?_
  refine y_bipush (v := 10) (by decide) eX12_init_131 ?_
  refine y_bipush (v := 114) (by decide) eX12_init_133 ?_
  refine o_word (t := 10) (t' := 11) eX12_init_135 (by decide) (by decide) (by decide) (by decide) rfl rfl ?_
  refine y_dup eX12_init_136 rfl ?_
  refine y_bipush (v := 11) (by decide) eX12_init_137 ?_
  refine y_bipush (v := 115) (by decide) eX12_init_139 ?_
  refine o_word (t := 11) (t' := 12) eX12_init_141 (by decide) (by decide) (by decide) (by decide) rfl rfl ?_
  refine y_dup eX12_init_142 rfl ?_
  refine y_bipush (v := 12) (by decide) eX12_init_143 ?_
  refine y_bipush (v := 32) (by decide) eX12_init_145 ?_
  refine o_word (t := 12) (t' := 13) eX12_init_147 (by decide) (by decide) (by decide) (by decide) rfl rfl ?_
  refine y_dup eX12_init_148 rfl ?_
  refine y_bipush (v := 13) (by decide) eX12_init_149 ?_
  refine y_bipush (v := 99) (by decide) eX12_init_151 ?_
  refine o_word (t := 13) (t' := 14) eX12_init_153 (by decide) (by decide) (by decide) (by decide) rfl rfl ?_
  refine y_dup eX12_init_154 rfl ?_
  refine y_bipush (v := 14) (by decide) eX12_init_155 ?_
  refine y_bipush (v := 111) (by decide) eX12_init_157 ?_
  refine o_word (t := 14) (t' := 15) eX12_init_159 (by decide) (by decide) (by decide) (by decide) rfl rfl ?_
  refine y_dup eX12_init_160 rfl ?_
  refine y_bipush (v := 15) (by decide) eX12_init_161 ?_
  refine y_bipush (v := 115) (by decide) eX12_init_163 ?_
  refine o_word (t := 15) (t' := 16) eX12_init_165 (by decide) (by decide) (by decide) (by decide) rfl rfl ?_
  refine y_dup eX12_init_166 rfl ?_
  refine y_bipush (v := 16) (by decide) eX12_init_167 ?_
  refine y_bipush (v := 116) (by decide) eX12_init_169 ?_
  refine o_word (t := 16) (t' := 17) eX12_init_171 (by decide) (by decide) (by decide) (by decide) rfl rfl ?_
  refine y_dup eX12_init_172 rfl ?_
  refine y_bipush (v := 17) (by decide) eX12_init_173 ?_
  refine y_bipush (v := 115) (by decide) eX12_init_175 ?_
  refine o_word (t := 17) (t' := 18) eX12_init_177 (by decide) (by decide) (by decide) (by decide) rfl rfl ?_
  refine y_dup eX12_init_178 rfl ?_
  refine y_bipush (v := 18) (by decide) eX12_init_179 ?_
  refine y_bipush (v := 32) (by decide) eX12_init_181 ?_
  refine o_word (t := 18) (t' := 19) eX12_init_183 (by decide) (by decide) (by decide) (by decide) rfl rfl ?_
  refine y_dup eX12_init_184 rfl ?_
  refine y_bipush (v := 19) (by decide) eX12_init_185 ?_
  refine y_bipush (v := 119) (by decide) eX12_init_187 ?_
  refine o_word (t := 19) (t' := 20) eX12_init_189 (by decide) (by decide) (by decide) (by decide) rfl rfl ?_
  refine y_dup eX12_init_190 rfl ?_
  refine y_bipush (v := 20) (by decide) eX12_init_191 ?_
  refine y_bipush (v := 104) (by decide) eX12_init_193 ?_
  refine o_word (t := 20) (t' := 21) eX12_init_195 (by decide) (by decide) (by decide) (by decide) rfl rfl ?_
  refine y_dup eX12_init_196 rfl ?_
  refine y_bipush (v := 21) (by decide) eX12_init_197 ?_
  refine y_bipush (v := 101) (by decide) eX12_init_199 ?_
  refine o_word (t := 21) (t' := 22) eX12_init_201 (by decide) (by decide) (by decide) (by decide) rfl rfl ?_
  refine y_dup eX12_init_202 rfl ?_
  refine y_bipush (v := 22) (by decide) eX12_init_203 ?_
  refine y_bipush (v := 110) (by decide) eX12_init_205 ?_
  refine o_word (t := 22) (t' := 23) eX12_init_207 (by decide) (by decide) (by decide) (by decide) rfl rfl ?_
  refine y_dup eX12_init_208 rfl ?_
  refine y_bipush (v := 23) (by decide) eX12_init_209 ?_
  refine y_bipush (v := 32) (by decide) eX12_init_211 ?_
  refine o_word (t := 23) (t' := 24) eX12_init_213 (by decide) (by decide) (by decide) (by decide) rfl rfl ?_
  refine y_dup eX12_init_214 rfl ?_
  refine y_bipush (v := 24) (by decide) eX12_init_215 ?_
  refine y_bipush (v := 111) (by decide) eX12_init_217 ?_
  refine o_word (t := 24) (t' := 25) eX12_init_219 (by decide) (by decide) (by decide) (by decide) rfl rfl ?_
  refine y_dup eX12_init_220 rfl ?_
  refine y_bipush (v := 25) (by decide) eX12_init_221 ?_
  refine y_bipush (v := 114) (by decide) eX12_init_223 ?_
  refine o_word (t := 25) (t' := 26) eX12_init_225 (by decide) (by decide) (by decide) (by decide) rfl rfl ?_
  refine y_dup eX12_init_226 rfl ?_
  refine y_bipush (v := 26) (by decide) eX12_init_227 ?_
  refine y_bipush (v := 32) (by decide) eX12_init_229 ?_
  refine o_word (t := 26) (t' := 27) eX12_init_231 (by decide) (by decide) (by decide) (by decide) rfl rfl ?_
  refine y_dup eX12_init_232 rfl ?_
  refine y_bipush (v := 27) (by decide) eX12_init_233 ?_
  refine y_bipush (v := 97) (by decide) eX12_init_235 ?_
  refine o_word (t := 27) (t' := 28) eX12_init_237 (by decide) (by decide) (by decide) (by decide) rfl rfl ?_
  refine y_dup eX12_init_238 rfl ?_
  refine y_bipush (v := 28) (by decide) eX12_init_239 ?_
  refine y_bipush (v := 110) (by decide) eX12_init_241 ?_
  refine o_word (t := 28) (t' := 29) eX12_init_243 (by decide) (by decide) (by decide) (by decide) rfl rfl ?_
  refine y_dup eX12_init_244 rfl ?_
  refine y_bipush (v := 29) (by decide) eX12_init_245 ?_
  refine y_bipush (v := 100) (by decide) eX12_init_247 ?_
  refine o_word (t := 29) (t' := 30) eX12_init_249 (by decide) (by decide) (by decide) (by decide) rfl rfl ?_
  refine y_dup eX12_init_250 rfl ?_
  refine y_bipush (v := 30) (by decide) eX12_init_251 ?_
  refine y_bipush (v := 32) (by decide) eX12_init_253 ?_
  refine o_word (t := 30) (t' := 31) eX12_init_255 (by decide) (by decide) (by decide) (by decide) rfl rfl ?_
  refine y_dup eX12_init_256 rfl ?_
  refine y_bipush (v := 31) (by decide) eX12_init_257 ?_
  refine y_bipush (v := 110) (by decide) eX12_init_259 ?_
  refine o_word (t := 31) (t' := 32) eX12_init_261 (by decide) (by decide) (by decide) (by decide) rfl rfl ?_
  refine y_dup eX12_init_262 rfl ?_
  refine y_bipush (v := 32) (by decide) eX12_init_263 ?_
  refine y_bipush (v := 111) (by decide) eX12_init_265 ?_
  refine o_word (t := 32) (t' := 33) eX12_init_267 (by decide) (by decide) (by decide) (by decide) rfl rfl ?_
  refine y_dup eX12_init_268 rfl ?_
  refine y_bipush (v := 33) (by decide) eX12_init_269 ?_
  refine y_bipush (v := 116) (by decide) eX12_init_271 ?_
  refine o_word (t := 33) (t' := 34) eX12_init_273 (by decide) (by decide) (by decide) (by decide) rfl rfl ?_
  refine y_dup eX12_init_274 rfl ?_
  refine y_bipush (v := 34) (by decide) eX12_init_275 ?_
  refine y_bipush (v := 32) (by decide) eX12_init_277 ?_
  refine o_word (t := 34) (t' := 35) eX12_init_279 (by decide) (by decide) (by decide) (by decide) rfl rfl ?_
  refine y_dup eX12_init_280 rfl ?_
  refine y_bipush (v := 35) (by decide) eX12_init_281 ?_
  refine y_bipush (v := 108) (by decide) eX12_init_283 ?_
  refine o_word (t := 35) (t' := 36) eX12_init_285 (by decide) (by decide) (by decide) (by decide) rfl rfl ?_
  refine y_dup eX12_init_286 rfl ?_
  refine y_bipush (v := 36) (by decide) eX12_init_287 ?_
  refine y_bipush (v := 105) (by decide) eX12_init_289 ?_
  refine o_word (t := 36) (t' := 37) eX12_init_291 (by decide) (by decide) (by decide) (by decide) rfl rfl ?_
  refine y_dup eX12_init_292 rfl ?_
  refine y_bipush (v := 37) (by decide) eX12_init_293 ?_
  refine y_bipush (v := 112) (by decide) eX12_init_295 ?_
  refine o_word (t := 37) (t' := 38) eX12_init_297 (by decide) (by decide) (by decide) (by decide) rfl rfl ?_
  refine y_dup eX12_init_298 rfl ?_
  refine y_bipush (v := 38) (by decide) eX12_init_299 ?_
  refine y_bipush (v := 115) (by decide) eX12_init_301 ?_
  refine o_word (t := 38) (t' := 39) eX12_init_303 (by decide) (by decide) (by decide) (by decide) rfl rfl ?_
  refine y_dup eX12_init_304 rfl ?_
  refine y_bipush (v := 39) (by decide) eX12_init_305 ?_
  refine y_bipush (v := 32) (by decide) eX12_init_307 ?_
  refine o_word (t := 39) (t' := 40) eX12_init_309 (by decide) (by decide) (by decide) (by decide) rfl rfl ?_
  refine y_dup eX12_init_310 rfl ?_
  refine y_bipush (v := 40) (by decide) eX12_init_311 ?_
  refine y_bipush (v := 112) (by decide) eX12_init_313 ?_
  refine o_word (t := 40) (t' := 41) eX12_init_315 (by decide) (by decide) (by decide) (by decide) rfl rfl ?_
  refine y_dup eX12_init_316 rfl ?_
  refine y_bipush (v := 41) (by decide) eX12_init_317 ?_
  refine y_bipush (v := 104) (by decide) eX12_init_319 ?_
  refine o_word (t := 41) (t' := 42) eX12_init_321 (by decide) (by decide) (by decide) (by decide) rfl rfl ?_
  refine y_dup eX12_init_322 rfl ?_
  refine y_bipush (v := 42) (by decide) eX12_init_323 ?_
  refine y_bipush (v := 114) (by decide) eX12_init_325 ?_
  refine o_word (t := 42) (t' := 43) eX12_init_327 (by decide) (by decide) (by decide) (by decide) rfl rfl ?_
  refine y_dup eX12_init_328 rfl ?_
  refine y_bipush (v := 43) (by decide) eX12_init_329 ?_
  refine y_bipush (v := 97) (by decide) eX12_init_331 ?_
  refine o_word (t := 43) (t' := 44) eX12_init_333 (by decide) (by decide) (by decide) (by decide) rfl rfl ?_
  refine y_dup eX12_init_334 rfl ?_
  refine y_bipush (v := 44) (by decide) eX12_init_335 ?_
  refine y_bipush (v := 115) (by decide) eX12_init_337 ?_
  refine o_word (t := 44) (t' := 45) eX12_init_339 (by decide) (by decide) (by decide) (by decide) rfl rfl ?_
  refine y_dup eX12_init_340 rfl ?_
  refine y_bipush (v := 45) (by decide) eX12_init_341 ?_
  refine y_bipush (v := 101) (by decide) eX12_init_343 ?_
  refine o_word (t := 45) (t' := 46) eX12_init_345 (by decide) (by decide) (by decide) (by decide) rfl rfl ?_
  refine y_dup eX12_init_346 rfl ?_
  refine y_bipush (v := 46) (by decide) eX12_init_347 ?_
  refine y_bipush (v := 32) (by decide) eX12_init_349 ?_
  refine o_word (t := 46) (t' := 47) eX12_init_351 (by decide) (by decide) (by decide) (by decide) rfl rfl ?_
  refine y_dup eX12_init_352 rfl ?_
  refine y_bipush (v := 47) (by decide) eX12_init_353 ?_
  refine y_bipush (v := 112) (by decide) eX12_init_355 ?_
  refine o_word (t := 47) (t' := 48) eX12_init_357 (by decide) (by decide) (by decide) (by decide) rfl rfl ?_
  refine y_dup eX12_init_358 rfl ?_
  refine y_bipush (v := 48) (by decide) eX12_init_359 ?_
  refine y_bipush (v := 104) (by decide) eX12_init_361 ?_
  refine o_word (t := 48) (t' := 49) eX12_init_363 (by decide) (by decide) (by decide) (by decide) rfl rfl ?_
  refine y_dup eX12_init_364 rfl ?_
  refine y_bipush (v := 49) (by decide) eX12_init_365 ?_
  refine y_bipush (v := 114) (by decide) eX12_init_367 ?_
  refine o_word (t := 49) (t' := 50) eX12_init_369 (by decide) (by decide) (by decide) (by decide) rfl rfl ?_
  refine y_dup eX12_init_370 rfl ?_
  refine y_bipush (v := 50) (by decide) eX12_init_371 ?_
  refine y_bipush (v := 97) (by decide) eX12_init_373 ?_
  refine o_word (t := 50) (t' := 51) eX12_init_375 (by decide) (by decide) (by decide) (by decide) rfl rfl ?_
  refine y_dup eX12_init_376 rfl ?_
  refine y_bipush (v := 51) (by decide) eX12_init_377 ?_
  refine y_bipush (v := 115) (by decide) eX12_init_379 ?_
  refine o_word (t := 51) (t' := 52) eX12_init_381 (by decide) (by decide) (by decide) (by decide) rfl rfl ?_
  refine y_dup eX12_init_382 rfl ?_
  refine y_bipush (v := 52) (by decide) eX12_init_383 ?_
  refine y_bipush (v := 101) (by decide) eX12_init_385 ?_
  refine o_word (t := 52) (t' := 53) eX12_init_387 (by decide) (by decide) (by decide) (by decide) rfl rfl ?_
  refine y_dup eX12_init_388 rfl ?_
  refine y_bipush (v := 53) (by decide) eX12_init_389 ?_
  refine y_bipush (v := 115) (by decide) eX12_init_391 ?_
  refine o_word (t := 53) (t' := 54) eX12_init_393 (by decide) (by decide) (by decide) (by decide) rfl rfl ?_
  refine y_dup eX12_init_394 rfl ?_
  refine y_bipush (v := 54) (by decide) eX12_init_395 ?_
  refine y_bipush (v := 32) (by decide) eX12_init_397 ?_
  refine o_word (t := 54) (t' := 55) eX12_init_399 (by decide) (by decide) (by decide) (by decide) rfl rfl ?_
  refine y_dup eX12_init_400 rfl ?_
  refine y_bipush (v := 55) (by decide) eX12_init_401 ?_
  refine y_bipush (v := 99) (by decide) eX12_init_403 ?_
  refine o_word (t := 55) (t' := 56) eX12_init_405 (by decide) (by decide) (by decide) (by decide) rfl rfl ?_
  refine y_dup eX12_init_406 rfl ?_
  refine y_bipush (v := 56) (by decide) eX12_init_407 ?_
  refine y_bipush (v := 108) (by decide) eX12_init_409 ?_
  refine o_word (t := 56) (t' := 57) eX12_init_411 (by decide) (by decide) (by decide) (by decide) rfl rfl ?_
  refine y_dup eX12_init_412 rfl ?_
  refine y_bipush (v := 57) (by decide) eX12_init_413 ?_
  refine y_bipush (v := 101) (by decide) eX12_init_415 ?_
  refine o_word (t := 57) (t' := 58) eX12_init_417 (by decide) (by decide) (by decide) (by decide) rfl rfl ?_
  refine y_dup eX12_init_418 rfl ?_
  refine y_bipush (v := 58) (by decide) eX12_init_419 ?_
  refine y_bipush (v := 97) (by decide) eX12_init_421 ?_
  refine o_word (t := 58) (t' := 59) eX12_init_423 (by decide) (by decide) (by decide) (by decide) rfl rfl ?_
  refine y_dup eX12_init_424 rfl ?_
  refine y_bipush (v := 59) (by decide) eX12_init_425 ?_
  refine y_bipush (v := 114) (by decide) eX12_init_427 ?_
  refine o_word (t := 59) (t' := 60) eX12_init_429 (by decide) (by decide) (by decide) (by decide) rfl rfl ?_
  refine y_dup eX12_init_430 rfl ?_
  refine y_bipush (v := 60) (by decide) eX12_init_431 ?_
  refine y_bipush (v := 32) (by decide) eX12_init_433 ?_
  refine o_word (t := 60) (t' := 61) eX12_init_435 (by decide) (by decide) (by decide) (by decide) rfl rfl ?_
  refine y_dup eX12_init_436 rfl ?_
  refine y_bipush (v := 61) (by decide) eX12_init_437 ?_
  refine y_bipush (v := 97) (by decide) eX12_init_439 ?_
  refine o_word (t := 61) (t' := 62) eX12_init_441 (by decide) (by decide) (by decide) (by decide) rfl rfl ?_
  refine y_dup eX12_init_442 rfl ?_
  refine y_bipush (v := 62) (by decide) eX12_init_443 ?_
  refine y_bipush (v := 108) (by decide) eX12_init_445 ?_
  refine o_word (t := 62) (t' := 63) eX12_init_447 (by decide) (by decide) (by decide) (by decide) rfl rfl ?_
  refine y_dup eX12_init_448 rfl ?_
  refine y_bipush (v := 63) (by decide) eX12_init_449 ?_
  refine y_bipush (v := 101) (by decide) eX12_init_451 ?_
  refine o_word (t := 63) (t' := 64) eX12_init_453 (by decide) (by decide) (by decide) (by decide) rfl rfl ?_
  refine y_dup eX12_init_454 rfl ?_
  refine y_bipush (v := 64) (by decide) eX12_init_455 ?_
  refine y_bipush (v := 32) (by decide) eX12_init_457 ?_
  refine o_word (t := 64) (t' := 65) eX12_init_459 (by decide) (by decide) (by decide) (by decide) rfl rfl ?_
  refine y_dup eX12_init_460 rfl ?_
  refine y_bipush (v := 65) (by decide) eX12_init_461 ?_
  refine y_bipush (v := 110) (by decide) eX12_init_463 ?_
  refine o_word (t := 65) (t' := 66) eX12_init_465 (by decide) (by decide) (by decide) (by decide) rfl rfl ?_
  refine y_dup eX12_init_466 rfl ?_
  refine y_bipush (v := 66) (by decide) eX12_init_467 ?_
  refine y_bipush (v := 111) (by decide) eX12_init_469 ?_
  refine o_word (t := 66) (t' := 67) eX12_init_471 (by decide) (by decide) (by decide) (by decide) rfl rfl ?_
  refine y_dup eX12_init_472 rfl ?_
  refine y_bipush (v := 67) (by decide) eX12_init_473 ?_
  refine y_bipush (v := 105) (by decide) eX12_init_475 ?_
  refine o_word (t := 67) (t' := 68) eX12_init_477 (by decide) (by decide) (by decide) (by decide) rfl rfl ?_
  refine y_dup eX12_init_478 rfl ?_
  refine y_bipush (v := 68) (by decide) eX12_init_479 ?_
  refine y_bipush (v := 115) (by decide) eX12_init_481 ?_
  refine o_word (t := 68) (t' := 69) eX12_init_483 (by decide) (by decide) (by decide) (by decide) rfl rfl ?_
  refine y_dup eX12_init_484 rfl ?_
  refine y_bipush (v := 69) (by decide) eX12_init_485 ?_
  refine y_bipush (v := 101) (by decide) eX12_init_487 ?_
  refine o_word (t := 69) (t' := 70) eX12_init_489 (by decide) (by decide) (by decide) (by decide) rfl rfl ?_
  refine y_dup eX12_init_490 rfl ?_
  refine y_bipush (v := 70) (by decide) eX12_init_491 ?_
  refine y_bipush (v := 32) (by decide) eX12_init_493 ?_
  refine o_word (t := 70) (t' := 71) eX12_init_495 (by decide) (by decide) (by decide) (by decide) rfl rfl ?_
  refine y_dup eX12_init_496 rfl ?_
  refine y_bipush (v := 71) (by decide) eX12_init_497 ?_
  refine y_bipush (v := 104) (by decide) eX12_init_499 ?_
  refine o_word (t := 71) (t' := 72) eX12_init_501 (by decide) (by decide) (by decide) (by decide) rfl rfl ?_
  refine y_dup eX12_init_502 rfl ?_
  refine y_bipush (v := 72) (by decide) eX12_init_503 ?_
  refine y_bipush (v := 101) (by decide) eX12_init_505 ?_
  refine o_word (t := 72) (t' := 73) eX12_init_507 (by decide) (by decide) (by decide) (by decide) rfl rfl ?_
  refine y_dup eX12_init_508 rfl ?_
  refine y_bipush (v := 73) (by decide) eX12_init_509 ?_
  refine y_bipush (v := 97) (by decide) eX12_init_511 ?_
  refine o_word (t := 73) (t' := 74) eX12_init_513 (by decide) (by decide) (by decide) (by decide) rfl rfl ?_
  refine y_dup eX12_init_514 rfl ?_
  refine y_bipush (v := 74) (by decide) eX12_init_515 ?_
  refine y_bipush (v := 114) (by decide) eX12_init_517 ?_
  refine o_word (t := 74) (t' := 75) eX12_init_519 (by decide) (by decide) (by decide) (by decide) rfl rfl ?_
  refine y_dup eX12_init_520 rfl ?_
  refine y_bipush (v := 75) (by decide) eX12_init_521 ?_
  refine y_bipush (v := 115) (by decide) eX12_init_523 ?_
  refine o_word (t := 75) (t' := 76) eX12_init_525 (by decide) (by decide) (by decide) (by decide) rfl rfl ?_
  refine y_dup eX12_init_526 rfl ?_
  refine y_bipush (v := 76) (by decide) eX12_init_527 ?_
  refine y_bipush (v := 32) (by decide) eX12_init_529 ?_
  refine o_word (t := 76) (t' := 77) eX12_init_531 (by decide) (by decide) (by decide) (by decide) rfl rfl ?_
  refine y_dup eX12_init_532 rfl ?_
  refine y_bipush (v := 77) (by decide) eX12_init_533 ?_
  refine y_bipush (v := 111) (by decide) eX12_init_535 ?_
  refine o_word (t := 77) (t' := 78) eX12_init_537 (by decide) (by decide) (by decide) (by decide) rfl rfl ?_
  refine y_dup eX12_init_538 rfl ?_
  refine y_bipush (v := 78) (by decide) eX12_init_539 ?_
  refine y_bipush (v := 119) (by decide) eX12_init_541 ?_
  refine o_word (t := 78) (t' := 79) eX12_init_543 (by decide) (by decide) (by decide) (by decide) rfl rfl ?_
  refine y_dup eX12_init_544 rfl ?_
  refine y_bipush (v := 79) (by decide) eX12_init_545 ?_
  refine y_bipush (v := 101) (by decide) eX12_init_547 ?_
  refine o_word (t := 79) (t' := 80) eX12_init_549 (by decide) (by decide) (by decide) (by decide) rfl rfl ?_
  refine y_dup eX12_init_550 rfl ?_
  refine y_bipush (v := 80) (by decide) eX12_init_551 ?_
  refine y_bipush (v := 115) (by decide) eX12_init_553 ?_
  refine o_word (t := 80) (t' := 81) eX12_init_555 (by decide) (by decide) (by decide) (by decide) rfl rfl ?_
  refine y_dup eX12_init_556 rfl ?_
  refine y_bipush (v := 81) (by decide) eX12_init_557 ?_
  refine y_bipush (v := 32) (by decide) eX12_init_559 ?_
  refine o_word (t := 81) (t' := 82) eX12_init_561 (by decide) (by decide) (by decide) (by decide) rfl rfl ?_
  refine y_dup eX12_init_562 rfl ?_
  refine y_bipush (v := 82) (by decide) eX12_init_563 ?_
  refine y_bipush (v := 104) (by decide) eX12_init_565 ?_
  refine o_word (t := 82) (t' := 83) eX12_init_567 (by decide) (by decide) (by decide) (by decide) rfl rfl ?_
  refine y_dup eX12_init_568 rfl ?_
  refine y_bipush (v := 83) (by decide) eX12_init_569 ?_
  refine y_bipush (v := 101) (by decide) eX12_init_571 ?_
  refine o_word (t := 83) (t' := 84) eX12_init_573 (by decide) (by decide) (by decide) (by decide) rfl rfl ?_
  refine y_dup eX12_init_574 rfl ?_
  refine y_bipush (v := 84) (by decide) eX12_init_575 ?_
  refine y_bipush (v := 108) (by decide) eX12_init_577 ?_
  refine o_word (t := 84) (t' := 85) eX12_init_579 (by decide) (by decide) (by decide) (by decide) rfl rfl ?_
  refine y_dup eX12_init_580 rfl ?_
  refine y_bipush (v := 85) (by decide) eX12_init_581 ?_
  refine y_bipush (v := 100) (by decide) eX12_init_583 ?_
  refine o_word (t := 85) (t' := 86) eX12_init_585 (by decide) (by decide) (by decide) (by decide) rfl rfl ?_
  refine y_dup eX12_init_586 rfl ?_
  refine y_bipush (v := 86) (by decide) eX12_init_587 ?_
  refine y_bipush (v := 32) (by decide) eX12_init_589 ?_
  refine o_word (t := 86) (t' := 87) eX12_init_591 (by decide) (by decide) (by decide) (by decide) rfl rfl ?_
  refine y_dup eX12_init_592 rfl ?_
  refine y_bipush (v := 87) (by decide) eX12_init_593 ?_
  refine y_bipush (v := 100) (by decide) eX12_init_595 ?_
  refine o_word (t := 87) (t' := 88) eX12_init_597 (by decide) (by decide) (by decide) (by decide) rfl rfl ?_
  refine y_dup eX12_init_598 rfl ?_
  refine y_bipush (v := 88) (by decide) eX12_init_599 ?_
  refine y_bipush (v := 97) (by decide) eX12_init_601 ?_
  refine o_word (t := 88) (t' := 89) eX12_init_603 (by decide) (by decide) (by decide) (by decide) rfl rfl ?_
  refine y_dup eX12_init_604 rfl ?_
  refine y_bipush (v := 89) (by decide) eX12_init_605 ?_
  refine y_bipush (v := 121) (by decide) eX12_init_607 ?_
  refine o_word (t := 89) (t' := 90) eX12_init_609 (by decide) (by decide) (by decide) (by decide) rfl rfl ?_
  refine y_dup eX12_init_610 rfl ?_
  refine y_bipush (v := 90) (by decide) eX12_init_611 ?_
  refine y_bipush (v := 32) (by decide) eX12_init_613 ?_
  refine o_word (t := 90) (t' := 91) eX12_init_615 (by decide) (by decide) (by decide) (by decide) rfl rfl ?_
  refine y_dup eX12_init_616 rfl ?_
  refine y_bipush (v := 91) (by decide) eX12_init_617 ?_
  refine y_bipush (v := 111) (by decide) eX12_init_619 ?_
  refine o_word (t := 91) (t' := 92) eX12_init_621 (by decide) (by decide) (by decide) (by decide) rfl rfl ?_
  refine y_dup eX12_init_622 rfl ?_
  refine y_bipush (v := 92) (by decide) eX12_init_623 ?_
  refine y_bipush (v := 110) (by decide) eX12_init_625 ?_
  refine o_word (t := 92) (t' := 93) eX12_init_627 (by decide) (by decide) (by decide) (by decide) rfl rfl ?_
  refine y_dup eX12_init_628 rfl ?_
  refine y_bipush (v := 93) (by decide) eX12_init_629 ?_
  refine y_bipush (v := 32) (by decide) eX12_init_631 ?_
  refine o_word (t := 93) (t' := 94) eX12_init_633 (by decide) (by decide) (by decide) (by decide) rfl rfl ?_
  refine y_dup eX12_init_634 rfl ?_
  refine y_bipush (v := 94) (by decide) eX12_init_635 ?_
  refine y_bipush (v := 98) (by decide) eX12_init_637 ?_
  refine o_word (t := 94) (t' := 95) eX12_init_639 (by decide) (by decide) (by decide) (by decide) rfl rfl ?_
  refine y_dup eX12_init_640 rfl ?_
  refine y_bipush (v := 95) (by decide) eX12_init_641 ?_
  refine y_bipush (v := 97) (by decide) eX12_init_643 ?_
  refine o_word (t := 95) (t' := 96) eX12_init_645 (by decide) (by decide) (by decide) (by decide) rfl rfl ?_
  refine y_dup eX12_init_646 rfl ?_
  refine y_bipush (v := 96) (by decide) eX12_init_647 ?_
  refine y_bipush (v := 114) (by decide) eX12_init_649 ?_
  refine o_word (t := 96) (t' := 97) eX12_init_651 (by decide) (by decide) (by decide) (by decide) rfl rfl ?_
  refine y_dup eX12_init_652 rfl ?_
  refine y_bipush (v := 97) (by decide) eX12_init_653 ?_
  refine y_bipush (v := 103) (by decide) eX12_init_655 ?_
  refine o_word (t := 97) (t' := 98) eX12_init_657 (by decide) (by decide) (by decide) (by decide) rfl rfl ?_
  refine y_dup eX12_init_658 rfl ?_
  refine y_bipush (v := 98) (by decide) eX12_init_659 ?_
  refine y_bipush (v := 97) (by decide) eX12_init_661 ?_
  refine o_word (t := 98) (t' := 99) eX12_init_663 (by decide) (by decide) (by decide) (by decide) rfl rfl ?_
  refine y_dup eX12_init_664 rfl ?_
  refine y_bipush (v := 99) (by decide) eX12_init_665 ?_
  refine y_bipush (v := 105) (by decide) eX12_init_667 ?_
  refine o_word (t := 99) (t' := 100) eX12_init_669 (by decide) (by decide) (by decide) (by decide) rfl rfl ?_
  refine y_dup eX12_init_670 rfl ?_
  refine y_bipush (v := 100) (by decide) eX12_init_671 ?_
  refine y_bipush (v := 110) (by decide) eX12_init_673 ?_
  refine o_word (t := 100) (t' := 101) eX12_init_675 (by decide) (by decide) (by decide) (by decide) rfl rfl ?_
  refine y_dup eX12_init_676 rfl ?_
  refine y_bipush (v := 101) (by decide) eX12_init_677 ?_
  refine y_bipush (v := 32) (by decide) eX12_init_679 ?_
  refine o_word (t := 101) (t' := 102) eX12_init_681 (by decide) (by decide) (by decide) (by decide) rfl rfl ?_
  refine y_dup eX12_init_682 rfl ?_
  refine y_bipush (v := 102) (by decide) eX12_init_683 ?_
  refine y_bipush (v := 102) (by decide) eX12_init_685 ?_
  refine o_word (t := 102) (t' := 103) eX12_init_687 (by decide) (by decide) (by decide) (by decide) rfl rfl ?_
  refine y_dup eX12_init_688 rfl ?_
  refine y_bipush (v := 103) (by decide) eX12_init_689 ?_
  refine y_bipush (v := 105) (by decide) eX12_init_691 ?_
  refine o_word (t := 103) (t' := 104) eX12_init_693 (by decide) (by decide) (by decide) (by decide) rfl rfl ?_
  refine y_dup eX12_init_694 rfl ?_
  refine y_bipush (v := 104) (by decide) eX12_init_695 ?_
  refine y_bipush (v := 114) (by decide) eX12_init_697 ?_
  refine o_word (t := 104) (t' := 105) eX12_init_699 (by decide) (by decide) (by decide) (by decide) rfl rfl ?_
  refine y_dup eX12_init_700 rfl ?_
  refine y_bipush (v := 105) (by decide) eX12_init_701 ?_
  refine y_bipush (v := 115) (by decide) eX12_init_703 ?_
  refine o_word (t := 105) (t' := 106) eX12_init_705 (by decide) (by decide) (by decide) (by decide) rfl rfl ?_
  refine y_dup eX12_init_706 rfl ?_
  refine y_bipush (v := 106) (by decide) eX12_init_707 ?_
  refine y_bipush (v := 116) (by decide) eX12_init_709 ?_
  refine o_word (t := 106) (t' := 107) eX12_init_711 (by decide) (by decide) (by decide) (by decide) rfl rfl ?_
  refine y_dup eX12_init_712 rfl ?_
  refine y_bipush (v := 107) (by decide) eX12_init_713 ?_
  refine y_bipush (v := 32) (by decide) eX12_init_715 ?_
  refine o_word (t := 107) (t' := 108) eX12_init_717 (by decide) (by decide) (by decide) (by decide) rfl rfl ?_
  refine y_dup eX12_init_718 rfl ?_
  refine y_bipush (v := 108) (by decide) eX12_init_719 ?_
  refine y_bipush (v := 115) (by decide) eX12_init_721 ?_
  refine o_word (t := 108) (t' := 109) eX12_init_723 (by decide) (by decide) (by decide) (by decide) rfl rfl ?_
  refine y_dup eX12_init_724 rfl ?_
  refine y_bipush (v := 109) (by decide) eX12_init_725 ?_
  refine y_bipush (v := 101) (by decide) eX12_init_727 ?_
  refine o_word (t := 109) (t' := 110) eX12_init_729 (by decide) (by decide) (by decide) (by decide) rfl rfl ?_
  refine y_dup eX12_init_730 rfl ?_
  refine y_bipush (v := 110) (by decide) eX12_init_731 ?_
  refine y_bipush (v := 99) (by decide) eX12_init_733 ?_
  refine o_word (t := 110) (t' := 111) eX12_init_735 (by decide) (by decide) (by decide) (by decide) rfl rfl ?_
  refine y_dup eX12_init_736 rfl ?_
  refine y_bipush (v := 111) (by decide) eX12_init_737 ?_
  refine y_bipush (v := 111) (by decide) eX12_init_739 ?_
  refine o_word (t := 111) (t' := 112) eX12_init_741 (by decide) (by decide) (by decide) (by decide) rfl rfl ?_
  refine y_dup eX12_init_742 rfl ?_
  refine y_bipush (v := 112) (by decide) eX12_init_743 ?_
  refine y_bipush (v := 110) (by decide) eX12_init_745 ?_
  refine o_word (t := 112) (t' := 113) eX12_init_747 (by decide) (by decide) (by decide) (by decide) rfl rfl ?_
  refine y_dup eX12_init_748 rfl ?_
  refine y_bipush (v := 113) (by decide) eX12_init_749 ?_
  refine y_bipush (v := 100) (by decide) eX12_init_751 ?_
  refine o_word (t := 113) (t' := 114) eX12_init_753 (by decide) (by decide) (by decide) (by decide) rfl rfl ?_
  refine y_dup eX12_init_754 rfl ?_
  refine y_bipush (v := 114) (by decide) eX12_init_755 ?_
  refine y_bipush (v := 32) (by decide) eX12_init_757 ?_
  refine o_word (t := 114) (t' := 115) eX12_init_759 (by decide) (by decide) (by decide) (by decide) rfl rfl ?_
  refine y_dup eX12_init_760 rfl ?_
  refine y_bipush (v := 115) (by decide) eX12_init_761 ?_
  refine y_bipush (v := 98) (by decide) eX12_init_763 ?_
  refine o_word (t := 115) (t' := 116) eX12_init_765 (by decide) (by decide) (by decide) (by decide) rfl rfl ?_
  refine y_dup eX12_init_766 rfl ?_
  refine y_bipush (v := 116) (by decide) eX12_init_767 ?_
  refine y_bipush (v := 121) (by decide) eX12_init_769 ?_
  refine o_word (t := 116) (t' := 117) eX12_init_771 (by decide) (by decide) (by decide) (by decide) rfl rfl ?_
  refine y_dup eX12_init_772 rfl ?_
  refine y_bipush (v := 117) (by decide) eX12_init_773 ?_
  refine y_bipush (v := 32) (by decide) eX12_init_775 ?_
  refine o_word (t := 117) (t' := 118) eX12_init_777 (by decide) (by decide) (by decide) (by decide) rfl rfl ?_
  refine o_fin (ent_arr g M0 rfl (by decide) (by decide)) (by rw [vp_cell_i, vp_cell_i]; exact arrV_ext (fun j hj => by show Value.int (if j < 118 then wordsL.getD j 0 else 0) = Value.int (if 207 = 207 then wordsL.getD j 0 else _); rw [if_pos hj, if_pos rfl])) (by decide) (by decide) rfl ?_
  refine z_put (j := 18) (fs' := [.int 0, .ref (ga g 199), .ref (ga g 200), .int 0, .ref (ga g 201), .int 0, .int 0, .int 0, .ref (ga g 202), .ref (ga g 203), .ref (ga g 204), .ref (ga g 205), .ref (ga g 206), .int 0, .int 0, .int 0, .int 0, .int 0, .ref (ga g 207), .null, .null, .null, .null, .null, .null, .null, .int 0, .int 0, .int 0, .null, .int 0, .int 0, .int 0, .int 0, .int 0, .int 0, .null, .int 0, .null, .int 0, .null, .null, .null, .int 0, .null, .null, .null, .null, .int 0, .null, .null, .null, .null, .null, .null, .null, .null, .null, .int 0, .int 0, .int 0, .null]) clX12 (by decide) kfX12_34 rfl rfl rfl rfl rfl eX12_init_778 (by decide) (Nat.le_of_ble_eq_true rfl) rfl ?_
  refine y_aload_n eX12_init_781 rfl rfl ?_
  refine y_iconst (v := 2) (by decide) eX12_init_782 ?_
  refine z_newi (N := 2) (q := 208) (q' := 209) (i' := 10) (z' := 1826) (by decide) (by decide) (Nat.le_of_ble_eq_true rfl) eX12_init_783 rfl rfl rfl (by decide) (by decide) (by decide) rfl (M0_0 (by decide)) rfl k_arr_int ?_
  refine z_put (j := 19) (fs' := [.int 0, .ref (ga g 199), .ref (ga g 200), .int 0, .ref (ga g 201), .int 0, .int 0, .int 0, .ref (ga g 202), .ref (ga g 203), .ref (ga g 204), .ref (ga g 205), .ref (ga g 206), .int 0, .int 0, .int 0, .int 0, .int 0, .ref (ga g 207), .ref (ga g 208), .null, .null, .null, .null, .null, .null, .int 0, .int 0, .int 0, .null, .int 0, .int 0, .int 0, .int 0, .int 0, .int 0, .null, .int 0, .null, .int 0, .null, .null, .null, .int 0, .null, .null, .null, .null, .int 0, .null, .null, .null, .null, .null, .null, .null, .null, .null, .int 0, .int 0, .int 0, .null]) clX12 (by decide) kfX12_37 rfl rfl rfl rfl rfl eX12_init_785 (by decide) (Nat.le_of_ble_eq_true rfl) rfl ?_
  refine y_aload_n eX12_init_788 rfl rfl ?_
  refine y_bipush (v := 48) (by decide) eX12_init_789 ?_
  refine z_newi (N := 48) (q := 209) (q' := 210) (i' := 11) (z' := 1874) (by decide) (by decide) (Nat.le_of_ble_eq_true rfl) eX12_init_791 rfl rfl rfl (by decide) (by decide) (by decide) rfl (M0_0 (by decide)) rfl k_arr_int ?_
  refine z_put (j := 20) (fs' := [.int 0, .ref (ga g 199), .ref (ga g 200), .int 0, .ref (ga g 201), .int 0, .int 0, .int 0, .ref (ga g 202), .ref (ga g 203), .ref (ga g 204), .ref (ga g 205), .ref (ga g 206), .int 0, .int 0, .int 0, .int 0, .int 0, .ref (ga g 207), .ref (ga g 208), .ref (ga g 209), .null, .null, .null, .null, .null, .int 0, .int 0, .int 0, .null, .int 0, .int 0, .int 0, .int 0, .int 0, .int 0, .null, .int 0, .null, .int 0, .null, .null, .null, .int 0, .null, .null, .null, .null, .int 0, .null, .null, .null, .null, .null, .null, .null, .null, .null, .int 0, .int 0, .int 0, .null]) clX12 (by decide) kfX12_40 rfl rfl rfl rfl rfl eX12_init_793 (by decide) (Nat.le_of_ble_eq_true rfl) rfl ?_
  refine y_aload_n eX12_init_796 rfl rfl ?_
  refine y_bipush (v := 48) (by decide) eX12_init_797 ?_
  refine z_newi (N := 48) (q := 210) (q' := 211) (i' := 12) (z' := 1922) (by decide) (by decide) (Nat.le_of_ble_eq_true rfl) eX12_init_799 rfl rfl rfl (by decide) (by decide) (by decide) rfl (M0_0 (by decide)) rfl k_arr_int ?_
  refine z_put (j := 21) (fs' := [.int 0, .ref (ga g 199), .ref (ga g 200), .int 0, .ref (ga g 201), .int 0, .int 0, .int 0, .ref (ga g 202), .ref (ga g 203), .ref (ga g 204), .ref (ga g 205), .ref (ga g 206), .int 0, .int 0, .int 0, .int 0, .int 0, .ref (ga g 207), .ref (ga g 208), .ref (ga g 209), .ref (ga g 210), .null, .null, .null, .null, .int 0, .int 0, .int 0, .null, .int 0, .int 0, .int 0, .int 0, .int 0, .int 0, .null, .int 0, .null, .int 0, .null, .null, .null, .int 0, .null, .null, .null, .null, .int 0, .null, .null, .null, .null, .null, .null, .null, .null, .null, .int 0, .int 0, .int 0, .null]) clX12 (by decide) kfX12_43 rfl rfl rfl rfl rfl eX12_init_801 (by decide) (Nat.le_of_ble_eq_true rfl) rfl ?_
  refine y_aload_n eX12_init_804 rfl rfl ?_
  refine y_bipush (v := 48) (by decide) eX12_init_805 ?_
  refine z_newi (N := 48) (q := 211) (q' := 212) (i' := 13) (z' := 1970) (by decide) (by decide) (Nat.le_of_ble_eq_true rfl) eX12_init_807 rfl rfl rfl (by decide) (by decide) (by decide) rfl (M0_0 (by decide)) rfl k_arr_int ?_
  refine z_put (j := 22) (fs' := [.int 0, .ref (ga g 199), .ref (ga g 200), .int 0, .ref (ga g 201), .int 0, .int 0, .int 0, .ref (ga g 202), .ref (ga g 203), .ref (ga g 204), .ref (ga g 205), .ref (ga g 206), .int 0, .int 0, .int 0, .int 0, .int 0, .ref (ga g 207), .ref (ga g 208), .ref (ga g 209), .ref (ga g 210), .ref (ga g 211), .null, .null, .null, .int 0, .int 0, .int 0, .null, .int 0, .int 0, .int 0, .int 0, .int 0, .int 0, .null, .int 0, .null, .int 0, .null, .null, .null, .int 0, .null, .null, .null, .null, .int 0, .null, .null, .null, .null, .null, .null, .null, .null, .null, .int 0, .int 0, .int 0, .null]) clX12 (by decide) kfX12_46 rfl rfl rfl rfl rfl eX12_init_809 (by decide) (Nat.le_of_ble_eq_true rfl) rfl ?_
  refine y_aload_n eX12_init_812 rfl rfl ?_
  refine y_bipush (v := 48) (by decide) eX12_init_813 ?_
  refine z_newi (N := 48) (q := 212) (q' := 213) (i' := 14) (z' := 2018) (by decide) (by decide) (Nat.le_of_ble_eq_true rfl) eX12_init_815 rfl rfl rfl (by decide) (by decide) (by decide) rfl (M0_0 (by decide)) rfl k_arr_int ?_
  refine z_put (j := 23) (fs' := [.int 0, .ref (ga g 199), .ref (ga g 200), .int 0, .ref (ga g 201), .int 0, .int 0, .int 0, .ref (ga g 202), .ref (ga g 203), .ref (ga g 204), .ref (ga g 205), .ref (ga g 206), .int 0, .int 0, .int 0, .int 0, .int 0, .ref (ga g 207), .ref (ga g 208), .ref (ga g 209), .ref (ga g 210), .ref (ga g 211), .ref (ga g 212), .null, .null, .int 0, .int 0, .int 0, .null, .int 0, .int 0, .int 0, .int 0, .int 0, .int 0, .null, .int 0, .null, .int 0, .null, .null, .null, .int 0, .null, .null, .null, .null, .int 0, .null, .null, .null, .null, .null, .null, .null, .null, .null, .int 0, .int 0, .int 0, .null]) clX12 (by decide) kfX12_49 rfl rfl rfl rfl rfl eX12_init_817 (by decide) (Nat.le_of_ble_eq_true rfl) rfl ?_
  refine y_aload_n eX12_init_820 rfl rfl ?_
  refine y_sipush (v := 1200) (by decide) eX12_init_821 ?_
  refine z_newi (N := 1200) (q := 213) (q' := 214) (i' := 15) (z' := 3218) (by decide) (by decide) (Nat.le_of_ble_eq_true rfl) eX12_init_824 rfl rfl rfl (by decide) (by decide) (by decide) rfl (M0_0 (by decide)) rfl k_arr_int ?_
  refine z_put (j := 24) (fs' := [.int 0, .ref (ga g 199), .ref (ga g 200), .int 0, .ref (ga g 201), .int 0, .int 0, .int 0, .ref (ga g 202), .ref (ga g 203), .ref (ga g 204), .ref (ga g 205), .ref (ga g 206), .int 0, .int 0, .int 0, .int 0, .int 0, .ref (ga g 207), .ref (ga g 208), .ref (ga g 209), .ref (ga g 210), .ref (ga g 211), .ref (ga g 212), .ref (ga g 213), .null, .int 0, .int 0, .int 0, .null, .int 0, .int 0, .int 0, .int 0, .int 0, .int 0, .null, .int 0, .null, .int 0, .null, .null, .null, .int 0, .null, .null, .null, .null, .int 0, .null, .null, .null, .null, .null, .null, .null, .null, .null, .int 0, .int 0, .int 0, .null]) clX12 (by decide) kfX12_52 rfl rfl rfl rfl rfl eX12_init_826 (by decide) (Nat.le_of_ble_eq_true rfl) rfl ?_
  refine y_aload_n eX12_init_829 rfl rfl ?_
  refine y_sipush (v := 1200) (by decide) eX12_init_830 ?_
  refine z_newi (N := 1200) (q := 214) (q' := 215) (i' := 16) (z' := 4418) (by decide) (by decide) (Nat.le_of_ble_eq_true rfl) eX12_init_833 rfl rfl rfl (by decide) (by decide) (by decide) rfl (M0_0 (by decide)) rfl k_arr_int ?_
  refine z_put (j := 25) (fs' := [.int 0, .ref (ga g 199), .ref (ga g 200), .int 0, .ref (ga g 201), .int 0, .int 0, .int 0, .ref (ga g 202), .ref (ga g 203), .ref (ga g 204), .ref (ga g 205), .ref (ga g 206), .int 0, .int 0, .int 0, .int 0, .int 0, .ref (ga g 207), .ref (ga g 208), .ref (ga g 209), .ref (ga g 210), .ref (ga g 211), .ref (ga g 212), .ref (ga g 213), .ref (ga g 214), .int 0, .int 0, .int 0, .null, .int 0, .int 0, .int 0, .int 0, .int 0, .int 0, .null, .int 0, .null, .int 0, .null, .null, .null, .int 0, .null, .null, .null, .null, .int 0, .null, .null, .null, .null, .null, .null, .null, .null, .null, .int 0, .int 0, .int 0, .null]) clX12 (by decide) kfX12_55 rfl rfl rfl rfl rfl eX12_init_835 (by decide) (Nat.le_of_ble_eq_true rfl) rfl ?_
  refine y_aload_n eX12_init_838 rfl rfl ?_
  refine y_bipush (v := 40) (by decide) eX12_init_839 ?_
  refine z_newi (N := 40) (q := 215) (q' := 216) (i' := 17) (z' := 4458) (by decide) (by decide) (Nat.le_of_ble_eq_true rfl) eX12_init_841 rfl rfl rfl (by decide) (by decide) (by decide) rfl (M0_0 (by decide)) rfl k_arr_int ?_
  refine z_put (j := 29) (fs' := [.int 0, .ref (ga g 199), .ref (ga g 200), .int 0, .ref (ga g 201), .int 0, .int 0, .int 0, .ref (ga g 202), .ref (ga g 203), .ref (ga g 204), .ref (ga g 205), .ref (ga g 206), .int 0, .int 0, .int 0, .int 0, .int 0, .ref (ga g 207), .ref (ga g 208), .ref (ga g 209), .ref (ga g 210), .ref (ga g 211), .ref (ga g 212), .ref (ga g 213), .ref (ga g 214), .int 0, .int 0, .int 0, .ref (ga g 215), .int 0, .int 0, .int 0, .int 0, .int 0, .int 0, .null, .int 0, .null, .int 0, .null, .null, .null, .int 0, .null, .null, .null, .null, .int 0, .null, .null, .null, .null, .null, .null, .null, .null, .null, .int 0, .int 0, .int 0, .null]) clX12 (by decide) kfX12_58 rfl rfl rfl rfl rfl eX12_init_843 (by decide) (Nat.le_of_ble_eq_true rfl) rfl ?_
  refine y_aload_n eX12_init_846 rfl rfl ?_
  refine y_iconst (v := (-1)) (by decide) eX12_init_847 ?_
  refine z_put (j := 34) (fs' := [.int 0, .ref (ga g 199), .ref (ga g 200), .int 0, .ref (ga g 201), .int 0, .int 0, .int 0, .ref (ga g 202), .ref (ga g 203), .ref (ga g 204), .ref (ga g 205), .ref (ga g 206), .int 0, .int 0, .int 0, .int 0, .int 0, .ref (ga g 207), .ref (ga g 208), .ref (ga g 209), .ref (ga g 210), .ref (ga g 211), .ref (ga g 212), .ref (ga g 213), .ref (ga g 214), .int 0, .int 0, .int 0, .ref (ga g 215), .int 0, .int 0, .int 0, .int 0, .int (-1), .int 0, .null, .int 0, .null, .int 0, .null, .null, .null, .int 0, .null, .null, .null, .null, .int 0, .null, .null, .null, .null, .null, .null, .null, .null, .null, .int 0, .int 0, .int 0, .null]) clX12 (by decide) kfX12_61 rfl rfl rfl rfl rfl eX12_init_848 (by decide) (Nat.le_of_ble_eq_true rfl) rfl ?_
  refine y_aload_n eX12_init_851 rfl rfl ?_
  refine y_bipush (v := 96) (by decide) eX12_init_852 ?_
  refine z_newi (N := 96) (q := 216) (q' := 217) (i' := 18) (z' := 4554) (by decide) (by decide) (Nat.le_of_ble_eq_true rfl) eX12_init_854 rfl rfl rfl (by decide) (by decide) (by decide) rfl (M0_0 (by decide)) rfl k_arr_int ?_
  refine z_put (j := 36) (fs' := [.int 0, .ref (ga g 199), .ref (ga g 200), .int 0, .ref (ga g 201), .int 0, .int 0, .int 0, .ref (ga g 202), .ref (ga g 203), .ref (ga g 204), .ref (ga g 205), .ref (ga g 206), .int 0, .int 0, .int 0, .int 0, .int 0, .ref (ga g 207), .ref (ga g 208), .ref (ga g 209), .ref (ga g 210), .ref (ga g 211), .ref (ga g 212), .ref (ga g 213), .ref (ga g 214), .int 0, .int 0, .int 0, .ref (ga g 215), .int 0, .int 0, .int 0, .int 0, .int (-1), .int 0, .ref (ga g 216), .int 0, .null, .int 0, .null, .null, .null, .int 0, .null, .null, .null, .null, .int 0, .null, .null, .null, .null, .null, .null, .null, .null, .null, .int 0, .int 0, .int 0, .null]) clX12 (by decide) kfX12_65 rfl rfl rfl rfl rfl eX12_init_856 (by decide) (Nat.le_of_ble_eq_true rfl) rfl ?_
  refine y_aload_n eX12_init_859 rfl rfl ?_
  refine y_sipush (v := 128) (by decide) eX12_init_860 ?_
  refine z_newi (N := 128) (q := 217) (q' := 218) (i' := 19) (z' := 4682) (by decide) (by decide) (Nat.le_of_ble_eq_true rfl) eX12_init_863 rfl rfl rfl (by decide) (by decide) (by decide) rfl (M0_0 (by decide)) rfl k_arr_int ?_
  refine z_put (j := 38) (fs' := [.int 0, .ref (ga g 199), .ref (ga g 200), .int 0, .ref (ga g 201), .int 0, .int 0, .int 0, .ref (ga g 202), .ref (ga g 203), .ref (ga g 204), .ref (ga g 205), .ref (ga g 206), .int 0, .int 0, .int 0, .int 0, .int 0, .ref (ga g 207), .ref (ga g 208), .ref (ga g 209), .ref (ga g 210), .ref (ga g 211), .ref (ga g 212), .ref (ga g 213), .ref (ga g 214), .int 0, .int 0, .int 0, .ref (ga g 215), .int 0, .int 0, .int 0, .int 0, .int (-1), .int 0, .ref (ga g 216), .int 0, .ref (ga g 217), .int 0, .null, .null, .null, .int 0, .null, .null, .null, .null, .int 0, .null, .null, .null, .null, .null, .null, .null, .null, .null, .int 0, .int 0, .int 0, .null]) clX12 (by decide) kfX12_68 rfl rfl rfl rfl rfl eX12_init_865 (by decide) (Nat.le_of_ble_eq_true rfl) rfl ?_
  refine y_aload_n eX12_init_868 rfl rfl ?_
  refine y_bipush (v := 28) (by decide) eX12_init_869 ?_
  refine z_newi (N := 28) (q := 218) (q' := 219) (i' := 20) (z' := 4710) (by decide) (by decide) (Nat.le_of_ble_eq_true rfl) eX12_init_871 rfl rfl rfl (by decide) (by decide) (by decide) rfl (M0_0 (by decide)) rfl k_arr_int ?_
  refine z_put (j := 40) (fs' := [.int 0, .ref (ga g 199), .ref (ga g 200), .int 0, .ref (ga g 201), .int 0, .int 0, .int 0, .ref (ga g 202), .ref (ga g 203), .ref (ga g 204), .ref (ga g 205), .ref (ga g 206), .int 0, .int 0, .int 0, .int 0, .int 0, .ref (ga g 207), .ref (ga g 208), .ref (ga g 209), .ref (ga g 210), .ref (ga g 211), .ref (ga g 212), .ref (ga g 213), .ref (ga g 214), .int 0, .int 0, .int 0, .ref (ga g 215), .int 0, .int 0, .int 0, .int 0, .int (-1), .int 0, .ref (ga g 216), .int 0, .ref (ga g 217), .int 0, .ref (ga g 218), .null, .null, .int 0, .null, .null, .null, .null, .int 0, .null, .null, .null, .null, .null, .null, .null, .null, .null, .int 0, .int 0, .int 0, .null]) clX12 (by decide) kfX12_71 rfl rfl rfl rfl rfl eX12_init_873 (by decide) (Nat.le_of_ble_eq_true rfl) rfl ?_
  refine y_aload_n eX12_init_876 rfl rfl ?_
  refine y_bipush (v := 10) (by decide) eX12_init_877 ?_
  refine z_newi (N := 10) (q := 219) (q' := 220) (i' := 21) (z' := 4720) (by decide) (by decide) (Nat.le_of_ble_eq_true rfl) eX12_init_879 rfl rfl rfl (by decide) (by decide) (by decide) rfl (M0_0 (by decide)) rfl k_arr_int ?_
  refine z_put (j := 41) (fs' := [.int 0, .ref (ga g 199), .ref (ga g 200), .int 0, .ref (ga g 201), .int 0, .int 0, .int 0, .ref (ga g 202), .ref (ga g 203), .ref (ga g 204), .ref (ga g 205), .ref (ga g 206), .int 0, .int 0, .int 0, .int 0, .int 0, .ref (ga g 207), .ref (ga g 208), .ref (ga g 209), .ref (ga g 210), .ref (ga g 211), .ref (ga g 212), .ref (ga g 213), .ref (ga g 214), .int 0, .int 0, .int 0, .ref (ga g 215), .int 0, .int 0, .int 0, .int 0, .int (-1), .int 0, .ref (ga g 216), .int 0, .ref (ga g 217), .int 0, .ref (ga g 218), .ref (ga g 219), .null, .int 0, .null, .null, .null, .null, .int 0, .null, .null, .null, .null, .null, .null, .null, .null, .null, .int 0, .int 0, .int 0, .null]) clX12 (by decide) kfX12_74 rfl rfl rfl rfl rfl eX12_init_881 (by decide) (Nat.le_of_ble_eq_true rfl) rfl ?_
  refine y_aload_n eX12_init_884 rfl rfl ?_
  refine y_sipush (v := 420) (by decide) eX12_init_885 ?_
  refine z_newi (N := 420) (q := 220) (q' := 221) (i' := 22) (z' := 5140) (by decide) (by decide) (Nat.le_of_ble_eq_true rfl) eX12_init_888 rfl rfl rfl (by decide) (by decide) (by decide) rfl (M0_0 (by decide)) rfl k_arr_int ?_
  refine z_put (j := 42) (fs' := [.int 0, .ref (ga g 199), .ref (ga g 200), .int 0, .ref (ga g 201), .int 0, .int 0, .int 0, .ref (ga g 202), .ref (ga g 203), .ref (ga g 204), .ref (ga g 205), .ref (ga g 206), .int 0, .int 0, .int 0, .int 0, .int 0, .ref (ga g 207), .ref (ga g 208), .ref (ga g 209), .ref (ga g 210), .ref (ga g 211), .ref (ga g 212), .ref (ga g 213), .ref (ga g 214), .int 0, .int 0, .int 0, .ref (ga g 215), .int 0, .int 0, .int 0, .int 0, .int (-1), .int 0, .ref (ga g 216), .int 0, .ref (ga g 217), .int 0, .ref (ga g 218), .ref (ga g 219), .ref (ga g 220), .int 0, .null, .null, .null, .null, .int 0, .null, .null, .null, .null, .null, .null, .null, .null, .null, .int 0, .int 0, .int 0, .null]) clX12 (by decide) kfX12_77 rfl rfl rfl rfl rfl eX12_init_890 (by decide) (Nat.le_of_ble_eq_true rfl) rfl ?_
  refine y_aload_n eX12_init_893 rfl rfl ?_
  refine y_bipush (v := 14) (by decide) eX12_init_894 ?_
  refine z_newi (N := 14) (q := 221) (q' := 222) (i' := 23) (z' := 5154) (by decide) (by decide) (Nat.le_of_ble_eq_true rfl) eX12_init_896 rfl rfl rfl (by decide) (by decide) (by decide) rfl (M0_0 (by decide)) rfl k_arr_int ?_
  refine z_put (j := 44) (fs' := [.int 0, .ref (ga g 199), .ref (ga g 200), .int 0, .ref (ga g 201), .int 0, .int 0, .int 0, .ref (ga g 202), .ref (ga g 203), .ref (ga g 204), .ref (ga g 205), .ref (ga g 206), .int 0, .int 0, .int 0, .int 0, .int 0, .ref (ga g 207), .ref (ga g 208), .ref (ga g 209), .ref (ga g 210), .ref (ga g 211), .ref (ga g 212), .ref (ga g 213), .ref (ga g 214), .int 0, .int 0, .int 0, .ref (ga g 215), .int 0, .int 0, .int 0, .int 0, .int (-1), .int 0, .ref (ga g 216), .int 0, .ref (ga g 217), .int 0, .ref (ga g 218), .ref (ga g 219), .ref (ga g 220), .int 0, .ref (ga g 221), .null, .null, .null, .int 0, .null, .null, .null, .null, .null, .null, .null, .null, .null, .int 0, .int 0, .int 0, .null]) clX12 (by decide) kfX12_80 rfl rfl rfl rfl rfl eX12_init_898 (by decide) (Nat.le_of_ble_eq_true rfl) rfl ?_
  refine y_aload_n eX12_init_901 rfl rfl ?_
  refine y_bipush (v := 14) (by decide) eX12_init_902 ?_
  refine z_newi (N := 14) (q := 222) (q' := 223) (i' := 24) (z' := 5168) (by decide) (by decide) (Nat.le_of_ble_eq_true rfl) eX12_init_904 rfl rfl rfl (by decide) (by decide) (by decide) rfl (M0_0 (by decide)) rfl k_arr_int ?_
  refine z_put (j := 45) (fs' := [.int 0, .ref (ga g 199), .ref (ga g 200), .int 0, .ref (ga g 201), .int 0, .int 0, .int 0, .ref (ga g 202), .ref (ga g 203), .ref (ga g 204), .ref (ga g 205), .ref (ga g 206), .int 0, .int 0, .int 0, .int 0, .int 0, .ref (ga g 207), .ref (ga g 208), .ref (ga g 209), .ref (ga g 210), .ref (ga g 211), .ref (ga g 212), .ref (ga g 213), .ref (ga g 214), .int 0, .int 0, .int 0, .ref (ga g 215), .int 0, .int 0, .int 0, .int 0, .int (-1), .int 0, .ref (ga g 216), .int 0, .ref (ga g 217), .int 0, .ref (ga g 218), .ref (ga g 219), .ref (ga g 220), .int 0, .ref (ga g 221), .ref (ga g 222), .null, .null, .int 0, .null, .null, .null, .null, .null, .null, .null, .null, .null, .int 0, .int 0, .int 0, .null]) clX12 (by decide) kfX12_83 rfl rfl rfl rfl rfl eX12_init_906 (by decide) (Nat.le_of_ble_eq_true rfl) rfl ?_
  refine y_aload_n eX12_init_909 rfl rfl ?_
  refine y_bipush (v := 9) (by decide) eX12_init_910 ?_
  refine z_newi (N := 9) (q := 223) (q' := 224) (i' := 25) (z' := 5177) (by decide) (by decide) (Nat.le_of_ble_eq_true rfl) eX12_init_912 rfl rfl rfl (by decide) (by decide) (by decide) rfl (M0_0 (by decide)) rfl k_arr_int ?_
  refine z_put (j := 46) (fs' := [.int 0, .ref (ga g 199), .ref (ga g 200), .int 0, .ref (ga g 201), .int 0, .int 0, .int 0, .ref (ga g 202), .ref (ga g 203), .ref (ga g 204), .ref (ga g 205), .ref (ga g 206), .int 0, .int 0, .int 0, .int 0, .int 0, .ref (ga g 207), .ref (ga g 208), .ref (ga g 209), .ref (ga g 210), .ref (ga g 211), .ref (ga g 212), .ref (ga g 213), .ref (ga g 214), .int 0, .int 0, .int 0, .ref (ga g 215), .int 0, .int 0, .int 0, .int 0, .int (-1), .int 0, .ref (ga g 216), .int 0, .ref (ga g 217), .int 0, .ref (ga g 218), .ref (ga g 219), .ref (ga g 220), .int 0, .ref (ga g 221), .ref (ga g 222), .ref (ga g 223), .null, .int 0, .null, .null, .null, .null, .null, .null, .null, .null, .null, .int 0, .int 0, .int 0, .null]) clX12 (by decide) kfX12_86 rfl rfl rfl rfl rfl eX12_init_914 (by decide) (Nat.le_of_ble_eq_true rfl) rfl ?_
  refine y_aload_n eX12_init_917 rfl rfl ?_
  refine y_sipush (v := 10000) (by decide) eX12_init_918 ?_
  refine z_newi (N := 10000) (q := 224) (q' := 225) (i' := 26) (z' := 15177) (by decide) (by decide) (Nat.le_of_ble_eq_true rfl) eX12_init_921 rfl rfl rfl (by decide) (by decide) (by decide) rfl (M0_0 (by decide)) rfl k_arr_int ?_
  refine z_put (j := 47) (fs' := [.int 0, .ref (ga g 199), .ref (ga g 200), .int 0, .ref (ga g 201), .int 0, .int 0, .int 0, .ref (ga g 202), .ref (ga g 203), .ref (ga g 204), .ref (ga g 205), .ref (ga g 206), .int 0, .int 0, .int 0, .int 0, .int 0, .ref (ga g 207), .ref (ga g 208), .ref (ga g 209), .ref (ga g 210), .ref (ga g 211), .ref (ga g 212), .ref (ga g 213), .ref (ga g 214), .int 0, .int 0, .int 0, .ref (ga g 215), .int 0, .int 0, .int 0, .int 0, .int (-1), .int 0, .ref (ga g 216), .int 0, .ref (ga g 217), .int 0, .ref (ga g 218), .ref (ga g 219), .ref (ga g 220), .int 0, .ref (ga g 221), .ref (ga g 222), .ref (ga g 223), .ref (ga g 224), .int 0, .null, .null, .null, .null, .null, .null, .null, .null, .null, .int 0, .int 0, .int 0, .null]) clX12 (by decide) kfX12_89 rfl rfl rfl rfl rfl eX12_init_923 (by decide) (Nat.le_of_ble_eq_true rfl) rfl ?_
  refine y_aload_n eX12_init_926 rfl rfl ?_
  refine y_bipush (v := 16) (by decide) eX12_init_927 ?_
  refine z_newi (N := 16) (q := 225) (q' := 226) (i' := 27) (z' := 15193) (by decide) (by decide) (Nat.le_of_ble_eq_true rfl) eX12_init_929 rfl rfl rfl (by decide) (by decide) (by decide) rfl (M0_0 (by decide)) rfl k_arr_int ?_
  refine z_put (j := 49) (fs' := [.int 0, .ref (ga g 199), .ref (ga g 200), .int 0, .ref (ga g 201), .int 0, .int 0, .int 0, .ref (ga g 202), .ref (ga g 203), .ref (ga g 204), .ref (ga g 205), .ref (ga g 206), .int 0, .int 0, .int 0, .int 0, .int 0, .ref (ga g 207), .ref (ga g 208), .ref (ga g 209), .ref (ga g 210), .ref (ga g 211), .ref (ga g 212), .ref (ga g 213), .ref (ga g 214), .int 0, .int 0, .int 0, .ref (ga g 215), .int 0, .int 0, .int 0, .int 0, .int (-1), .int 0, .ref (ga g 216), .int 0, .ref (ga g 217), .int 0, .ref (ga g 218), .ref (ga g 219), .ref (ga g 220), .int 0, .ref (ga g 221), .ref (ga g 222), .ref (ga g 223), .ref (ga g 224), .int 0, .ref (ga g 225), .null, .null, .null, .null, .null, .null, .null, .null, .int 0, .int 0, .int 0, .null]) clX12 (by decide) kfX12_92 rfl rfl rfl rfl rfl eX12_init_931 (by decide) (Nat.le_of_ble_eq_true rfl) rfl ?_
  refine y_aload_n eX12_init_934 rfl rfl ?_
  refine y_bipush (v := 17) (by decide) eX12_init_935 ?_
  refine z_newi (N := 17) (q := 226) (q' := 227) (i' := 28) (z' := 15210) (by decide) (by decide) (Nat.le_of_ble_eq_true rfl) eX12_init_937 rfl rfl rfl (by decide) (by decide) (by decide) rfl (M0_0 (by decide)) rfl k_arr_int ?_
  refine z_put (j := 50) (fs' := [.int 0, .ref (ga g 199), .ref (ga g 200), .int 0, .ref (ga g 201), .int 0, .int 0, .int 0, .ref (ga g 202), .ref (ga g 203), .ref (ga g 204), .ref (ga g 205), .ref (ga g 206), .int 0, .int 0, .int 0, .int 0, .int 0, .ref (ga g 207), .ref (ga g 208), .ref (ga g 209), .ref (ga g 210), .ref (ga g 211), .ref (ga g 212), .ref (ga g 213), .ref (ga g 214), .int 0, .int 0, .int 0, .ref (ga g 215), .int 0, .int 0, .int 0, .int 0, .int (-1), .int 0, .ref (ga g 216), .int 0, .ref (ga g 217), .int 0, .ref (ga g 218), .ref (ga g 219), .ref (ga g 220), .int 0, .ref (ga g 221), .ref (ga g 222), .ref (ga g 223), .ref (ga g 224), .int 0, .ref (ga g 225), .ref (ga g 226), .null, .null, .null, .null, .null, .null, .null, .int 0, .int 0, .int 0, .null]) clX12 (by decide) kfX12_95 rfl rfl rfl rfl rfl eX12_init_939 (by decide) (Nat.le_of_ble_eq_true rfl) rfl ?_
  refine y_aload_n eX12_init_942 rfl rfl ?_
  refine y_bipush (v := 17) (by decide) eX12_init_943 ?_
  refine z_newi (N := 17) (q := 227) (q' := 228) (i' := 29) (z' := 15227) (by decide) (by decide) (Nat.le_of_ble_eq_true rfl) eX12_init_945 rfl rfl rfl (by decide) (by decide) (by decide) rfl (M0_0 (by decide)) rfl k_arr_int ?_
  refine z_put (j := 51) (fs' := [.int 0, .ref (ga g 199), .ref (ga g 200), .int 0, .ref (ga g 201), .int 0, .int 0, .int 0, .ref (ga g 202), .ref (ga g 203), .ref (ga g 204), .ref (ga g 205), .ref (ga g 206), .int 0, .int 0, .int 0, .int 0, .int 0, .ref (ga g 207), .ref (ga g 208), .ref (ga g 209), .ref (ga g 210), .ref (ga g 211), .ref (ga g 212), .ref (ga g 213), .ref (ga g 214), .int 0, .int 0, .int 0, .ref (ga g 215), .int 0, .int 0, .int 0, .int 0, .int (-1), .int 0, .ref (ga g 216), .int 0, .ref (ga g 217), .int 0, .ref (ga g 218), .ref (ga g 219), .ref (ga g 220), .int 0, .ref (ga g 221), .ref (ga g 222), .ref (ga g 223), .ref (ga g 224), .int 0, .ref (ga g 225), .ref (ga g 226), .ref (ga g 227), .null, .null, .null, .null, .null, .null, .int 0, .int 0, .int 0, .null]) clX12 (by decide) kfX12_98 rfl rfl rfl rfl rfl eX12_init_947 (by decide) (Nat.le_of_ble_eq_true rfl) rfl ?_
  refine y_aload_n eX12_init_950 rfl rfl ?_
  refine y_bipush (v := 64) (by decide) eX12_init_951 ?_
  refine z_newi (N := 64) (q := 228) (q' := 229) (i' := 30) (z' := 15291) (by decide) (by decide) (Nat.le_of_ble_eq_true rfl) eX12_init_953 rfl rfl rfl (by decide) (by decide) (by decide) rfl (M0_0 (by decide)) rfl k_arr_int ?_
  refine z_put (j := 52) (fs' := [.int 0, .ref (ga g 199), .ref (ga g 200), .int 0, .ref (ga g 201), .int 0, .int 0, .int 0, .ref (ga g 202), .ref (ga g 203), .ref (ga g 204), .ref (ga g 205), .ref (ga g 206), .int 0, .int 0, .int 0, .int 0, .int 0, .ref (ga g 207), .ref (ga g 208), .ref (ga g 209), .ref (ga g 210), .ref (ga g 211), .ref (ga g 212), .ref (ga g 213), .ref (ga g 214), .int 0, .int 0, .int 0, .ref (ga g 215), .int 0, .int 0, .int 0, .int 0, .int (-1), .int 0, .ref (ga g 216), .int 0, .ref (ga g 217), .int 0, .ref (ga g 218), .ref (ga g 219), .ref (ga g 220), .int 0, .ref (ga g 221), .ref (ga g 222), .ref (ga g 223), .ref (ga g 224), .int 0, .ref (ga g 225), .ref (ga g 226), .ref (ga g 227), .ref (ga g 228), .null, .null, .null, .null, .null, .int 0, .int 0, .int 0, .null]) clX12 (by decide) kfX12_101 rfl rfl rfl rfl rfl eX12_init_955 (by decide) (Nat.le_of_ble_eq_true rfl) rfl ?_
  refine y_aload_n eX12_init_958 rfl rfl ?_
  refine y_bipush (v := 10) (by decide) eX12_init_959 ?_
  refine z_newi (N := 10) (q := 229) (q' := 230) (i' := 31) (z' := 15301) (by decide) (by decide) (Nat.le_of_ble_eq_true rfl) eX12_init_961 rfl rfl rfl (by decide) (by decide) (by decide) rfl (M0_0 (by decide)) rfl k_arr_int ?_
  refine z_put (j := 53) (fs' := [.int 0, .ref (ga g 199), .ref (ga g 200), .int 0, .ref (ga g 201), .int 0, .int 0, .int 0, .ref (ga g 202), .ref (ga g 203), .ref (ga g 204), .ref (ga g 205), .ref (ga g 206), .int 0, .int 0, .int 0, .int 0, .int 0, .ref (ga g 207), .ref (ga g 208), .ref (ga g 209), .ref (ga g 210), .ref (ga g 211), .ref (ga g 212), .ref (ga g 213), .ref (ga g 214), .int 0, .int 0, .int 0, .ref (ga g 215), .int 0, .int 0, .int 0, .int 0, .int (-1), .int 0, .ref (ga g 216), .int 0, .ref (ga g 217), .int 0, .ref (ga g 218), .ref (ga g 219), .ref (ga g 220), .int 0, .ref (ga g 221), .ref (ga g 222), .ref (ga g 223), .ref (ga g 224), .int 0, .ref (ga g 225), .ref (ga g 226), .ref (ga g 227), .ref (ga g 228), .ref (ga g 229), .null, .null, .null, .null, .int 0, .int 0, .int 0, .null]) clX12 (by decide) kfX12_104 rfl rfl rfl rfl rfl eX12_init_963 (by decide) (Nat.le_of_ble_eq_true rfl) rfl ?_
  refine y_aload_n eX12_init_966 rfl rfl ?_
  refine y_bipush (v := 9) (by decide) eX12_init_967 ?_
  refine z_newi (N := 9) (q := 230) (q' := 231) (i' := 32) (z' := 15310) (by decide) (by decide) (Nat.le_of_ble_eq_true rfl) eX12_init_969 rfl rfl rfl (by decide) (by decide) (by decide) rfl (M0_0 (by decide)) rfl k_arr_int ?_
  refine z_put (j := 54) (fs' := [.int 0, .ref (ga g 199), .ref (ga g 200), .int 0, .ref (ga g 201), .int 0, .int 0, .int 0, .ref (ga g 202), .ref (ga g 203), .ref (ga g 204), .ref (ga g 205), .ref (ga g 206), .int 0, .int 0, .int 0, .int 0, .int 0, .ref (ga g 207), .ref (ga g 208), .ref (ga g 209), .ref (ga g 210), .ref (ga g 211), .ref (ga g 212), .ref (ga g 213), .ref (ga g 214), .int 0, .int 0, .int 0, .ref (ga g 215), .int 0, .int 0, .int 0, .int 0, .int (-1), .int 0, .ref (ga g 216), .int 0, .ref (ga g 217), .int 0, .ref (ga g 218), .ref (ga g 219), .ref (ga g 220), .int 0, .ref (ga g 221), .ref (ga g 222), .ref (ga g 223), .ref (ga g 224), .int 0, .ref (ga g 225), .ref (ga g 226), .ref (ga g 227), .ref (ga g 228), .ref (ga g 229), .ref (ga g 230), .null, .null, .null, .int 0, .int 0, .int 0, .null]) clX12 (by decide) kfX12_107 rfl rfl rfl rfl rfl eX12_init_971 (by decide) (Nat.le_of_ble_eq_true rfl) rfl ?_
  refine y_aload_n eX12_init_974 rfl rfl ?_
  refine y_iconst (v := 2) (by decide) eX12_init_975 ?_
  refine z_newi (N := 2) (q := 231) (q' := 232) (i' := 33) (z' := 15312) (by decide) (by decide) (Nat.le_of_ble_eq_true rfl) eX12_init_976 rfl rfl rfl (by decide) (by decide) (by decide) rfl (M0_0 (by decide)) rfl k_arr_int ?_
  refine z_put (j := 55) (fs' := [.int 0, .ref (ga g 199), .ref (ga g 200), .int 0, .ref (ga g 201), .int 0, .int 0, .int 0, .ref (ga g 202), .ref (ga g 203), .ref (ga g 204), .ref (ga g 205), .ref (ga g 206), .int 0, .int 0, .int 0, .int 0, .int 0, .ref (ga g 207), .ref (ga g 208), .ref (ga g 209), .ref (ga g 210), .ref (ga g 211), .ref (ga g 212), .ref (ga g 213), .ref (ga g 214), .int 0, .int 0, .int 0, .ref (ga g 215), .int 0, .int 0, .int 0, .int 0, .int (-1), .int 0, .ref (ga g 216), .int 0, .ref (ga g 217), .int 0, .ref (ga g 218), .ref (ga g 219), .ref (ga g 220), .int 0, .ref (ga g 221), .ref (ga g 222), .ref (ga g 223), .ref (ga g 224), .int 0, .ref (ga g 225), .ref (ga g 226), .ref (ga g 227), .ref (ga g 228), .ref (ga g 229), .ref (ga g 230), .ref (ga g 231), .null, .null, .int 0, .int 0, .int 0, .null]) clX12 (by decide) kfX12_110 rfl rfl rfl rfl rfl eX12_init_978 (by decide) (Nat.le_of_ble_eq_true rfl) rfl ?_
  refine y_aload_n eX12_init_981 rfl rfl ?_
  refine y_bipush (v := 16) (by decide) eX12_init_982 ?_
  refine z_newi (N := 16) (q := 232) (q' := 233) (i' := 34) (z' := 15328) (by decide) (by decide) (Nat.le_of_ble_eq_true rfl) eX12_init_984 rfl rfl rfl (by decide) (by decide) (by decide) rfl (M0_0 (by decide)) rfl k_arr_int ?_
  refine z_put (j := 56) (fs' := [.int 0, .ref (ga g 199), .ref (ga g 200), .int 0, .ref (ga g 201), .int 0, .int 0, .int 0, .ref (ga g 202), .ref (ga g 203), .ref (ga g 204), .ref (ga g 205), .ref (ga g 206), .int 0, .int 0, .int 0, .int 0, .int 0, .ref (ga g 207), .ref (ga g 208), .ref (ga g 209), .ref (ga g 210), .ref (ga g 211), .ref (ga g 212), .ref (ga g 213), .ref (ga g 214), .int 0, .int 0, .int 0, .ref (ga g 215), .int 0, .int 0, .int 0, .int 0, .int (-1), .int 0, .ref (ga g 216), .int 0, .ref (ga g 217), .int 0, .ref (ga g 218), .ref (ga g 219), .ref (ga g 220), .int 0, .ref (ga g 221), .ref (ga g 222), .ref (ga g 223), .ref (ga g 224), .int 0, .ref (ga g 225), .ref (ga g 226), .ref (ga g 227), .ref (ga g 228), .ref (ga g 229), .ref (ga g 230), .ref (ga g 231), .ref (ga g 232), .null, .int 0, .int 0, .int 0, .null]) clX12 (by decide) kfX12_113 rfl rfl rfl rfl rfl eX12_init_986 (by decide) (Nat.le_of_ble_eq_true rfl) rfl ?_
  refine y_aload_n eX12_init_989 rfl rfl ?_
  refine y_sipush (v := 201) (by decide) eX12_init_990 ?_
  refine z_newi (N := 201) (q := 233) (q' := 234) (i' := 35) (z' := 15529) (by decide) (by decide) (Nat.le_of_ble_eq_true rfl) eX12_init_993 rfl rfl rfl (by decide) (by decide) (by decide) rfl (M0_0 (by decide)) rfl k_arr_int ?_
  refine z_put (j := 57) (fs' := [.int 0, .ref (ga g 199), .ref (ga g 200), .int 0, .ref (ga g 201), .int 0, .int 0, .int 0, .ref (ga g 202), .ref (ga g 203), .ref (ga g 204), .ref (ga g 205), .ref (ga g 206), .int 0, .int 0, .int 0, .int 0, .int 0, .ref (ga g 207), .ref (ga g 208), .ref (ga g 209), .ref (ga g 210), .ref (ga g 211), .ref (ga g 212), .ref (ga g 213), .ref (ga g 214), .int 0, .int 0, .int 0, .ref (ga g 215), .int 0, .int 0, .int 0, .int 0, .int (-1), .int 0, .ref (ga g 216), .int 0, .ref (ga g 217), .int 0, .ref (ga g 218), .ref (ga g 219), .ref (ga g 220), .int 0, .ref (ga g 221), .ref (ga g 222), .ref (ga g 223), .ref (ga g 224), .int 0, .ref (ga g 225), .ref (ga g 226), .ref (ga g 227), .ref (ga g 228), .ref (ga g 229), .ref (ga g 230), .ref (ga g 231), .ref (ga g 232), .ref (ga g 233), .int 0, .int 0, .int 0, .null]) clX12 (by decide) kfX12_116 rfl rfl rfl rfl rfl eX12_init_995 (by decide) (Nat.le_of_ble_eq_true rfl) rfl ?_
  refine y_aload_n eX12_init_998 rfl rfl ?_
  refine y_sipush (v := 2200) (by decide) eX12_init_999 ?_
  refine z_newi (N := 2200) (q := 234) (q' := 235) (i' := 36) (z' := 17729) (by decide) (by decide) (Nat.le_of_ble_eq_true rfl) eX12_init_1002 rfl rfl rfl (by decide) (by decide) (by decide) rfl (M0_0 (by decide)) rfl k_arr_int ?_
  refine z_put (j := 61) (fs' := [.int 0, .ref (ga g 199), .ref (ga g 200), .int 0, .ref (ga g 201), .int 0, .int 0, .int 0, .ref (ga g 202), .ref (ga g 203), .ref (ga g 204), .ref (ga g 205), .ref (ga g 206), .int 0, .int 0, .int 0, .int 0, .int 0, .ref (ga g 207), .ref (ga g 208), .ref (ga g 209), .ref (ga g 210), .ref (ga g 211), .ref (ga g 212), .ref (ga g 213), .ref (ga g 214), .int 0, .int 0, .int 0, .ref (ga g 215), .int 0, .int 0, .int 0, .int 0, .int (-1), .int 0, .ref (ga g 216), .int 0, .ref (ga g 217), .int 0, .ref (ga g 218), .ref (ga g 219), .ref (ga g 220), .int 0, .ref (ga g 221), .ref (ga g 222), .ref (ga g 223), .ref (ga g 224), .int 0, .ref (ga g 225), .ref (ga g 226), .ref (ga g 227), .ref (ga g 228), .ref (ga g 229), .ref (ga g 230), .ref (ga g 231), .ref (ga g 232), .ref (ga g 233), .int 0, .int 0, .int 0, .ref (ga g 234)]) clX12 (by decide) kfX12_119 rfl rfl rfl rfl rfl eX12_init_1004 (by decide) (Nat.le_of_ble_eq_true rfl) rfl ?_
  exact z_end (by decide) rfl (by rw [ent_obj g M0 rfl (by decide)]; rfl)
