theorem in_lay {C : String} {T : u_T} {n : Nat} (h : ∀ k, k < n → u_lay C T k ∈ tb) : ∀ w ∈ u_ws C T n, w ∈ tb := by
  intro w hw
  obtain ⟨k, hk, rfl⟩ := List.mem_map.mp hw
  exact h k (List.mem_range.mp hk)
theorem tbs1 {w : Cond} (i : Nat) (h : tables_1_1[i]? = some w) (hg : goodWord w = true) : w ∈ tb := List.mem_filter.mpr ⟨List.mem_append_right _ (by
  have := List.mem_of_getElem? h
  unfold tables_1
  simp only [List.mem_append]
  simp [this]), hg⟩
theorem tbs2 {w : Cond} (i : Nat) (h : tables_1_2[i]? = some w) (hg : goodWord w = true) : w ∈ tb := List.mem_filter.mpr ⟨List.mem_append_right _ (by
  have := List.mem_of_getElem? h
  unfold tables_1
  simp only [List.mem_append]
  simp [this]), hg⟩
theorem tbs3 {w : Cond} (i : Nat) (h : tables_1_3[i]? = some w) (hg : goodWord w = true) : w ∈ tb := List.mem_filter.mpr ⟨List.mem_append_right _ (by
  have := List.mem_of_getElem? h
  unfold tables_1
  simp only [List.mem_append]
  simp [this]), hg⟩
theorem tbs4 {w : Cond} (i : Nat) (h : tables_1_4[i]? = some w) (hg : goodWord w = true) : w ∈ tb := List.mem_filter.mpr ⟨List.mem_append_right _ (by
  have := List.mem_of_getElem? h
  unfold tables_1
  simp only [List.mem_append]
  simp [this]), hg⟩
theorem tbs5 {w : Cond} (i : Nat) (h : tables_1_5[i]? = some w) (hg : goodWord w = true) : w ∈ tb := List.mem_filter.mpr ⟨List.mem_append_right _ (by
  have := List.mem_of_getElem? h
  unfold tables_1
  simp only [List.mem_append]
  simp [this]), hg⟩
theorem tbs6 {w : Cond} (i : Nat) (h : tables_1_6[i]? = some w) (hg : goodWord w = true) : w ∈ tb := List.mem_filter.mpr ⟨List.mem_append_right _ (by
  have := List.mem_of_getElem? h
  unfold tables_1
  simp only [List.mem_append]
  simp [this]), hg⟩
theorem tbs7 {w : Cond} (i : Nat) (h : tables_1_7[i]? = some w) (hg : goodWord w = true) : w ∈ tb := List.mem_filter.mpr ⟨List.mem_append_right _ (by
  have := List.mem_of_getElem? h
  unfold tables_1
  simp only [List.mem_append]
  simp [this]), hg⟩
theorem tbs8 {w : Cond} (i : Nat) (h : tables_1_8[i]? = some w) (hg : goodWord w = true) : w ∈ tb := List.mem_filter.mpr ⟨List.mem_append_right _ (by
  have := List.mem_of_getElem? h
  unfold tables_1
  simp only [List.mem_append]
  simp [this]), hg⟩
/-! printed: what the tables say of classes, fields, methods, links -/
set_option maxRecDepth 100000 in
theorem iX0 : ∀ w ∈ u_ws RX0 TX0 7, w ∈ tb := in_lay (lt_s (lt_s (lt_s (lt_s (lt_s (lt_s (lt_s (lt_0) (tbs2 31 rfl rfl)) (tbs2 33 rfl rfl)) (tbs2 35 rfl rfl)) (tbs2 37 rfl rfl)) (tbs2 39 rfl rfl)) (tbs2 41 rfl rfl)) (tbs2 43 rfl rfl))
set_option maxRecDepth 100000 in
theorem iX1 : ∀ w ∈ u_ws RX1 TX1 9, w ∈ tb := in_lay (lt_s (lt_s (lt_s (lt_s (lt_s (lt_s (lt_s (lt_s (lt_s (lt_0) (tbs1 174 rfl rfl)) (tbs1 176 rfl rfl)) (tbs1 178 rfl rfl)) (tbs1 180 rfl rfl)) (tbs1 182 rfl rfl)) (tbs1 184 rfl rfl)) (tbs1 186 rfl rfl)) (tbs1 188 rfl rfl)) (tbs1 190 rfl rfl))
set_option maxRecDepth 100000 in
theorem iX2 : ∀ w ∈ u_ws RX2 TX2 1, w ∈ tb := in_lay (lt_s (lt_0) (tbs2 124 rfl rfl))
set_option maxRecDepth 100000 in
theorem iX3 : ∀ w ∈ u_ws RX3 TX3 6, w ∈ tb := in_lay (lt_s (lt_s (lt_s (lt_s (lt_s (lt_s (lt_0) (tbs1 143 rfl rfl)) (tbs1 145 rfl rfl)) (tbs1 147 rfl rfl)) (tbs1 149 rfl rfl)) (tbs1 151 rfl rfl)) (tbs1 153 rfl rfl))
set_option maxRecDepth 100000 in
theorem iX4 : ∀ w ∈ u_ws RX4 TX4 5, w ∈ tb := in_lay (lt_s (lt_s (lt_s (lt_s (lt_s (lt_0) (tbs2 141 rfl rfl)) (tbs2 143 rfl rfl)) (tbs2 145 rfl rfl)) (tbs2 147 rfl rfl)) (tbs2 149 rfl rfl))
set_option maxRecDepth 100000 in
theorem iX5 : ∀ w ∈ u_ws RX5 TX5 2, w ∈ tb := in_lay (lt_s (lt_s (lt_0) (tbs2 160 rfl rfl)) (tbs2 162 rfl rfl))
set_option maxRecDepth 100000 in
theorem iX6 : ∀ w ∈ u_ws RX6 TX6 4, w ∈ tb := in_lay (lt_s (lt_s (lt_s (lt_s (lt_0) (tbs2 60 rfl rfl)) (tbs2 62 rfl rfl)) (tbs2 64 rfl rfl)) (tbs2 66 rfl rfl))
set_option maxRecDepth 100000 in
theorem iX7 : ∀ w ∈ u_ws RX7 TX7 5, w ∈ tb := in_lay (lt_s (lt_s (lt_s (lt_s (lt_s (lt_0) (tbs1 213 rfl rfl)) (tbs1 215 rfl rfl)) (tbs1 217 rfl rfl)) (tbs1 219 rfl rfl)) (tbs1 221 rfl rfl))
set_option maxRecDepth 100000 in
theorem iX8 : ∀ w ∈ u_ws RX8 TX8 9, w ∈ tb := in_lay (lt_s (lt_s (lt_s (lt_s (lt_s (lt_s (lt_s (lt_s (lt_s (lt_0) (tbs2 94 rfl rfl)) (tbs2 96 rfl rfl)) (tbs2 98 rfl rfl)) (tbs2 100 rfl rfl)) (tbs2 102 rfl rfl)) (tbs2 104 rfl rfl)) (tbs2 106 rfl rfl)) (tbs2 108 rfl rfl)) (tbs2 110 rfl rfl))
set_option maxRecDepth 100000 in
theorem iX9 : ∀ w ∈ u_ws RX9 TX9 15, w ∈ tb := in_lay (lt_s (lt_s (lt_s (lt_s (lt_s (lt_s (lt_s (lt_s (lt_s (lt_s (lt_s (lt_s (lt_s (lt_s (lt_s (lt_0) (tbs1 84 rfl rfl)) (tbs1 86 rfl rfl)) (tbs1 88 rfl rfl)) (tbs1 90 rfl rfl)) (tbs1 92 rfl rfl)) (tbs1 94 rfl rfl)) (tbs1 96 rfl rfl)) (tbs1 98 rfl rfl)) (tbs1 100 rfl rfl)) (tbs1 102 rfl rfl)) (tbs1 104 rfl rfl)) (tbs1 106 rfl rfl)) (tbs1 108 rfl rfl)) (tbs1 110 rfl rfl)) (tbs1 112 rfl rfl))
set_option maxRecDepth 100000 in
theorem iX10 : ∀ w ∈ u_ws RX10 TX10 8, w ∈ tb := in_lay (lt_s (lt_s (lt_s (lt_s (lt_s (lt_s (lt_s (lt_s (lt_0) (tbs1 237 rfl rfl)) (tbs1 239 rfl rfl)) (tbs2 1 rfl rfl)) (tbs2 3 rfl rfl)) (tbs2 5 rfl rfl)) (tbs2 7 rfl rfl)) (tbs2 9 rfl rfl)) (tbs2 11 rfl rfl))
set_option maxRecDepth 100000 in
theorem iX11 : ∀ w ∈ u_ws RX11 TX11 9, w ∈ tb := in_lay (lt_s (lt_s (lt_s (lt_s (lt_s (lt_s (lt_s (lt_s (lt_s (lt_0) (tbs2 174 rfl rfl)) (tbs2 176 rfl rfl)) (tbs2 178 rfl rfl)) (tbs2 180 rfl rfl)) (tbs2 182 rfl rfl)) (tbs2 184 rfl rfl)) (tbs2 186 rfl rfl)) (tbs2 188 rfl rfl)) (tbs2 190 rfl rfl))
set_option maxRecDepth 100000 in
theorem iX12 : ∀ w ∈ u_ws RX12 TX12 62, w ∈ tb := in_lay (lt_s (lt_s (lt_s (lt_s (lt_s (lt_s (lt_s (lt_s (lt_s (lt_s (lt_s (lt_s (lt_s (lt_s (lt_s (lt_s (lt_s (lt_s (lt_s (lt_s (lt_s (lt_s (lt_s (lt_s (lt_s (lt_s (lt_s (lt_s (lt_s (lt_s (lt_s (lt_s (lt_s (lt_s (lt_s (lt_s (lt_s (lt_s (lt_s (lt_s (lt_s (lt_s (lt_s (lt_s (lt_s (lt_s (lt_s (lt_s (lt_s (lt_s (lt_s (lt_s (lt_s (lt_s (lt_s (lt_s (lt_s (lt_s (lt_s (lt_s (lt_s (lt_s (lt_0) (tbs5 214 rfl rfl)) (tbs5 216 rfl rfl)) (tbs5 218 rfl rfl)) (tbs5 220 rfl rfl)) (tbs5 222 rfl rfl)) (tbs5 224 rfl rfl)) (tbs5 226 rfl rfl)) (tbs5 228 rfl rfl)) (tbs5 230 rfl rfl)) (tbs5 232 rfl rfl)) (tbs5 234 rfl rfl)) (tbs5 236 rfl rfl)) (tbs5 238 rfl rfl)) (tbs6 0 rfl rfl)) (tbs6 2 rfl rfl)) (tbs6 4 rfl rfl)) (tbs6 6 rfl rfl)) (tbs6 8 rfl rfl)) (tbs6 10 rfl rfl)) (tbs6 12 rfl rfl)) (tbs6 14 rfl rfl)) (tbs6 16 rfl rfl)) (tbs6 18 rfl rfl)) (tbs6 20 rfl rfl)) (tbs6 22 rfl rfl)) (tbs6 24 rfl rfl)) (tbs6 26 rfl rfl)) (tbs6 28 rfl rfl)) (tbs6 30 rfl rfl)) (tbs6 32 rfl rfl)) (tbs6 34 rfl rfl)) (tbs6 36 rfl rfl)) (tbs6 38 rfl rfl)) (tbs6 40 rfl rfl)) (tbs6 42 rfl rfl)) (tbs6 44 rfl rfl)) (tbs6 46 rfl rfl)) (tbs6 48 rfl rfl)) (tbs6 50 rfl rfl)) (tbs6 52 rfl rfl)) (tbs6 54 rfl rfl)) (tbs6 56 rfl rfl)) (tbs6 58 rfl rfl)) (tbs6 60 rfl rfl)) (tbs6 62 rfl rfl)) (tbs6 64 rfl rfl)) (tbs6 66 rfl rfl)) (tbs6 68 rfl rfl)) (tbs6 70 rfl rfl)) (tbs6 72 rfl rfl)) (tbs6 74 rfl rfl)) (tbs6 76 rfl rfl)) (tbs6 78 rfl rfl)) (tbs6 80 rfl rfl)) (tbs6 82 rfl rfl)) (tbs6 84 rfl rfl)) (tbs6 86 rfl rfl)) (tbs6 88 rfl rfl)) (tbs6 90 rfl rfl)) (tbs6 92 rfl rfl)) (tbs6 94 rfl rfl)) (tbs6 96 rfl rfl))
def uX6_forget : MI := (RX6, yX6_forget, cX6_forget, 1, none)
def uX11_state : MI := (RX11, yX11_state, cX11_state, 3, some .int)
def uX12_state : MI := (RX12, yX12_state, cX12_state, 3, some .int)
def uX11_isWithin : MI := (RX11, yX11_isWithin, cX11_isWithin, 3, some .boolean)
def uX9_addPerson : MI := (RX9, yX9_addPerson, cX9_addPerson, 2, none)
def uX11_person : MI := (RX11, yX11_person, cX11_person, 3, some .int)
def uX12_isIn : MI := (RX12, yX12_isIn, cX12_isIn, 4, some .boolean)
def uX12_person : MI := (RX12, yX12_person, cX12_person, 2, some .int)
def uX9_hasPerson : MI := (RX9, yX9_hasPerson, cX9_hasPerson, 2, some .boolean)
def uX9_areTwo : MI := (RX9, yX9_areTwo, cX9_areTwo, 3, some .boolean)
def uX9_addBargain : MI := (RX9, yX9_addBargain, cX9_addBargain, 4, none)
def uX11_bargain : MI := (RX11, yX11_bargain, cX11_bargain, 5, some .int)
def uX12_isPerson : MI := (RX12, yX12_isPerson, cX12_isPerson, 2, some .boolean)
def uX12_bargain : MI := (RX12, yX12_bargain, cX12_bargain, 4, some .int)
def uX9_hasBargain : MI := (RX9, yX9_hasBargain, cX9_hasBargain, 2, some .boolean)
def uX9_isOpen : MI := (RX9, yX9_isOpen, cX9_isOpen, 2, some .boolean)
def uX11_set : MI := (RX11, yX11_set, cX11_set, 5, some .boolean)
def uX12_isBargain : MI := (RX12, yX12_isBargain, cX12_isBargain, 2, some .boolean)
def uX12_set : MI := (RX12, yX12_set, cX12_set, 5, some .boolean)
def uX9_hasSaid : MI := (RX9, yX9_hasSaid, cX9_hasSaid, 3, some .boolean)
def uX9_canClear : MI := (RX9, yX9_canClear, cX9_canClear, 2, some .boolean)
def uX11_canAct : MI := (RX11, yX11_canAct, cX11_canAct, 4, some .boolean)
def uX9_copyFrom : MI := (RX9, yX9_copyFrom, cX9_copyFrom, 2, none)
def uX6_keep : MI := (RX6, yX6_keep, cX6_keep, 3, none)
def uX9_whoIs : MI := (RX9, yX9_whoIs, cX9_whoIs, 3, some .int)
def uX0_hearersOf : MI := (RX0, yX0_hearersOf, cX0_hearersOf, 4, some .int)
def uJ6_bitCount_0f7a4 : MI := (RJ6, yJ6_bitCount_0f7a4, cJ6_bitCount_0f7a4, 1, some .int)
def uX1_named : MI := (RX1, yX1_named, cX1_named, 2, some .int)
def uX1_joined : MI := (RX1, yX1_joined, cX1_joined, 3, some .int)
def uX1_worked : MI := (RX1, yX1_worked, cX1_worked, 6, some .int)
def uX1_lineFor : MI := (RX1, yX1_lineFor, cX1_lineFor, 3, some .int)
def uX0_withoutLaw : MI := (RX0, yX0_withoutLaw, cX0_withoutLaw, 3, some .int)
def uX1_valueOf : MI := (RX1, yX1_valueOf, cX1_valueOf, 2, some .int)
def uX0_asked : MI := (RX0, yX0_asked, cX0_asked, 11, some .int)
def uX9_drawn : MI := (RX9, yX9_drawn, cX9_drawn, 2, some .int)
def uX3_append : MI := (RX3, yX3_append, cX3_append, 5, none)
def uX0_note : MI := (RX0, yX0_note, cX0_note, 6, none)
def uX0_twist : MI := (RX0, yX0_twist, cX0_twist, 9, some .boolean)
def uX9_makeClear : MI := (RX9, yX9_makeClear, cX9_makeClear, 2, none)
def uX0_blurAway : MI := (RX0, yX0_blurAway, cX0_blurAway, 4, none)
def uX11_act : MI := (RX11, yX11_act, cX11_act, 4, some .boolean)
def uX12_has : MI := (RX12, yX12_has, cX12_has, 3, some .boolean)
def uX12_canHop : MI := (RX12, yX12_canHop, cX12_canHop, 3, some .boolean)
def uX12_canAct : MI := (RX12, yX12_canAct, cX12_canAct, 3, some .boolean)
def uX12_keepsAhead : MI := (RX12, yX12_keepsAhead, cX12_keepsAhead, 2, none)
def uX12_hopperOf : MI := (RX12, yX12_hopperOf, cX12_hopperOf, 3, some .int)
def uX12_onesOf : MI := (RX12, yX12_onesOf, cX12_onesOf, 4, some .int)
def uX12_asks : MI := (RX12, yX12_asks, cX12_asks, 4, none)
def uX12_twoOf : MI := (RX12, yX12_twoOf, cX12_twoOf, 4, some .int)
def uX12_runs : MI := (RX12, yX12_runs, cX12_runs, 6, some .int)
def uX12_lineOf : MI := (RX12, yX12_lineOf, cX12_lineOf, 3, some .int)
def uX12_held : MI := (RX12, yX12_held, cX12_held, 4, some .int)
def uX12_lawTells : MI := (RX12, yX12_lawTells, cX12_lawTells, 5, some .int)
def uX12_landsOn : MI := (RX12, yX12_landsOn, cX12_landsOn, 4, some .int)
def uX12_draw : MI := (RX12, yX12_draw, cX12_draw, 2, some .int)
def uX12_happens : MI := (RX12, yX12_happens, cX12_happens, 2, some .boolean)
def uX12_costsOn : MI := (RX12, yX12_costsOn, cX12_costsOn, 4, some .int)
def uX12_notes : MI := (RX12, yX12_notes, cX12_notes, 5, none)
def uX12_hopsOver : MI := (RX12, yX12_hopsOver, cX12_hopsOver, 5, some .boolean)
def uX12_isCleared : MI := (RX12, yX12_isCleared, cX12_isCleared, 2, none)
def uX12_isBlurred : MI := (RX12, yX12_isBlurred, cX12_isBlurred, 2, none)
def uX12_act : MI := (RX12, yX12_act, cX12_act, 3, some .boolean)
def uX0_tellEvening : MI := (RX0, yX0_tellEvening, cX0_tellEvening, 5, none)
def uX0_blurSome : MI := (RX0, yX0_blurSome, cX0_blurSome, 5, none)
def uX0_goDay : MI := (RX0, yX0_goDay, cX0_goDay, 5, some .int)
def uX11_days : MI := (RX11, yX11_days, cX11_days, 5, some .int)
def uX12_comes : MI := (RX12, yX12_comes, cX12_comes, 4, none)
def uX12_wipesOf : MI := (RX12, yX12_wipesOf, cX12_wipesOf, 2, some .int)
def uX12_greater : MI := (RX12, yX12_greater, cX12_greater, 3, some .int)
def uX12_goesBy : MI := (RX12, yX12_goesBy, cX12_goesBy, 3, some .int)
def uX12_days : MI := (RX12, yX12_days, cX12_days, 4, some .int)
def uX8_append : MI := (RX8, yX8_append, cX8_append, 3, none)
def uX11_feed : MI := (RX11, yX11_feed, cX11_feed, 6, some .int)
def uX12_types : MI := (RX12, yX12_types, cX12_types, 3, none)
def uX12_feed : MI := (RX12, yX12_feed, cX12_feed, 6, some .int)
def uX11_end : MI := (RX11, yX11_end, cX11_end, 2, some .boolean)
def uX12_end : MI := (RX12, yX12_end, cX12_end, 2, some .boolean)
def uX8_kindAt : MI := (RX8, yX8_kindAt, cX8_kindAt, 3, some .int)
def uX8_advance : MI := (RX8, yX8_advance, cX8_advance, 1, none)
def uX8_begin : MI := (RX8, yX8_begin, cX8_begin, 1, none)
def uX1_clear : MI := (RX1, yX1_clear, cX1_clear, 1, none)
def uX8_isWord : MI := (RX8, yX8_isWord, cX8_isWord, 3, some .boolean)
def uX2_wordAtHand : MI := (RX2, yX2_wordAtHand, cX2_wordAtHand, 1, some .int)
def uX8_refuse : MI := (RX8, yX8_refuse, cX8_refuse, 2, some .boolean)
def uX1_put : MI := (RX1, yX1_put, cX1_put, 2, none)
def uX2_nameAtHand : MI := (RX2, yX2_nameAtHand, cX2_nameAtHand, 1, some .int)
def uX2_readUnit : MI := (RX2, yX2_readUnit, cX2_readUnit, 4, some .boolean)
def uX8_isSign : MI := (RX8, yX8_isSign, cX8_isSign, 2, some .boolean)
def uX8_passSign : MI := (RX8, yX8_passSign, cX8_passSign, 4, some .int)
def uX2_readSum : MI := (RX2, yX2_readSum, cX2_readSum, 5, some .boolean)
def uX8_passWord : MI := (RX8, yX8_passWord, cX8_passWord, 3, some .boolean)
def uX8_takeSign : MI := (RX8, yX8_takeSign, cX8_takeSign, 2, some .boolean)
def uX2_readTest : MI := (RX2, yX2_readTest, cX2_readTest, 5, some .boolean)
def uX2_readEither : MI := (RX2, yX2_readEither, cX2_readEither, 6, some .boolean)
def uX1_appendLine : MI := (RX1, yX1_appendLine, cX1_appendLine, 4, none)
def uX2_read : MI := (RX2, yX2_read, cX2_read, 6, some .boolean)
def uX1_copyFrom : MI := (RX1, yX1_copyFrom, cX1_copyFrom, 2, none)
def uX8_takeNumber : MI := (RX8, yX8_takeNumber, cX8_takeNumber, 2, some .boolean)
def uX8_takeWord : MI := (RX8, yX8_takeWord, cX8_takeWord, 2, some .boolean)
def uX9_isOneOf : MI := (RX9, yX9_isOneOf, cX9_isOneOf, 3, some .boolean)
def uX4_readHearing : MI := (RX4, yX4_readHearing, cX4_readHearing, 3, some .boolean)
def uX4_readTwist : MI := (RX4, yX4_readTwist, cX4_readTwist, 3, some .boolean)
def uX4_kindAtHand : MI := (RX4, yX4_kindAtHand, cX4_kindAtHand, 1, some .int)
def uX4_readEvening : MI := (RX4, yX4_readEvening, cX4_readEvening, 3, some .boolean)
def uX4_readLine : MI := (RX4, yX4_readLine, cX4_readLine, 4, some .boolean)
def uX4_read : MI := (RX4, yX4_read, cX4_read, 5, some .boolean)
def uX0_linesOf : MI := (RX0, yX0_linesOf, cX0_linesOf, 2, some (.object "TwisterCourt$Lines"))
def uX3_copyFrom : MI := (RX3, yX3_copyFrom, cX3_copyFrom, 2, none)
def uX11_text : MI := (RX11, yX11_text, cX11_text, 4, some .int)
def uX12_raw : MI := (RX12, yX12_raw, cX12_raw, 2, some .int)
def uX12_isLetter : MI := (RX12, yX12_isLetter, cX12_isLetter, 2, some .boolean)
def uX12_wordAt : MI := (RX12, yX12_wordAt, cX12_wordAt, 6, some .int)
def uX12_isDigit : MI := (RX12, yX12_isDigit, cX12_isDigit, 2, some .boolean)
def uX12_isMarkSign : MI := (RX12, yX12_isMarkSign, cX12_isMarkSign, 2, some .boolean)
def uX12_reads : MI := (RX12, yX12_reads, cX12_reads, 2, none)
def uX12_isWord : MI := (RX12, yX12_isWord, cX12_isWord, 2, some .boolean)
def uX12_errs : MI := (RX12, yX12_errs, cX12_errs, 2, some .int)
def uX12_readNumber : MI := (RX12, yX12_readNumber, cX12_readNumber, 4, some .int)
def uX12_readTold : MI := (RX12, yX12_readTold, cX12_readTold, 4, some .int)
def uX12_isSign : MI := (RX12, yX12_isSign, cX12_isSign, 2, some .boolean)
def uX12_readMark : MI := (RX12, yX12_readMark, cX12_readMark, 2, some .int)
def uX12_readHop : MI := (RX12, yX12_readHop, cX12_readHop, 2, some .int)
def uX12_readHops : MI := (RX12, yX12_readHops, cX12_readHops, 2, some .int)
def uX12_kindOfStreet : MI := (RX12, yX12_kindOfStreet, cX12_kindOfStreet, 1, some .int)
def uX12_readStreetLine : MI := (RX12, yX12_readStreetLine, cX12_readStreetLine, 3, some .int)
def uX12_readStreet : MI := (RX12, yX12_readStreet, cX12_readStreet, 2, some .int)
def uX12_readLean : MI := (RX12, yX12_readLean, cX12_readLean, 3, some .int)
def uX12_readLeans : MI := (RX12, yX12_readLeans, cX12_readLeans, 2, some .int)
def uX12_isLineWord : MI := (RX12, yX12_isLineWord, cX12_isLineWord, 1, some .boolean)
def uX12_canAsk : MI := (RX12, yX12_canAsk, cX12_canAsk, 2, some .boolean)
def uX12_emits : MI := (RX12, yX12_emits, cX12_emits, 3, none)
def uX12_readUnit : MI := (RX12, yX12_readUnit, cX12_readUnit, 2, some .int)
def uX12_readProduct : MI := (RX12, yX12_readProduct, cX12_readProduct, 2, some .int)
def uX12_readSum : MI := (RX12, yX12_readSum, cX12_readSum, 2, some .int)
def uX12_waits : MI := (RX12, yX12_waits, cX12_waits, 2, none)
def uX12_readCompared : MI := (RX12, yX12_readCompared, cX12_readCompared, 2, some .int)
def uX12_settles : MI := (RX12, yX12_settles, cX12_settles, 2, none)
def uX12_readAny : MI := (RX12, yX12_readAny, cX12_readAny, 4, some .int)
def uX12_readLaw : MI := (RX12, yX12_readLaw, cX12_readLaw, 3, some .int)
def uX12_readsText : MI := (RX12, yX12_readsText, cX12_readsText, 2, some .int)
def uX12_takesLaw : MI := (RX12, yX12_takesLaw, cX12_takesLaw, 3, none)
def uX12_takesOther : MI := (RX12, yX12_takesOther, cX12_takesOther, 4, none)
def uX12_text : MI := (RX12, yX12_text, cX12_text, 3, some .int)
def uX11_fault : MI := (RX11, yX11_fault, cX11_fault, 2, some .int)
def uX12_fault : MI := (RX12, yX12_fault, cX12_fault, 2, some .int)
def uX9_bargainsOf : MI := (RX9, yX9_bargainsOf, cX9_bargainsOf, 4, some .int)
def uX0_heardBy : MI := (RX0, yX0_heardBy, cX0_heardBy, 4, some .int)
def uX11_of : MI := (RX11, yX11_of, cX11_of, 4, some .int)
def uX12_bargainsOf : MI := (RX12, yX12_bargainsOf, cX12_bargainsOf, 4, some .int)
def uX12_of : MI := (RX12, yX12_of, cX12_of, 5, some .int)
def uX11_phraseTold : MI := (RX11, yX11_phraseTold, cX11_phraseTold, 6, some .int)
def uX11_deal : MI := (RX11, yX11_deal, cX11_deal, 4, some .int)
def uX12_deal : MI := (RX12, yX12_deal, cX12_deal, 5, some .int)
def uX11_book : MI := (RX11, yX11_book, cX11_book, 4, some .int)
def uX12_book : MI := (RX12, yX12_book, cX12_book, 3, some .int)
def uX9_thoseThatAre : MI := (RX9, yX9_thoseThatAre, cX9_thoseThatAre, 4, some .int)
def uX9_owesOfAll : MI := (RX9, yX9_owesOfAll, cX9_owesOfAll, 3, some .int)
def uX9_clearOfAll : MI := (RX9, yX9_clearOfAll, cX9_clearOfAll, 3, some .int)
def uX11_goes : MI := (RX11, yX11_goes, cX11_goes, 4, some .int)
def uX12_thinks : MI := (RX12, yX12_thinks, cX12_thinks, 2, none)
def uX12_setThatIs : MI := (RX12, yX12_setThatIs, cX12_setThatIs, 4, some .int)
def uX12_sumOf : MI := (RX12, yX12_sumOf, cX12_sumOf, 5, some .int)
def uX12_endsThought : MI := (RX12, yX12_endsThought, cX12_endsThought, 2, none)
def uX12_goes : MI := (RX12, yX12_goes, cX12_goes, 4, some .int)
def uX11_holds : MI := (RX11, yX11_holds, cX11_holds, 3, some .int)
def uX12_holds : MI := (RX12, yX12_holds, cX12_holds, 3, some .int)
def uX11_deals : MI := (RX11, yX11_deals, cX11_deals, 4, some .int)
def uX12_deals : MI := (RX12, yX12_deals, cX12_deals, 3, some .int)
def uX7_has : MI := (RX7, yX7_has, cX7_has, 3, some .boolean)
def uX7_tell : MI := (RX7, yX7_tell, cX7_tell, 2, some .int)
def uX11_jump : MI := (RX11, yX11_jump, cX11_jump, 2, some .int)
def uX12_jump : MI := (RX12, yX12_jump, cX12_jump, 2, some .int)
def uX10_fewestJumps : MI := (RX10, yX10_fewestJumps, cX10_fewestJumps, 3, some .int)
def uX10_furthestPlace : MI := (RX10, yX10_furthestPlace, cX10_furthestPlace, 3, some .int)
def uX11_jumps : MI := (RX11, yX11_jumps, cX11_jumps, 2, some .int)
def uX12_lesser : MI := (RX12, yX12_lesser, cX12_lesser, 3, some .int)
def uX12_jumps : MI := (RX12, yX12_jumps, cX12_jumps, 5, some .int)
def uX5_walksFrom : MI := (RX5, yX5_walksFrom, cX5_walksFrom, 5, some .int)
def uX5_walksTo : MI := (RX5, yX5_walksTo, cX5_walksTo, 3, some .int)
def uX11_walks : MI := (RX11, yX11_walks, cX11_walks, 4, some .int)
def uX12_walkEnds : MI := (RX12, yX12_walkEnds, cX12_walkEnds, 8, some .int)
def uX12_walks : MI := (RX12, yX12_walks, cX12_walks, 8, some .int)
def uX5_leastApart : MI := (RX5, yX5_leastApart, cX5_leastApart, 5, some .int)
def uX11_apart : MI := (RX11, yX11_apart, cX11_apart, 3, some .int)
def uX12_apart : MI := (RX12, yX12_apart, cX12_apart, 5, some .int)
def uX5_cornersUpTo : MI := (RX5, yX5_cornersUpTo, cX5_cornersUpTo, 6, some .int)
def uX5_cornersAround : MI := (RX5, yX5_cornersAround, cX5_cornersAround, 5, some .int)
def uX11_corners : MI := (RX11, yX11_corners, cX11_corners, 3, some .int)
def uX12_corners : MI := (RX12, yX12_corners, cX12_corners, 7, some .int)
def uX5_sumOfParts : MI := (RX5, yX5_sumOfParts, cX5_sumOfParts, 3, some .int)
def uX5_chainOfParts : MI := (RX5, yX5_chainOfParts, cX5_chainOfParts, 5, some .int)
def uX11_parts : MI := (RX11, yX11_parts, cX11_parts, 3, some .int)
def uX12_partsTogether : MI := (RX12, yX12_partsTogether, cX12_partsTogether, 4, some .int)
def uX12_parts : MI := (RX12, yX12_parts, cX12_parts, 5, some .int)
def uX5_ofDigits : MI := (RX5, yX5_ofDigits, cX5_ofDigits, 4, some .int)
def uX5_lasting : MI := (RX5, yX5_lasting, cX5_lasting, 5, some .int)
def uX11_lasts : MI := (RX11, yX11_lasts, cX11_lasts, 3, some .int)
def uX12_digitsOf : MI := (RX12, yX12_digitsOf, cX12_digitsOf, 5, some .int)
def uX12_lasts : MI := (RX12, yX12_lasts, cX12_lasts, 5, some .int)
def uX11_turn : MI := (RX11, yX11_turn, cX11_turn, 2, some .int)
def uX12_turn : MI := (RX12, yX12_turn, cX12_turn, 2, some .int)
def uX10_stand : MI := (RX10, yX10_stand, cX10_stand, 6, some .int)
def uX10_turned : MI := (RX10, yX10_turned, cX10_turned, 12, some .int)
def uX11_turning : MI := (RX11, yX11_turning, cX11_turning, 2, some .int)
def uX12_turning : MI := (RX12, yX12_turning, cX12_turning, 9, some .int)
def uJ13_bitCount_95d88 : MI := (RJ13, yJ13_bitCount_95d88, cJ13_bitCount_95d88, 2, some .int)
def uX5_antWalk : MI := (RX5, yX5_antWalk, cX5_antWalk, 12, some .int)
def uX11_ant : MI := (RX11, yX11_ant, cX11_ant, 3, some .int)
def uX12_ant : MI := (RX12, yX12_ant, cX12_ant, 9, some .int)
def uX5_nextRow : MI := (RX5, yX5_nextRow, cX5_nextRow, 7, some .int)
def uX11_row : MI := (RX11, yX11_row, cX11_row, 6, some .int)
def uX12_row : MI := (RX12, yX12_row, cX12_row, 9, some .int)
def uX5_ownDifference : MI := (RX5, yX5_ownDifference, cX5_ownDifference, 7, some .int)
def uX5_ownDifferences : MI := (RX5, yX5_ownDifferences, cX5_ownDifferences, 5, some .int)
def uX11_own : MI := (RX11, yX11_own, cX11_own, 3, some .int)
def uX12_ownOf : MI := (RX12, yX12_ownOf, cX12_ownOf, 7, some .int)
def uX12_own : MI := (RX12, yX12_own, cX12_own, 6, some .int)
def uX5_shifted : MI := (RX5, yX5_shifted, cX5_shifted, 7, some .int)
def uX5_timesRound : MI := (RX5, yX5_timesRound, cX5_timesRound, 5, some .int)
def uX11_round : MI := (RX11, yX11_round, cX11_round, 6, some .int)
def uX12_roundOf : MI := (RX12, yX12_roundOf, cX12_roundOf, 4, some .int)
def uX12_round : MI := (RX12, yX12_round, cX12_round, 7, some .int)
def uX11_nine : MI := (RX11, yX11_nine, cX11_nine, 3, some .boolean)
def uX12_nine : MI := (RX12, yX12_nine, cX12_nine, 3, some .boolean)
def uX10_sumOf : MI := (RX10, yX10_sumOf, cX10_sumOf, 3, some .int)
def uX10_linesOfSum : MI := (RX10, yX10_linesOfSum, cX10_linesOfSum, 4, some .int)
def uX10_waysToEven : MI := (RX10, yX10_waysToEven, cX10_waysToEven, 5, some .int)
def uX11_even : MI := (RX11, yX11_even, cX11_even, 2, some .int)
def uX12_lineSum : MI := (RX12, yX12_lineSum, cX12_lineSum, 4, some .int)
def uX12_linesThatCome : MI := (RX12, yX12_linesThatCome, cX12_linesThatCome, 4, some .int)
def uX12_even : MI := (RX12, yX12_even, cX12_even, 6, some .int)
def uX11_rule : MI := (RX11, yX11_rule, cX11_rule, 3, some .int)
def uX12_rule : MI := (RX12, yX12_rule, cX12_rule, 4, some .int)
def uX10_leastStep : MI := (RX10, yX10_leastStep, cX10_leastStep, 6, some .int)
def uX10_workWins : MI := (RX10, yX10_workWins, cX10_workWins, 3, none)
def uX10_winningStep : MI := (RX10, yX10_winningStep, cX10_winningStep, 2, some .int)
def uX10_winningSquares : MI := (RX10, yX10_winningSquares, cX10_winningSquares, 4, some .int)
def uX11_game : MI := (RX11, yX11_game, cX11_game, 3, some .int)
def uX12_isBarred : MI := (RX12, yX12_isBarred, cX12_isBarred, 3, some .boolean)
def uX12_goodStep : MI := (RX12, yX12_goodStep, cX12_goodStep, 5, some .int)
def uX12_game : MI := (RX12, yX12_game, cX12_game, 5, some .int)
def uX6_goBack : MI := (RX6, yX6_goBack, cX6_goBack, 2, some .boolean)
def uX11_undo : MI := (RX11, yX11_undo, cX11_undo, 1, some .boolean)
def uX12_undo : MI := (RX12, yX12_undo, cX12_undo, 2, some .boolean)
def uX7_copyFrom : MI := (RX7, yX7_copyFrom, cX7_copyFrom, 2, none)
def uX10_copyFrom : MI := (RX10, yX10_copyFrom, cX10_copyFrom, 2, none)
def uX0_copyFrom : MI := (RX0, yX0_copyFrom, cX0_copyFrom, 2, none)
def uX11_image : MI := (RX11, yX11_image, cX11_image, 2, some .boolean)
def uX12_keeps : MI := (RX12, yX12_keeps, cX12_keeps, 2, some .int)
def uX12_keepsTold : MI := (RX12, yX12_keepsTold, cX12_keepsTold, 2, none)
def uX12_keepsLaw : MI := (RX12, yX12_keepsLaw, cX12_keepsLaw, 2, none)
def uX12_image : MI := (RX12, yX12_image, cX12_image, 3, some .boolean)
def uX11_look : MI := (RX11, yX11_look, cX11_look, 3, some .int)
def uX12_look : MI := (RX12, yX12_look, cX12_look, 2, some .int)
def uL_law : MI := (RL, yL_law, cL_law, 4, some .boolean)
def uJ0_length_8abf5 : MI := (RJ0, yJ0_length_8abf5, cJ0_length_8abf5, 1, some .int)
def uJ0_charAt_5068e : MI := (RJ0, yJ0_charAt_5068e, cJ0_charAt_5068e, 2, some .char)
def uJ0_coder_7d493 : MI := (RJ0, yJ0_coder_7d493, cJ0_coder_7d493, 1, some .byte)
def uJ0_isLatin1_aae02 : MI := (RJ0, yJ0_isLatin1_aae02, cJ0_isLatin1_aae02, 1, some .boolean)
def uJ0_checkIndex_df160 : MI := (RJ0, yJ0_checkIndex_df160, cJ0_checkIndex_df160, 2, none)
def uJ1_charAt_3b067 : MI := (RJ1, yJ1_charAt_3b067, cJ1_charAt_3b067, 2, some .char)
def uJ3_checkIndex_8e157 : MI := (RJ3, yJ3_checkIndex_8e157, cJ3_checkIndex_8e157, 3, some .int)
theorem cx_X6 : plainName RX6 = true ∧ (RX6 ≠ "java/lang/invoke/MethodHandle" ∧ RX6 ≠ "java/lang/invoke/VarHandle") ∧ Cond.initialized RX6 ∈ tb := ⟨by decide +kernel, ⟨by decide +kernel, by decide +kernel⟩, tbs1 9 rfl rfl⟩
theorem mX6_forget : MOK uX6_forget := ⟨cx_X6.1, rfl, tbs2 200 rfl rfl, cx_X6.2.2, cx_X6.2.1, Nat.le_of_ble_eq_true rfl⟩
theorem bX6_forget : CVB uX6_forget 0 6 4 := ⟨mX6_forget, tbs2 198 rfl rfl, tbs2 199 rfl rfl, by decide +kernel, by decide, TX6, rfl⟩
theorem cx_X11 : plainName RX11 = true ∧ (RX11 ≠ "java/lang/invoke/MethodHandle" ∧ RX11 ≠ "java/lang/invoke/VarHandle") ∧ Cond.initialized RX11 ∈ tb := ⟨by decide +kernel, ⟨by decide +kernel, by decide +kernel⟩, tbs1 1 rfl rfl⟩
theorem mX11_state : MOK uX11_state := ⟨cx_X11.1, rfl, tbs2 196 rfl rfl, cx_X11.2.2, cx_X11.2.1, Nat.le_of_ble_eq_true rfl⟩
theorem bX11_state : CVB uX11_state 1 11 9 := ⟨mX11_state, tbs2 194 rfl rfl, tbs2 195 rfl rfl, by decide +kernel, by decide, TX11, rfl⟩
theorem cx_X12 : plainName RX12 = true ∧ (RX12 ≠ "java/lang/invoke/MethodHandle" ∧ RX12 ≠ "java/lang/invoke/VarHandle") ∧ Cond.initialized RX12 ∈ tb := ⟨by decide +kernel, ⟨by decide +kernel, by decide +kernel⟩, tbs1 14 rfl rfl⟩
theorem mX12_state : MOK uX12_state := ⟨cx_X12.1, rfl, tbs6 106 rfl rfl, cx_X12.2.2, cx_X12.2.1, Nat.le_of_ble_eq_true rfl⟩
theorem bX12_state : CVB uX12_state 1 12 62 := ⟨mX12_state, tbs6 104 rfl rfl, tbs6 105 rfl rfl, by decide +kernel, by decide, TX12, rfl⟩
theorem mX11_isWithin : MOK uX11_isWithin := ⟨cx_X11.1, rfl, tbs2 207 rfl rfl, cx_X11.2.2, cx_X11.2.1, Nat.le_of_ble_eq_true rfl⟩
theorem bX11_isWithin : CSB uX11_isWithin 3 := ⟨mX11_isWithin, tbs2 206 rfl rfl, by decide +kernel⟩
theorem cx_X9 : plainName RX9 = true ∧ (RX9 ≠ "java/lang/invoke/MethodHandle" ∧ RX9 ≠ "java/lang/invoke/VarHandle") ∧ Cond.initialized RX9 ∈ tb := ⟨by decide +kernel, ⟨by decide +kernel, by decide +kernel⟩, tbs1 3 rfl rfl⟩
theorem mX9_addPerson : MOK uX9_addPerson := ⟨cx_X9.1, rfl, tbs2 211 rfl rfl, cx_X9.2.2, cx_X9.2.1, Nat.le_of_ble_eq_true rfl⟩
theorem bX9_addPerson : CVB uX9_addPerson 1 9 15 := ⟨mX9_addPerson, tbs2 209 rfl rfl, tbs2 210 rfl rfl, by decide +kernel, by decide, TX9, rfl⟩
theorem mX11_person : MOK uX11_person := ⟨cx_X11.1, rfl, tbs2 204 rfl rfl, cx_X11.2.2, cx_X11.2.1, Nat.le_of_ble_eq_true rfl⟩
theorem bX11_person : CVB uX11_person 1 11 9 := ⟨mX11_person, tbs2 202 rfl rfl, tbs2 203 rfl rfl, by decide +kernel, by decide, TX11, rfl⟩
theorem mX12_isIn : MOK uX12_isIn := ⟨cx_X12.1, rfl, tbs6 114 rfl rfl, cx_X12.2.2, cx_X12.2.1, Nat.le_of_ble_eq_true rfl⟩
theorem bX12_isIn : CVB uX12_isIn 3 12 62 := ⟨mX12_isIn, tbs6 113 rfl rfl, tbm 21 (by decide +kernel) rfl, by decide +kernel, by decide, TX12, rfl⟩
theorem mX12_person : MOK uX12_person := ⟨cx_X12.1, rfl, tbs6 110 rfl rfl, cx_X12.2.2, cx_X12.2.1, Nat.le_of_ble_eq_true rfl⟩
theorem bX12_person : CVB uX12_person 1 12 62 := ⟨mX12_person, tbs6 108 rfl rfl, tbs6 109 rfl rfl, by decide +kernel, by decide, TX12, rfl⟩
theorem mX9_hasPerson : MOK uX9_hasPerson := ⟨cx_X9.1, rfl, tbs2 223 rfl rfl, cx_X9.2.2, cx_X9.2.1, Nat.le_of_ble_eq_true rfl⟩
theorem bX9_hasPerson : CVB uX9_hasPerson 1 9 15 := ⟨mX9_hasPerson, tbs2 221 rfl rfl, tbs2 222 rfl rfl, by decide +kernel, by decide, TX9, rfl⟩
theorem mX9_areTwo : MOK uX9_areTwo := ⟨cx_X9.1, rfl, tbs2 219 rfl rfl, cx_X9.2.2, cx_X9.2.1, Nat.le_of_ble_eq_true rfl⟩
theorem bX9_areTwo : CVB uX9_areTwo 2 9 15 := ⟨mX9_areTwo, tbs2 217 rfl rfl, tbs2 218 rfl rfl, by decide +kernel, by decide, TX9, rfl⟩
theorem mX9_addBargain : MOK uX9_addBargain := ⟨cx_X9.1, rfl, tbs2 227 rfl rfl, cx_X9.2.2, cx_X9.2.1, Nat.le_of_ble_eq_true rfl⟩
theorem bX9_addBargain : CVB uX9_addBargain 3 9 15 := ⟨mX9_addBargain, tbs2 225 rfl rfl, tbs2 226 rfl rfl, by decide +kernel, by decide, TX9, rfl⟩
theorem mX11_bargain : MOK uX11_bargain := ⟨cx_X11.1, rfl, tbs2 215 rfl rfl, cx_X11.2.2, cx_X11.2.1, Nat.le_of_ble_eq_true rfl⟩
theorem bX11_bargain : CVB uX11_bargain 3 11 9 := ⟨mX11_bargain, tbs2 213 rfl rfl, tbs2 214 rfl rfl, by decide +kernel, by decide, TX11, rfl⟩
theorem mX12_isPerson : MOK uX12_isPerson := ⟨cx_X12.1, rfl, tbs6 122 rfl rfl, cx_X12.2.2, cx_X12.2.1, Nat.le_of_ble_eq_true rfl⟩
theorem bX12_isPerson : CVB uX12_isPerson 1 12 62 := ⟨mX12_isPerson, tbs6 121 rfl rfl, tbm 22 (by decide +kernel) rfl, by decide +kernel, by decide, TX12, rfl⟩
theorem mX12_bargain : MOK uX12_bargain := ⟨cx_X12.1, rfl, tbs6 118 rfl rfl, cx_X12.2.2, cx_X12.2.1, Nat.le_of_ble_eq_true rfl⟩
theorem bX12_bargain : CVB uX12_bargain 3 12 62 := ⟨mX12_bargain, tbs6 116 rfl rfl, tbs6 117 rfl rfl, by decide +kernel, by decide, TX12, rfl⟩
theorem mX9_hasBargain : MOK uX9_hasBargain := ⟨cx_X9.1, rfl, tbs3 0 rfl rfl, cx_X9.2.2, cx_X9.2.1, Nat.le_of_ble_eq_true rfl⟩
theorem bX9_hasBargain : CVB uX9_hasBargain 1 9 15 := ⟨mX9_hasBargain, tbs2 238 rfl rfl, tbs2 239 rfl rfl, by decide +kernel, by decide, TX9, rfl⟩
theorem mX9_isOpen : MOK uX9_isOpen := ⟨cx_X9.1, rfl, tbs2 236 rfl rfl, cx_X9.2.2, cx_X9.2.1, Nat.le_of_ble_eq_true rfl⟩
theorem bX9_isOpen : CVB uX9_isOpen 1 9 15 := ⟨mX9_isOpen, tbs2 234 rfl rfl, tbs2 235 rfl rfl, by decide +kernel, by decide, TX9, rfl⟩
theorem mX11_set : MOK uX11_set := ⟨cx_X11.1, rfl, tbs2 231 rfl rfl, cx_X11.2.2, cx_X11.2.1, Nat.le_of_ble_eq_true rfl⟩
theorem bX11_set : CVB uX11_set 3 11 9 := ⟨mX11_set, tbs2 229 rfl rfl, tbs2 230 rfl rfl, by decide +kernel, by decide, TX11, rfl⟩
theorem mX12_isBargain : MOK uX12_isBargain := ⟨cx_X12.1, rfl, tbs6 130 rfl rfl, cx_X12.2.2, cx_X12.2.1, Nat.le_of_ble_eq_true rfl⟩
theorem bX12_isBargain : CVB uX12_isBargain 1 12 62 := ⟨mX12_isBargain, tbs6 129 rfl rfl, tbm 23 (by decide +kernel) rfl, by decide +kernel, by decide, TX12, rfl⟩
theorem mX12_set : MOK uX12_set := ⟨cx_X12.1, rfl, tbs6 126 rfl rfl, cx_X12.2.2, cx_X12.2.1, Nat.le_of_ble_eq_true rfl⟩
theorem bX12_set : CVB uX12_set 3 12 62 := ⟨mX12_set, tbs6 124 rfl rfl, tbs6 125 rfl rfl, by decide +kernel, by decide, TX12, rfl⟩
theorem mX9_hasSaid : MOK uX9_hasSaid := ⟨cx_X9.1, rfl, tbs3 12 rfl rfl, cx_X9.2.2, cx_X9.2.1, Nat.le_of_ble_eq_true rfl⟩
theorem bX9_hasSaid : CVB uX9_hasSaid 2 9 15 := ⟨mX9_hasSaid, tbs3 10 rfl rfl, tbs3 11 rfl rfl, by decide +kernel, by decide, TX9, rfl⟩
theorem mX9_canClear : MOK uX9_canClear := ⟨cx_X9.1, rfl, tbs3 16 rfl rfl, cx_X9.2.2, cx_X9.2.1, Nat.le_of_ble_eq_true rfl⟩
theorem bX9_canClear : CVB uX9_canClear 1 9 15 := ⟨mX9_canClear, tbs3 14 rfl rfl, tbs3 15 rfl rfl, by decide +kernel, by decide, TX9, rfl⟩
theorem mX11_canAct : MOK uX11_canAct := ⟨cx_X11.1, rfl, tbs3 8 rfl rfl, cx_X11.2.2, cx_X11.2.1, Nat.le_of_ble_eq_true rfl⟩
theorem bX11_canAct : CVB uX11_canAct 2 11 9 := ⟨mX11_canAct, tbs3 7 rfl rfl, tbm 0 (by decide +kernel) rfl, by decide +kernel, by decide, TX11, rfl⟩
theorem mX9_copyFrom : MOK uX9_copyFrom := ⟨cx_X9.1, rfl, tbs3 24 rfl rfl, cx_X9.2.2, cx_X9.2.1, Nat.le_of_ble_eq_true rfl⟩
theorem bX9_copyFrom : CVB uX9_copyFrom 1 9 15 := ⟨mX9_copyFrom, tbs3 22 rfl rfl, tbs3 23 rfl rfl, by decide +kernel, by decide, TX9, rfl⟩
theorem mX6_keep : MOK uX6_keep := ⟨cx_X6.1, rfl, tbs3 20 rfl rfl, cx_X6.2.2, cx_X6.2.1, Nat.le_of_ble_eq_true rfl⟩
theorem bX6_keep : CVB uX6_keep 2 6 4 := ⟨mX6_keep, tbs3 18 rfl rfl, tbs3 19 rfl rfl, by decide +kernel, by decide, TX6, rfl⟩
theorem mX9_whoIs : MOK uX9_whoIs := ⟨cx_X9.1, rfl, tbs3 38 rfl rfl, cx_X9.2.2, cx_X9.2.1, Nat.le_of_ble_eq_true rfl⟩
theorem bX9_whoIs : CVB uX9_whoIs 2 9 15 := ⟨mX9_whoIs, tbs3 36 rfl rfl, tbs3 37 rfl rfl, by decide +kernel, by decide, TX9, rfl⟩
theorem cx_X0 : plainName RX0 = true ∧ (RX0 ≠ "java/lang/invoke/MethodHandle" ∧ RX0 ≠ "java/lang/invoke/VarHandle") ∧ Cond.initialized RX0 ∈ tb := ⟨by decide +kernel, ⟨by decide +kernel, by decide +kernel⟩, tbs1 2 rfl rfl⟩
theorem mX0_hearersOf : MOK uX0_hearersOf := ⟨cx_X0.1, rfl, tbs3 51 rfl rfl, cx_X0.2.2, cx_X0.2.1, Nat.le_of_ble_eq_true rfl⟩
theorem bX0_hearersOf : CVB uX0_hearersOf 1 0 7 := ⟨mX0_hearersOf, tbs3 49 rfl rfl, tbs3 50 rfl rfl, by decide +kernel, by decide, TX0, rfl⟩
theorem cx_J6 : plainName RJ6 = true ∧ (RJ6 ≠ "java/lang/invoke/MethodHandle" ∧ RJ6 ≠ "java/lang/invoke/VarHandle") ∧ Cond.initialized RJ6 ∈ tb := ⟨by decide +kernel, ⟨by decide +kernel, by decide +kernel⟩, tbs1 16 rfl rfl⟩
theorem mJ6_bitCount_0f7a4 : MOK uJ6_bitCount_0f7a4 := ⟨cx_J6.1, rfl, tbs3 54 rfl rfl, cx_J6.2.2, cx_J6.2.1, Nat.le_of_ble_eq_true rfl⟩
theorem bJ6_bitCount_0f7a4 : CSB uJ6_bitCount_0f7a4 1 := ⟨mJ6_bitCount_0f7a4, tbs3 53 rfl rfl, by decide +kernel⟩
theorem cx_X1 : plainName RX1 = true ∧ (RX1 ≠ "java/lang/invoke/MethodHandle" ∧ RX1 ≠ "java/lang/invoke/VarHandle") ∧ Cond.initialized RX1 ∈ tb := ⟨by decide +kernel, ⟨by decide +kernel, by decide +kernel⟩, tbs1 6 rfl rfl⟩
theorem mX1_named : MOK uX1_named := ⟨cx_X1.1, rfl, tbs3 69 rfl rfl, cx_X1.2.2, cx_X1.2.1, Nat.le_of_ble_eq_true rfl⟩
theorem bX1_named : CVB uX1_named 1 1 9 := ⟨mX1_named, tbs3 68 rfl rfl, tbm 2 (by decide +kernel) rfl, by decide +kernel, by decide, TX1, rfl⟩
theorem mX1_joined : MOK uX1_joined := ⟨cx_X1.1, rfl, tbs3 72 rfl rfl, cx_X1.2.2, cx_X1.2.1, Nat.le_of_ble_eq_true rfl⟩
theorem bX1_joined : CSB uX1_joined 3 := ⟨mX1_joined, tbs3 71 rfl rfl, by decide +kernel⟩
theorem mX1_worked : MOK uX1_worked := ⟨cx_X1.1, rfl, tbs3 65 rfl rfl, cx_X1.2.2, cx_X1.2.1, Nat.le_of_ble_eq_true rfl⟩
theorem bX1_worked : CVB uX1_worked 2 1 9 := ⟨mX1_worked, tbs3 64 rfl rfl, tbm 1 (by decide +kernel) rfl, by decide +kernel, by decide, TX1, rfl⟩
theorem mX1_lineFor : MOK uX1_lineFor := ⟨cx_X1.1, rfl, tbs3 61 rfl rfl, cx_X1.2.2, cx_X1.2.1, Nat.le_of_ble_eq_true rfl⟩
theorem bX1_lineFor : CVB uX1_lineFor 1 1 9 := ⟨mX1_lineFor, tbs3 59 rfl rfl, tbs3 60 rfl rfl, by decide +kernel, by decide, TX1, rfl⟩
theorem mX0_withoutLaw : MOK uX0_withoutLaw := ⟨cx_X0.1, rfl, tbs3 76 rfl rfl, cx_X0.2.2, cx_X0.2.1, Nat.le_of_ble_eq_true rfl⟩
theorem bX0_withoutLaw : CVB uX0_withoutLaw 1 0 7 := ⟨mX0_withoutLaw, tbs3 75 rfl rfl, tbm 3 (by decide +kernel) rfl, by decide +kernel, by decide, TX0, rfl⟩
theorem mX1_valueOf : MOK uX1_valueOf := ⟨cx_X1.1, rfl, tbs3 80 rfl rfl, cx_X1.2.2, cx_X1.2.1, Nat.le_of_ble_eq_true rfl⟩
theorem bX1_valueOf : CVB uX1_valueOf 1 1 9 := ⟨mX1_valueOf, tbs3 78 rfl rfl, tbs3 79 rfl rfl, by decide +kernel, by decide, TX1, rfl⟩
theorem mX0_asked : MOK uX0_asked := ⟨cx_X0.1, rfl, tbs3 46 rfl rfl, cx_X0.2.2, cx_X0.2.1, Nat.le_of_ble_eq_true rfl⟩
theorem bX0_asked : CVB uX0_asked 5 0 7 := ⟨mX0_asked, tbs3 44 rfl rfl, tbs3 45 rfl rfl, by decide +kernel, by decide, TX0, rfl⟩
theorem mX9_drawn : MOK uX9_drawn := ⟨cx_X9.1, rfl, tbs3 86 rfl rfl, cx_X9.2.2, cx_X9.2.1, Nat.le_of_ble_eq_true rfl⟩
theorem bX9_drawn : CVB uX9_drawn 1 9 15 := ⟨mX9_drawn, tbs3 84 rfl rfl, tbs3 85 rfl rfl, by decide +kernel, by decide, TX9, rfl⟩
theorem cx_X3 : plainName RX3 = true ∧ (RX3 ≠ "java/lang/invoke/MethodHandle" ∧ RX3 ≠ "java/lang/invoke/VarHandle") ∧ Cond.initialized RX3 ∈ tb := ⟨by decide +kernel, ⟨by decide +kernel, by decide +kernel⟩, tbs1 4 rfl rfl⟩
theorem mX3_append : MOK uX3_append := ⟨cx_X3.1, rfl, tbs3 96 rfl rfl, cx_X3.2.2, cx_X3.2.1, Nat.le_of_ble_eq_true rfl⟩
theorem bX3_append : CVB uX3_append 4 3 6 := ⟨mX3_append, tbs3 94 rfl rfl, tbs3 95 rfl rfl, by decide +kernel, by decide, TX3, rfl⟩
theorem mX0_note : MOK uX0_note := ⟨cx_X0.1, rfl, tbs3 92 rfl rfl, cx_X0.2.2, cx_X0.2.1, Nat.le_of_ble_eq_true rfl⟩
theorem bX0_note : CVB uX0_note 5 0 7 := ⟨mX0_note, tbs3 91 rfl rfl, tbm 4 (by decide +kernel) rfl, by decide +kernel, by decide, TX0, rfl⟩
theorem mX0_twist : MOK uX0_twist := ⟨cx_X0.1, rfl, tbs3 34 rfl rfl, cx_X0.2.2, cx_X0.2.1, Nat.le_of_ble_eq_true rfl⟩
theorem bX0_twist : CVB uX0_twist 4 0 7 := ⟨mX0_twist, tbs3 32 rfl rfl, tbs3 33 rfl rfl, by decide +kernel, by decide, TX0, rfl⟩
theorem mX9_makeClear : MOK uX9_makeClear := ⟨cx_X9.1, rfl, tbs3 100 rfl rfl, cx_X9.2.2, cx_X9.2.1, Nat.le_of_ble_eq_true rfl⟩
theorem bX9_makeClear : CVB uX9_makeClear 1 9 15 := ⟨mX9_makeClear, tbs3 98 rfl rfl, tbs3 99 rfl rfl, by decide +kernel, by decide, TX9, rfl⟩
theorem mX0_blurAway : MOK uX0_blurAway := ⟨cx_X0.1, rfl, tbs3 105 rfl rfl, cx_X0.2.2, cx_X0.2.1, Nat.le_of_ble_eq_true rfl⟩
theorem bX0_blurAway : CVB uX0_blurAway 3 0 7 := ⟨mX0_blurAway, tbs3 103 rfl rfl, tbs3 104 rfl rfl, by decide +kernel, by decide, TX0, rfl⟩
theorem mX11_act : MOK uX11_act := ⟨cx_X11.1, rfl, tbs3 4 rfl rfl, cx_X11.2.2, cx_X11.2.1, Nat.le_of_ble_eq_true rfl⟩
theorem bX11_act : CVB uX11_act 2 11 9 := ⟨mX11_act, tbs3 2 rfl rfl, tbs3 3 rfl rfl, by decide +kernel, by decide, TX11, rfl⟩
theorem mX12_has : MOK uX12_has := ⟨cx_X12.1, rfl, tbs7 58 rfl rfl, cx_X12.2.2, cx_X12.2.1, Nat.le_of_ble_eq_true rfl⟩
theorem bX12_has : CVB uX12_has 2 12 62 := ⟨mX12_has, tbs7 57 rfl rfl, tbm 60 (by decide +kernel) rfl, by decide +kernel, by decide, TX12, rfl⟩
theorem mX12_canHop : MOK uX12_canHop := ⟨cx_X12.1, rfl, tbs7 54 rfl rfl, cx_X12.2.2, cx_X12.2.1, Nat.le_of_ble_eq_true rfl⟩
theorem bX12_canHop : CVB uX12_canHop 2 12 62 := ⟨mX12_canHop, tbs7 53 rfl rfl, tbm 59 (by decide +kernel) rfl, by decide +kernel, by decide, TX12, rfl⟩
theorem mX12_canAct : MOK uX12_canAct := ⟨cx_X12.1, rfl, tbs7 50 rfl rfl, cx_X12.2.2, cx_X12.2.1, Nat.le_of_ble_eq_true rfl⟩
theorem bX12_canAct : CVB uX12_canAct 2 12 62 := ⟨mX12_canAct, tbs7 49 rfl rfl, tbm 58 (by decide +kernel) rfl, by decide +kernel, by decide, TX12, rfl⟩
theorem mX12_keepsAhead : MOK uX12_keepsAhead := ⟨cx_X12.1, rfl, tbs7 62 rfl rfl, cx_X12.2.2, cx_X12.2.1, Nat.le_of_ble_eq_true rfl⟩
theorem bX12_keepsAhead : CVB uX12_keepsAhead 0 12 62 := ⟨mX12_keepsAhead, tbs7 61 rfl rfl, tbm 61 (by decide +kernel) rfl, by decide +kernel, by decide, TX12, rfl⟩
theorem mX12_hopperOf : MOK uX12_hopperOf := ⟨cx_X12.1, rfl, tbs7 70 rfl rfl, cx_X12.2.2, cx_X12.2.1, Nat.le_of_ble_eq_true rfl⟩
theorem bX12_hopperOf : CVB uX12_hopperOf 2 12 62 := ⟨mX12_hopperOf, tbs7 69 rfl rfl, tbm 63 (by decide +kernel) rfl, by decide +kernel, by decide, TX12, rfl⟩
theorem mX12_onesOf : MOK uX12_onesOf := ⟨cx_X12.1, rfl, tbs7 82 rfl rfl, cx_X12.2.2, cx_X12.2.1, Nat.le_of_ble_eq_true rfl⟩
theorem bX12_onesOf : CVB uX12_onesOf 1 12 62 := ⟨mX12_onesOf, tbs7 81 rfl rfl, tbm 66 (by decide +kernel) rfl, by decide +kernel, by decide, TX12, rfl⟩
theorem mX12_asks : MOK uX12_asks := ⟨cx_X12.1, rfl, tbs7 78 rfl rfl, cx_X12.2.2, cx_X12.2.1, Nat.le_of_ble_eq_true rfl⟩
theorem bX12_asks : CVB uX12_asks 3 12 62 := ⟨mX12_asks, tbs7 77 rfl rfl, tbm 65 (by decide +kernel) rfl, by decide +kernel, by decide, TX12, rfl⟩
theorem mX12_twoOf : MOK uX12_twoOf := ⟨cx_X12.1, rfl, tbs7 98 rfl rfl, cx_X12.2.2, cx_X12.2.1, Nat.le_of_ble_eq_true rfl⟩
theorem bX12_twoOf : CVB uX12_twoOf 3 12 62 := ⟨mX12_twoOf, tbs7 97 rfl rfl, tbm 70 (by decide +kernel) rfl, by decide +kernel, by decide, TX12, rfl⟩
theorem mX12_runs : MOK uX12_runs := ⟨cx_X12.1, rfl, tbs7 94 rfl rfl, cx_X12.2.2, cx_X12.2.1, Nat.le_of_ble_eq_true rfl⟩
theorem bX12_runs : CVB uX12_runs 3 12 62 := ⟨mX12_runs, tbs7 93 rfl rfl, tbm 69 (by decide +kernel) rfl, by decide +kernel, by decide, TX12, rfl⟩
theorem mX12_lineOf : MOK uX12_lineOf := ⟨cx_X12.1, rfl, tbs7 90 rfl rfl, cx_X12.2.2, cx_X12.2.1, Nat.le_of_ble_eq_true rfl⟩
theorem bX12_lineOf : CVB uX12_lineOf 1 12 62 := ⟨mX12_lineOf, tbs7 89 rfl rfl, tbm 68 (by decide +kernel) rfl, by decide +kernel, by decide, TX12, rfl⟩
theorem mX12_held : MOK uX12_held := ⟨cx_X12.1, rfl, tbs7 102 rfl rfl, cx_X12.2.2, cx_X12.2.1, Nat.le_of_ble_eq_true rfl⟩
theorem bX12_held : CVB uX12_held 3 12 62 := ⟨mX12_held, tbs7 101 rfl rfl, tbm 71 (by decide +kernel) rfl, by decide +kernel, by decide, TX12, rfl⟩
theorem mX12_lawTells : MOK uX12_lawTells := ⟨cx_X12.1, rfl, tbs7 86 rfl rfl, cx_X12.2.2, cx_X12.2.1, Nat.le_of_ble_eq_true rfl⟩
theorem bX12_lawTells : CVB uX12_lawTells 3 12 62 := ⟨mX12_lawTells, tbs7 85 rfl rfl, tbm 67 (by decide +kernel) rfl, by decide +kernel, by decide, TX12, rfl⟩
theorem mX12_landsOn : MOK uX12_landsOn := ⟨cx_X12.1, rfl, tbs7 74 rfl rfl, cx_X12.2.2, cx_X12.2.1, Nat.le_of_ble_eq_true rfl⟩
theorem bX12_landsOn : CVB uX12_landsOn 3 12 62 := ⟨mX12_landsOn, tbs7 73 rfl rfl, tbm 64 (by decide +kernel) rfl, by decide +kernel, by decide, TX12, rfl⟩
theorem mX12_draw : MOK uX12_draw := ⟨cx_X12.1, rfl, tbs7 110 rfl rfl, cx_X12.2.2, cx_X12.2.1, Nat.le_of_ble_eq_true rfl⟩
theorem bX12_draw : CVB uX12_draw 1 12 62 := ⟨mX12_draw, tbs7 109 rfl rfl, tbm 73 (by decide +kernel) rfl, by decide +kernel, by decide, TX12, rfl⟩
theorem mX12_happens : MOK uX12_happens := ⟨cx_X12.1, rfl, tbs7 106 rfl rfl, cx_X12.2.2, cx_X12.2.1, Nat.le_of_ble_eq_true rfl⟩
theorem bX12_happens : CVB uX12_happens 1 12 62 := ⟨mX12_happens, tbs7 105 rfl rfl, tbm 72 (by decide +kernel) rfl, by decide +kernel, by decide, TX12, rfl⟩
theorem mX12_costsOn : MOK uX12_costsOn := ⟨cx_X12.1, rfl, tbs7 116 rfl rfl, cx_X12.2.2, cx_X12.2.1, Nat.le_of_ble_eq_true rfl⟩
theorem bX12_costsOn : CVB uX12_costsOn 3 12 62 := ⟨mX12_costsOn, tbs7 115 rfl rfl, tbm 74 (by decide +kernel) rfl, by decide +kernel, by decide, TX12, rfl⟩
theorem mX12_notes : MOK uX12_notes := ⟨cx_X12.1, rfl, tbs7 120 rfl rfl, cx_X12.2.2, cx_X12.2.1, Nat.le_of_ble_eq_true rfl⟩
theorem bX12_notes : CVB uX12_notes 3 12 62 := ⟨mX12_notes, tbs7 119 rfl rfl, tbm 75 (by decide +kernel) rfl, by decide +kernel, by decide, TX12, rfl⟩
theorem mX12_hopsOver : MOK uX12_hopsOver := ⟨cx_X12.1, rfl, tbs7 66 rfl rfl, cx_X12.2.2, cx_X12.2.1, Nat.le_of_ble_eq_true rfl⟩
theorem bX12_hopsOver : CVB uX12_hopsOver 2 12 62 := ⟨mX12_hopsOver, tbs7 65 rfl rfl, tbm 62 (by decide +kernel) rfl, by decide +kernel, by decide, TX12, rfl⟩
theorem mX12_isCleared : MOK uX12_isCleared := ⟨cx_X12.1, rfl, tbs7 124 rfl rfl, cx_X12.2.2, cx_X12.2.1, Nat.le_of_ble_eq_true rfl⟩
theorem bX12_isCleared : CVB uX12_isCleared 1 12 62 := ⟨mX12_isCleared, tbs7 123 rfl rfl, tbm 76 (by decide +kernel) rfl, by decide +kernel, by decide, TX12, rfl⟩
theorem mX12_isBlurred : MOK uX12_isBlurred := ⟨cx_X12.1, rfl, tbs7 128 rfl rfl, cx_X12.2.2, cx_X12.2.1, Nat.le_of_ble_eq_true rfl⟩
theorem bX12_isBlurred : CVB uX12_isBlurred 1 12 62 := ⟨mX12_isBlurred, tbs7 127 rfl rfl, tbm 77 (by decide +kernel) rfl, by decide +kernel, by decide, TX12, rfl⟩
theorem mX12_act : MOK uX12_act := ⟨cx_X12.1, rfl, tbs7 46 rfl rfl, cx_X12.2.2, cx_X12.2.1, Nat.le_of_ble_eq_true rfl⟩
theorem bX12_act : CVB uX12_act 2 12 62 := ⟨mX12_act, tbs7 44 rfl rfl, tbs7 45 rfl rfl, by decide +kernel, by decide, TX12, rfl⟩
theorem mX0_tellEvening : MOK uX0_tellEvening := ⟨cx_X0.1, rfl, tbs3 117 rfl rfl, cx_X0.2.2, cx_X0.2.1, Nat.le_of_ble_eq_true rfl⟩
theorem bX0_tellEvening : CVB uX0_tellEvening 2 0 7 := ⟨mX0_tellEvening, tbs3 116 rfl rfl, tbm 5 (by decide +kernel) rfl, by decide +kernel, by decide, TX0, rfl⟩
theorem mX0_blurSome : MOK uX0_blurSome := ⟨cx_X0.1, rfl, tbs3 123 rfl rfl, cx_X0.2.2, cx_X0.2.1, Nat.le_of_ble_eq_true rfl⟩
theorem bX0_blurSome : CVB uX0_blurSome 3 0 7 := ⟨mX0_blurSome, tbs3 122 rfl rfl, tbm 6 (by decide +kernel) rfl, by decide +kernel, by decide, TX0, rfl⟩
theorem mX0_goDay : MOK uX0_goDay := ⟨cx_X0.1, rfl, tbs3 113 rfl rfl, cx_X0.2.2, cx_X0.2.1, Nat.le_of_ble_eq_true rfl⟩
theorem bX0_goDay : CVB uX0_goDay 2 0 7 := ⟨mX0_goDay, tbs3 111 rfl rfl, tbs3 112 rfl rfl, by decide +kernel, by decide, TX0, rfl⟩
theorem mX11_days : MOK uX11_days := ⟨cx_X11.1, rfl, tbs3 109 rfl rfl, cx_X11.2.2, cx_X11.2.1, Nat.le_of_ble_eq_true rfl⟩
theorem bX11_days : CVB uX11_days 1 11 9 := ⟨mX11_days, tbs3 107 rfl rfl, tbs3 108 rfl rfl, by decide +kernel, by decide, TX11, rfl⟩
theorem mX12_comes : MOK uX12_comes := ⟨cx_X12.1, rfl, tbs7 140 rfl rfl, cx_X12.2.2, cx_X12.2.1, Nat.le_of_ble_eq_true rfl⟩
theorem bX12_comes : CVB uX12_comes 1 12 62 := ⟨mX12_comes, tbs7 139 rfl rfl, tbm 79 (by decide +kernel) rfl, by decide +kernel, by decide, TX12, rfl⟩
theorem mX12_wipesOf : MOK uX12_wipesOf := ⟨cx_X12.1, rfl, tbs7 144 rfl rfl, cx_X12.2.2, cx_X12.2.1, Nat.le_of_ble_eq_true rfl⟩
theorem bX12_wipesOf : CVB uX12_wipesOf 1 12 62 := ⟨mX12_wipesOf, tbs7 143 rfl rfl, tbm 80 (by decide +kernel) rfl, by decide +kernel, by decide, TX12, rfl⟩
theorem mX12_greater : MOK uX12_greater := ⟨cx_X12.1, rfl, tbs7 148 rfl rfl, cx_X12.2.2, cx_X12.2.1, Nat.le_of_ble_eq_true rfl⟩
theorem bX12_greater : CVB uX12_greater 2 12 62 := ⟨mX12_greater, tbs7 147 rfl rfl, tbm 81 (by decide +kernel) rfl, by decide +kernel, by decide, TX12, rfl⟩
theorem mX12_goesBy : MOK uX12_goesBy := ⟨cx_X12.1, rfl, tbs7 136 rfl rfl, cx_X12.2.2, cx_X12.2.1, Nat.le_of_ble_eq_true rfl⟩
theorem bX12_goesBy : CVB uX12_goesBy 0 12 62 := ⟨mX12_goesBy, tbs7 135 rfl rfl, tbm 78 (by decide +kernel) rfl, by decide +kernel, by decide, TX12, rfl⟩
theorem mX12_days : MOK uX12_days := ⟨cx_X12.1, rfl, tbs7 132 rfl rfl, cx_X12.2.2, cx_X12.2.1, Nat.le_of_ble_eq_true rfl⟩
theorem bX12_days : CVB uX12_days 1 12 62 := ⟨mX12_days, tbs7 130 rfl rfl, tbs7 131 rfl rfl, by decide +kernel, by decide, TX12, rfl⟩
theorem cx_X8 : plainName RX8 = true ∧ (RX8 ≠ "java/lang/invoke/MethodHandle" ∧ RX8 ≠ "java/lang/invoke/VarHandle") ∧ Cond.initialized RX8 ∈ tb := ⟨by decide +kernel, ⟨by decide +kernel, by decide +kernel⟩, tbs1 10 rfl rfl⟩
theorem mX8_append : MOK uX8_append := ⟨cx_X8.1, rfl, tbs3 132 rfl rfl, cx_X8.2.2, cx_X8.2.1, Nat.le_of_ble_eq_true rfl⟩
theorem bX8_append : CVB uX8_append 1 8 9 := ⟨mX8_append, tbs3 130 rfl rfl, tbs3 131 rfl rfl, by decide +kernel, by decide, TX8, rfl⟩
theorem mX11_feed : MOK uX11_feed := ⟨cx_X11.1, rfl, tbs3 128 rfl rfl, cx_X11.2.2, cx_X11.2.1, Nat.le_of_ble_eq_true rfl⟩
theorem bX11_feed : CVB uX11_feed 5 11 9 := ⟨mX11_feed, tbs3 126 rfl rfl, tbs3 127 rfl rfl, by decide +kernel, by decide, TX11, rfl⟩
theorem mX12_types : MOK uX12_types := ⟨cx_X12.1, rfl, tbs6 138 rfl rfl, cx_X12.2.2, cx_X12.2.1, Nat.le_of_ble_eq_true rfl⟩
theorem bX12_types : CVB uX12_types 1 12 62 := ⟨mX12_types, tbs6 137 rfl rfl, tbm 24 (by decide +kernel) rfl, by decide +kernel, by decide, TX12, rfl⟩
theorem mX12_feed : MOK uX12_feed := ⟨cx_X12.1, rfl, tbs6 134 rfl rfl, cx_X12.2.2, cx_X12.2.1, Nat.le_of_ble_eq_true rfl⟩
theorem bX12_feed : CVB uX12_feed 5 12 62 := ⟨mX12_feed, tbs6 132 rfl rfl, tbs6 133 rfl rfl, by decide +kernel, by decide, TX12, rfl⟩
theorem mX11_end : MOK uX11_end := ⟨cx_X11.1, rfl, tbs3 136 rfl rfl, cx_X11.2.2, cx_X11.2.1, Nat.le_of_ble_eq_true rfl⟩
theorem bX11_end : CVB uX11_end 1 11 9 := ⟨mX11_end, tbs3 134 rfl rfl, tbs3 135 rfl rfl, by decide +kernel, by decide, TX11, rfl⟩
theorem mX12_end : MOK uX12_end := ⟨cx_X12.1, rfl, tbs6 142 rfl rfl, cx_X12.2.2, cx_X12.2.1, Nat.le_of_ble_eq_true rfl⟩
theorem bX12_end : CVB uX12_end 1 12 62 := ⟨mX12_end, tbs6 140 rfl rfl, tbs6 141 rfl rfl, by decide +kernel, by decide, TX12, rfl⟩
theorem mX8_kindAt : MOK uX8_kindAt := ⟨cx_X8.1, rfl, tbs3 152 rfl rfl, cx_X8.2.2, cx_X8.2.1, Nat.le_of_ble_eq_true rfl⟩
theorem bX8_kindAt : CVB uX8_kindAt 1 8 9 := ⟨mX8_kindAt, tbs3 151 rfl rfl, tbm 7 (by decide +kernel) rfl, by decide +kernel, by decide, TX8, rfl⟩
theorem mX8_advance : MOK uX8_advance := ⟨cx_X8.1, rfl, tbs3 148 rfl rfl, cx_X8.2.2, cx_X8.2.1, Nat.le_of_ble_eq_true rfl⟩
theorem bX8_advance : CVB uX8_advance 0 8 9 := ⟨mX8_advance, tbs3 146 rfl rfl, tbs3 147 rfl rfl, by decide +kernel, by decide, TX8, rfl⟩
theorem mX8_begin : MOK uX8_begin := ⟨cx_X8.1, rfl, tbs3 144 rfl rfl, cx_X8.2.2, cx_X8.2.1, Nat.le_of_ble_eq_true rfl⟩
theorem bX8_begin : CVB uX8_begin 0 8 9 := ⟨mX8_begin, tbs3 142 rfl rfl, tbs3 143 rfl rfl, by decide +kernel, by decide, TX8, rfl⟩
theorem mX1_clear : MOK uX1_clear := ⟨cx_X1.1, rfl, tbs3 160 rfl rfl, cx_X1.2.2, cx_X1.2.1, Nat.le_of_ble_eq_true rfl⟩
theorem bX1_clear : CVB uX1_clear 0 1 9 := ⟨mX1_clear, tbs3 158 rfl rfl, tbs3 159 rfl rfl, by decide +kernel, by decide, TX1, rfl⟩
theorem mX8_isWord : MOK uX8_isWord := ⟨cx_X8.1, rfl, tbs3 168 rfl rfl, cx_X8.2.2, cx_X8.2.1, Nat.le_of_ble_eq_true rfl⟩
theorem bX8_isWord : CVB uX8_isWord 1 8 9 := ⟨mX8_isWord, tbs3 166 rfl rfl, tbs3 167 rfl rfl, by decide +kernel, by decide, TX8, rfl⟩
theorem cx_X2 : plainName RX2 = true ∧ (RX2 ≠ "java/lang/invoke/MethodHandle" ∧ RX2 ≠ "java/lang/invoke/VarHandle") ∧ Cond.initialized RX2 ∈ tb := ⟨by decide +kernel, ⟨by decide +kernel, by decide +kernel⟩, tbs1 11 rfl rfl⟩
theorem mX2_wordAtHand : MOK uX2_wordAtHand := ⟨cx_X2.1, rfl, tbs3 163 rfl rfl, cx_X2.2.2, cx_X2.2.1, Nat.le_of_ble_eq_true rfl⟩
theorem bX2_wordAtHand : CSB uX2_wordAtHand 1 := ⟨mX2_wordAtHand, tbs3 162 rfl rfl, by decide +kernel⟩
theorem mX8_refuse : MOK uX8_refuse := ⟨cx_X8.1, rfl, tbs3 222 rfl rfl, cx_X8.2.2, cx_X8.2.1, Nat.le_of_ble_eq_true rfl⟩
theorem bX8_refuse : CVB uX8_refuse 1 8 9 := ⟨mX8_refuse, tbs3 220 rfl rfl, tbs3 221 rfl rfl, by decide +kernel, by decide, TX8, rfl⟩
theorem mX1_put : MOK uX1_put := ⟨cx_X1.1, rfl, tbs3 235 rfl rfl, cx_X1.2.2, cx_X1.2.1, Nat.le_of_ble_eq_true rfl⟩
theorem bX1_put : CVB uX1_put 1 1 9 := ⟨mX1_put, tbs3 233 rfl rfl, tbs3 234 rfl rfl, by decide +kernel, by decide, TX1, rfl⟩
theorem mX2_nameAtHand : MOK uX2_nameAtHand := ⟨cx_X2.1, rfl, tbs3 238 rfl rfl, cx_X2.2.2, cx_X2.2.1, Nat.le_of_ble_eq_true rfl⟩
theorem bX2_nameAtHand : CSB uX2_nameAtHand 1 := ⟨mX2_nameAtHand, tbs3 237 rfl rfl, by decide +kernel⟩
theorem mX2_readUnit : MOK uX2_readUnit := ⟨cx_X2.1, rfl, tbs3 231 rfl rfl, cx_X2.2.2, cx_X2.2.1, Nat.le_of_ble_eq_true rfl⟩
theorem bX2_readUnit : CVB uX2_readUnit 2 2 1 := ⟨mX2_readUnit, tbs3 230 rfl rfl, tbm 9 (by decide +kernel) rfl, by decide +kernel, by decide, TX2, rfl⟩
theorem mX8_isSign : MOK uX8_isSign := ⟨cx_X8.1, rfl, tbs4 16 rfl rfl, cx_X8.2.2, cx_X8.2.1, Nat.le_of_ble_eq_true rfl⟩
theorem bX8_isSign : CVB uX8_isSign 1 8 9 := ⟨mX8_isSign, tbs4 14 rfl rfl, tbs4 15 rfl rfl, by decide +kernel, by decide, TX8, rfl⟩
theorem mX8_passSign : MOK uX8_passSign := ⟨cx_X8.1, rfl, tbs4 12 rfl rfl, cx_X8.2.2, cx_X8.2.1, Nat.le_of_ble_eq_true rfl⟩
theorem bX8_passSign : CVB uX8_passSign 2 8 9 := ⟨mX8_passSign, tbs4 10 rfl rfl, tbs4 11 rfl rfl, by decide +kernel, by decide, TX8, rfl⟩
theorem mX2_readSum : MOK uX2_readSum := ⟨cx_X2.1, rfl, tbs3 227 rfl rfl, cx_X2.2.2, cx_X2.2.1, Nat.le_of_ble_eq_true rfl⟩
theorem bX2_readSum : CVB uX2_readSum 1 2 1 := ⟨mX2_readSum, tbs3 226 rfl rfl, tbm 8 (by decide +kernel) rfl, by decide +kernel, by decide, TX2, rfl⟩
theorem mX8_passWord : MOK uX8_passWord := ⟨cx_X8.1, rfl, tbs4 21 rfl rfl, cx_X8.2.2, cx_X8.2.1, Nat.le_of_ble_eq_true rfl⟩
theorem bX8_passWord : CVB uX8_passWord 1 8 9 := ⟨mX8_passWord, tbs4 19 rfl rfl, tbs4 20 rfl rfl, by decide +kernel, by decide, TX8, rfl⟩
theorem mX8_takeSign : MOK uX8_takeSign := ⟨cx_X8.1, rfl, tbs4 36 rfl rfl, cx_X8.2.2, cx_X8.2.1, Nat.le_of_ble_eq_true rfl⟩
theorem bX8_takeSign : CVB uX8_takeSign 1 8 9 := ⟨mX8_takeSign, tbs4 34 rfl rfl, tbs4 35 rfl rfl, by decide +kernel, by decide, TX8, rfl⟩
theorem mX2_readTest : MOK uX2_readTest := ⟨cx_X2.1, rfl, tbs4 30 rfl rfl, cx_X2.2.2, cx_X2.2.1, Nat.le_of_ble_eq_true rfl⟩
theorem bX2_readTest : CVB uX2_readTest 2 2 1 := ⟨mX2_readTest, tbs4 29 rfl rfl, tbm 11 (by decide +kernel) rfl, by decide +kernel, by decide, TX2, rfl⟩
theorem mX2_readEither : MOK uX2_readEither := ⟨cx_X2.1, rfl, tbs4 26 rfl rfl, cx_X2.2.2, cx_X2.2.1, Nat.le_of_ble_eq_true rfl⟩
theorem bX2_readEither : CVB uX2_readEither 2 2 1 := ⟨mX2_readEither, tbs4 25 rfl rfl, tbm 10 (by decide +kernel) rfl, by decide +kernel, by decide, TX2, rfl⟩
theorem mX1_appendLine : MOK uX1_appendLine := ⟨cx_X1.1, rfl, tbs4 43 rfl rfl, cx_X1.2.2, cx_X1.2.1, Nat.le_of_ble_eq_true rfl⟩
theorem bX1_appendLine : CVB uX1_appendLine 3 1 9 := ⟨mX1_appendLine, tbs4 41 rfl rfl, tbs4 42 rfl rfl, by decide +kernel, by decide, TX1, rfl⟩
theorem mX2_read : MOK uX2_read := ⟨cx_X2.1, rfl, tbs3 156 rfl rfl, cx_X2.2.2, cx_X2.2.1, Nat.le_of_ble_eq_true rfl⟩
theorem bX2_read : CVB uX2_read 1 2 1 := ⟨mX2_read, tbs3 154 rfl rfl, tbs3 155 rfl rfl, by decide +kernel, by decide, TX2, rfl⟩
theorem mX1_copyFrom : MOK uX1_copyFrom := ⟨cx_X1.1, rfl, tbs4 47 rfl rfl, cx_X1.2.2, cx_X1.2.1, Nat.le_of_ble_eq_true rfl⟩
theorem bX1_copyFrom : CVB uX1_copyFrom 1 1 9 := ⟨mX1_copyFrom, tbs4 45 rfl rfl, tbs4 46 rfl rfl, by decide +kernel, by decide, TX1, rfl⟩
theorem mX8_takeNumber : MOK uX8_takeNumber := ⟨cx_X8.1, rfl, tbs4 69 rfl rfl, cx_X8.2.2, cx_X8.2.1, Nat.le_of_ble_eq_true rfl⟩
theorem bX8_takeNumber : CVB uX8_takeNumber 1 8 9 := ⟨mX8_takeNumber, tbs4 67 rfl rfl, tbs4 68 rfl rfl, by decide +kernel, by decide, TX8, rfl⟩
theorem mX8_takeWord : MOK uX8_takeWord := ⟨cx_X8.1, rfl, tbs4 74 rfl rfl, cx_X8.2.2, cx_X8.2.1, Nat.le_of_ble_eq_true rfl⟩
theorem bX8_takeWord : CVB uX8_takeWord 1 8 9 := ⟨mX8_takeWord, tbs4 72 rfl rfl, tbs4 73 rfl rfl, by decide +kernel, by decide, TX8, rfl⟩
theorem mX9_isOneOf : MOK uX9_isOneOf := ⟨cx_X9.1, rfl, tbs4 78 rfl rfl, cx_X9.2.2, cx_X9.2.1, Nat.le_of_ble_eq_true rfl⟩
theorem bX9_isOneOf : CVB uX9_isOneOf 2 9 15 := ⟨mX9_isOneOf, tbs4 76 rfl rfl, tbs4 77 rfl rfl, by decide +kernel, by decide, TX9, rfl⟩
theorem cx_X4 : plainName RX4 = true ∧ (RX4 ≠ "java/lang/invoke/MethodHandle" ∧ RX4 ≠ "java/lang/invoke/VarHandle") ∧ Cond.initialized RX4 ∈ tb := ⟨by decide +kernel, ⟨by decide +kernel, by decide +kernel⟩, tbs1 12 rfl rfl⟩
theorem mX4_readHearing : MOK uX4_readHearing := ⟨cx_X4.1, rfl, tbs4 65 rfl rfl, cx_X4.2.2, cx_X4.2.1, Nat.le_of_ble_eq_true rfl⟩
theorem bX4_readHearing : CVB uX4_readHearing 2 4 5 := ⟨mX4_readHearing, tbs4 64 rfl rfl, tbm 13 (by decide +kernel) rfl, by decide +kernel, by decide, TX4, rfl⟩
theorem mX4_readTwist : MOK uX4_readTwist := ⟨cx_X4.1, rfl, tbs4 82 rfl rfl, cx_X4.2.2, cx_X4.2.1, Nat.le_of_ble_eq_true rfl⟩
theorem bX4_readTwist : CVB uX4_readTwist 2 4 5 := ⟨mX4_readTwist, tbs4 81 rfl rfl, tbm 14 (by decide +kernel) rfl, by decide +kernel, by decide, TX4, rfl⟩
theorem mX4_kindAtHand : MOK uX4_kindAtHand := ⟨cx_X4.1, rfl, tbs4 91 rfl rfl, cx_X4.2.2, cx_X4.2.1, Nat.le_of_ble_eq_true rfl⟩
theorem bX4_kindAtHand : CSB uX4_kindAtHand 1 := ⟨mX4_kindAtHand, tbs4 90 rfl rfl, by decide +kernel⟩
theorem mX4_readEvening : MOK uX4_readEvening := ⟨cx_X4.1, rfl, tbs4 88 rfl rfl, cx_X4.2.2, cx_X4.2.1, Nat.le_of_ble_eq_true rfl⟩
theorem bX4_readEvening : CVB uX4_readEvening 2 4 5 := ⟨mX4_readEvening, tbs4 87 rfl rfl, tbm 15 (by decide +kernel) rfl, by decide +kernel, by decide, TX4, rfl⟩
theorem mX4_readLine : MOK uX4_readLine := ⟨cx_X4.1, rfl, tbs4 61 rfl rfl, cx_X4.2.2, cx_X4.2.1, Nat.le_of_ble_eq_true rfl⟩
theorem bX4_readLine : CVB uX4_readLine 3 4 5 := ⟨mX4_readLine, tbs4 60 rfl rfl, tbm 12 (by decide +kernel) rfl, by decide +kernel, by decide, TX4, rfl⟩
theorem mX4_read : MOK uX4_read := ⟨cx_X4.1, rfl, tbs4 52 rfl rfl, cx_X4.2.2, cx_X4.2.1, Nat.le_of_ble_eq_true rfl⟩
theorem bX4_read : CVB uX4_read 3 4 5 := ⟨mX4_read, tbs4 50 rfl rfl, tbs4 51 rfl rfl, by decide +kernel, by decide, TX4, rfl⟩
theorem mX0_linesOf : MOK uX0_linesOf := ⟨cx_X0.1, rfl, tbs4 101 rfl rfl, cx_X0.2.2, cx_X0.2.1, Nat.le_of_ble_eq_true rfl⟩
theorem bX0_linesOf : CVB uX0_linesOf 1 0 7 := ⟨mX0_linesOf, tbs4 99 rfl rfl, tbs4 100 rfl rfl, by decide +kernel, by decide, TX0, rfl⟩
theorem mX3_copyFrom : MOK uX3_copyFrom := ⟨cx_X3.1, rfl, tbs4 105 rfl rfl, cx_X3.2.2, cx_X3.2.1, Nat.le_of_ble_eq_true rfl⟩
theorem bX3_copyFrom : CVB uX3_copyFrom 1 3 6 := ⟨mX3_copyFrom, tbs4 103 rfl rfl, tbs4 104 rfl rfl, by decide +kernel, by decide, TX3, rfl⟩
theorem mX11_text : MOK uX11_text := ⟨cx_X11.1, rfl, tbs3 140 rfl rfl, cx_X11.2.2, cx_X11.2.1, Nat.le_of_ble_eq_true rfl⟩
theorem bX11_text : CVB uX11_text 1 11 9 := ⟨mX11_text, tbs3 138 rfl rfl, tbs3 139 rfl rfl, by decide +kernel, by decide, TX11, rfl⟩
theorem mX12_raw : MOK uX12_raw := ⟨cx_X12.1, rfl, tbs6 158 rfl rfl, cx_X12.2.2, cx_X12.2.1, Nat.le_of_ble_eq_true rfl⟩
theorem bX12_raw : CVB uX12_raw 1 12 62 := ⟨mX12_raw, tbs6 157 rfl rfl, tbm 27 (by decide +kernel) rfl, by decide +kernel, by decide, TX12, rfl⟩
theorem mX12_isLetter : MOK uX12_isLetter := ⟨cx_X12.1, rfl, tbs6 162 rfl rfl, cx_X12.2.2, cx_X12.2.1, Nat.le_of_ble_eq_true rfl⟩
theorem bX12_isLetter : CVB uX12_isLetter 1 12 62 := ⟨mX12_isLetter, tbs6 161 rfl rfl, tbm 28 (by decide +kernel) rfl, by decide +kernel, by decide, TX12, rfl⟩
theorem mX12_wordAt : MOK uX12_wordAt := ⟨cx_X12.1, rfl, tbs6 166 rfl rfl, cx_X12.2.2, cx_X12.2.1, Nat.le_of_ble_eq_true rfl⟩
theorem bX12_wordAt : CVB uX12_wordAt 2 12 62 := ⟨mX12_wordAt, tbs6 165 rfl rfl, tbm 29 (by decide +kernel) rfl, by decide +kernel, by decide, TX12, rfl⟩
theorem mX12_isDigit : MOK uX12_isDigit := ⟨cx_X12.1, rfl, tbs6 170 rfl rfl, cx_X12.2.2, cx_X12.2.1, Nat.le_of_ble_eq_true rfl⟩
theorem bX12_isDigit : CVB uX12_isDigit 1 12 62 := ⟨mX12_isDigit, tbs6 169 rfl rfl, tbm 30 (by decide +kernel) rfl, by decide +kernel, by decide, TX12, rfl⟩
theorem mX12_isMarkSign : MOK uX12_isMarkSign := ⟨cx_X12.1, rfl, tbs6 174 rfl rfl, cx_X12.2.2, cx_X12.2.1, Nat.le_of_ble_eq_true rfl⟩
theorem bX12_isMarkSign : CVB uX12_isMarkSign 1 12 62 := ⟨mX12_isMarkSign, tbs6 173 rfl rfl, tbm 31 (by decide +kernel) rfl, by decide +kernel, by decide, TX12, rfl⟩
theorem mX12_reads : MOK uX12_reads := ⟨cx_X12.1, rfl, tbs6 154 rfl rfl, cx_X12.2.2, cx_X12.2.1, Nat.le_of_ble_eq_true rfl⟩
theorem bX12_reads : CVB uX12_reads 0 12 62 := ⟨mX12_reads, tbs6 153 rfl rfl, tbm 26 (by decide +kernel) rfl, by decide +kernel, by decide, TX12, rfl⟩
theorem mX12_isWord : MOK uX12_isWord := ⟨cx_X12.1, rfl, tbs6 182 rfl rfl, cx_X12.2.2, cx_X12.2.1, Nat.le_of_ble_eq_true rfl⟩
theorem bX12_isWord : CVB uX12_isWord 1 12 62 := ⟨mX12_isWord, tbs6 181 rfl rfl, tbm 33 (by decide +kernel) rfl, by decide +kernel, by decide, TX12, rfl⟩
theorem mX12_errs : MOK uX12_errs := ⟨cx_X12.1, rfl, tbs6 186 rfl rfl, cx_X12.2.2, cx_X12.2.1, Nat.le_of_ble_eq_true rfl⟩
theorem bX12_errs : CVB uX12_errs 1 12 62 := ⟨mX12_errs, tbs6 185 rfl rfl, tbm 34 (by decide +kernel) rfl, by decide +kernel, by decide, TX12, rfl⟩
theorem mX12_readNumber : MOK uX12_readNumber := ⟨cx_X12.1, rfl, tbs6 198 rfl rfl, cx_X12.2.2, cx_X12.2.1, Nat.le_of_ble_eq_true rfl⟩
theorem bX12_readNumber : CVB uX12_readNumber 2 12 62 := ⟨mX12_readNumber, tbs6 197 rfl rfl, tbm 37 (by decide +kernel) rfl, by decide +kernel, by decide, TX12, rfl⟩
theorem mX12_readTold : MOK uX12_readTold := ⟨cx_X12.1, rfl, tbs6 194 rfl rfl, cx_X12.2.2, cx_X12.2.1, Nat.le_of_ble_eq_true rfl⟩
theorem bX12_readTold : CVB uX12_readTold 3 12 62 := ⟨mX12_readTold, tbs6 193 rfl rfl, tbm 36 (by decide +kernel) rfl, by decide +kernel, by decide, TX12, rfl⟩
theorem mX12_isSign : MOK uX12_isSign := ⟨cx_X12.1, rfl, tbs6 206 rfl rfl, cx_X12.2.2, cx_X12.2.1, Nat.le_of_ble_eq_true rfl⟩
theorem bX12_isSign : CVB uX12_isSign 1 12 62 := ⟨mX12_isSign, tbs6 205 rfl rfl, tbm 39 (by decide +kernel) rfl, by decide +kernel, by decide, TX12, rfl⟩
theorem mX12_readMark : MOK uX12_readMark := ⟨cx_X12.1, rfl, tbs6 202 rfl rfl, cx_X12.2.2, cx_X12.2.1, Nat.le_of_ble_eq_true rfl⟩
theorem bX12_readMark : CVB uX12_readMark 1 12 62 := ⟨mX12_readMark, tbs6 201 rfl rfl, tbm 38 (by decide +kernel) rfl, by decide +kernel, by decide, TX12, rfl⟩
theorem mX12_readHop : MOK uX12_readHop := ⟨cx_X12.1, rfl, tbs6 190 rfl rfl, cx_X12.2.2, cx_X12.2.1, Nat.le_of_ble_eq_true rfl⟩
theorem bX12_readHop : CVB uX12_readHop 1 12 62 := ⟨mX12_readHop, tbs6 189 rfl rfl, tbm 35 (by decide +kernel) rfl, by decide +kernel, by decide, TX12, rfl⟩
theorem mX12_readHops : MOK uX12_readHops := ⟨cx_X12.1, rfl, tbs6 178 rfl rfl, cx_X12.2.2, cx_X12.2.1, Nat.le_of_ble_eq_true rfl⟩
theorem bX12_readHops : CVB uX12_readHops 0 12 62 := ⟨mX12_readHops, tbs6 177 rfl rfl, tbm 32 (by decide +kernel) rfl, by decide +kernel, by decide, TX12, rfl⟩
theorem mX12_kindOfStreet : MOK uX12_kindOfStreet := ⟨cx_X12.1, rfl, tbs6 218 rfl rfl, cx_X12.2.2, cx_X12.2.1, Nat.le_of_ble_eq_true rfl⟩
theorem bX12_kindOfStreet : CVB uX12_kindOfStreet 0 12 62 := ⟨mX12_kindOfStreet, tbs6 217 rfl rfl, tbm 42 (by decide +kernel) rfl, by decide +kernel, by decide, TX12, rfl⟩
theorem mX12_readStreetLine : MOK uX12_readStreetLine := ⟨cx_X12.1, rfl, tbs6 214 rfl rfl, cx_X12.2.2, cx_X12.2.1, Nat.le_of_ble_eq_true rfl⟩
theorem bX12_readStreetLine : CVB uX12_readStreetLine 1 12 62 := ⟨mX12_readStreetLine, tbs6 213 rfl rfl, tbm 41 (by decide +kernel) rfl, by decide +kernel, by decide, TX12, rfl⟩
theorem mX12_readStreet : MOK uX12_readStreet := ⟨cx_X12.1, rfl, tbs6 210 rfl rfl, cx_X12.2.2, cx_X12.2.1, Nat.le_of_ble_eq_true rfl⟩
theorem bX12_readStreet : CVB uX12_readStreet 0 12 62 := ⟨mX12_readStreet, tbs6 209 rfl rfl, tbm 40 (by decide +kernel) rfl, by decide +kernel, by decide, TX12, rfl⟩
theorem mX12_readLean : MOK uX12_readLean := ⟨cx_X12.1, rfl, tbs6 226 rfl rfl, cx_X12.2.2, cx_X12.2.1, Nat.le_of_ble_eq_true rfl⟩
theorem bX12_readLean : CVB uX12_readLean 0 12 62 := ⟨mX12_readLean, tbs6 225 rfl rfl, tbm 44 (by decide +kernel) rfl, by decide +kernel, by decide, TX12, rfl⟩
theorem mX12_readLeans : MOK uX12_readLeans := ⟨cx_X12.1, rfl, tbs6 222 rfl rfl, cx_X12.2.2, cx_X12.2.1, Nat.le_of_ble_eq_true rfl⟩
theorem bX12_readLeans : CVB uX12_readLeans 0 12 62 := ⟨mX12_readLeans, tbs6 221 rfl rfl, tbm 43 (by decide +kernel) rfl, by decide +kernel, by decide, TX12, rfl⟩
theorem mX12_isLineWord : MOK uX12_isLineWord := ⟨cx_X12.1, rfl, tbs6 234 rfl rfl, cx_X12.2.2, cx_X12.2.1, Nat.le_of_ble_eq_true rfl⟩
theorem bX12_isLineWord : CVB uX12_isLineWord 0 12 62 := ⟨mX12_isLineWord, tbs6 233 rfl rfl, tbm 46 (by decide +kernel) rfl, by decide +kernel, by decide, TX12, rfl⟩
theorem mX12_canAsk : MOK uX12_canAsk := ⟨cx_X12.1, rfl, tbs7 10 rfl rfl, cx_X12.2.2, cx_X12.2.1, Nat.le_of_ble_eq_true rfl⟩
theorem bX12_canAsk : CVB uX12_canAsk 1 12 62 := ⟨mX12_canAsk, tbs7 9 rfl rfl, tbm 50 (by decide +kernel) rfl, by decide +kernel, by decide, TX12, rfl⟩
theorem mX12_emits : MOK uX12_emits := ⟨cx_X12.1, rfl, tbs7 14 rfl rfl, cx_X12.2.2, cx_X12.2.1, Nat.le_of_ble_eq_true rfl⟩
theorem bX12_emits : CVB uX12_emits 2 12 62 := ⟨mX12_emits, tbs7 13 rfl rfl, tbm 51 (by decide +kernel) rfl, by decide +kernel, by decide, TX12, rfl⟩
theorem mX12_readUnit : MOK uX12_readUnit := ⟨cx_X12.1, rfl, tbs7 6 rfl rfl, cx_X12.2.2, cx_X12.2.1, Nat.le_of_ble_eq_true rfl⟩
theorem bX12_readUnit : CVB uX12_readUnit 0 12 62 := ⟨mX12_readUnit, tbs7 5 rfl rfl, tbm 49 (by decide +kernel) rfl, by decide +kernel, by decide, TX12, rfl⟩
theorem mX12_readProduct : MOK uX12_readProduct := ⟨cx_X12.1, rfl, tbs7 2 rfl rfl, cx_X12.2.2, cx_X12.2.1, Nat.le_of_ble_eq_true rfl⟩
theorem bX12_readProduct : CVB uX12_readProduct 0 12 62 := ⟨mX12_readProduct, tbs7 1 rfl rfl, tbm 48 (by decide +kernel) rfl, by decide +kernel, by decide, TX12, rfl⟩
theorem mX12_readSum : MOK uX12_readSum := ⟨cx_X12.1, rfl, tbs6 238 rfl rfl, cx_X12.2.2, cx_X12.2.1, Nat.le_of_ble_eq_true rfl⟩
theorem bX12_readSum : CVB uX12_readSum 0 12 62 := ⟨mX12_readSum, tbs6 237 rfl rfl, tbm 47 (by decide +kernel) rfl, by decide +kernel, by decide, TX12, rfl⟩
theorem mX12_waits : MOK uX12_waits := ⟨cx_X12.1, rfl, tbs7 22 rfl rfl, cx_X12.2.2, cx_X12.2.1, Nat.le_of_ble_eq_true rfl⟩
theorem bX12_waits : CVB uX12_waits 1 12 62 := ⟨mX12_waits, tbs7 21 rfl rfl, tbm 53 (by decide +kernel) rfl, by decide +kernel, by decide, TX12, rfl⟩
theorem mX12_readCompared : MOK uX12_readCompared := ⟨cx_X12.1, rfl, tbs7 26 rfl rfl, cx_X12.2.2, cx_X12.2.1, Nat.le_of_ble_eq_true rfl⟩
theorem bX12_readCompared : CVB uX12_readCompared 0 12 62 := ⟨mX12_readCompared, tbs7 25 rfl rfl, tbm 54 (by decide +kernel) rfl, by decide +kernel, by decide, TX12, rfl⟩
theorem mX12_settles : MOK uX12_settles := ⟨cx_X12.1, rfl, tbs7 30 rfl rfl, cx_X12.2.2, cx_X12.2.1, Nat.le_of_ble_eq_true rfl⟩
theorem bX12_settles : CVB uX12_settles 1 12 62 := ⟨mX12_settles, tbs7 29 rfl rfl, tbm 55 (by decide +kernel) rfl, by decide +kernel, by decide, TX12, rfl⟩
theorem mX12_readAny : MOK uX12_readAny := ⟨cx_X12.1, rfl, tbs7 18 rfl rfl, cx_X12.2.2, cx_X12.2.1, Nat.le_of_ble_eq_true rfl⟩
theorem bX12_readAny : CVB uX12_readAny 0 12 62 := ⟨mX12_readAny, tbs7 17 rfl rfl, tbm 52 (by decide +kernel) rfl, by decide +kernel, by decide, TX12, rfl⟩
theorem mX12_readLaw : MOK uX12_readLaw := ⟨cx_X12.1, rfl, tbs6 230 rfl rfl, cx_X12.2.2, cx_X12.2.1, Nat.le_of_ble_eq_true rfl⟩
theorem bX12_readLaw : CVB uX12_readLaw 0 12 62 := ⟨mX12_readLaw, tbs6 229 rfl rfl, tbm 45 (by decide +kernel) rfl, by decide +kernel, by decide, TX12, rfl⟩
theorem mX12_readsText : MOK uX12_readsText := ⟨cx_X12.1, rfl, tbs6 150 rfl rfl, cx_X12.2.2, cx_X12.2.1, Nat.le_of_ble_eq_true rfl⟩
theorem bX12_readsText : CVB uX12_readsText 1 12 62 := ⟨mX12_readsText, tbs6 149 rfl rfl, tbm 25 (by decide +kernel) rfl, by decide +kernel, by decide, TX12, rfl⟩
theorem mX12_takesLaw : MOK uX12_takesLaw := ⟨cx_X12.1, rfl, tbs7 34 rfl rfl, cx_X12.2.2, cx_X12.2.1, Nat.le_of_ble_eq_true rfl⟩
theorem bX12_takesLaw : CVB uX12_takesLaw 1 12 62 := ⟨mX12_takesLaw, tbs7 33 rfl rfl, tbm 56 (by decide +kernel) rfl, by decide +kernel, by decide, TX12, rfl⟩
theorem mX12_takesOther : MOK uX12_takesOther := ⟨cx_X12.1, rfl, tbs7 38 rfl rfl, cx_X12.2.2, cx_X12.2.1, Nat.le_of_ble_eq_true rfl⟩
theorem bX12_takesOther : CVB uX12_takesOther 2 12 62 := ⟨mX12_takesOther, tbs7 37 rfl rfl, tbm 57 (by decide +kernel) rfl, by decide +kernel, by decide, TX12, rfl⟩
theorem mX12_text : MOK uX12_text := ⟨cx_X12.1, rfl, tbs6 146 rfl rfl, cx_X12.2.2, cx_X12.2.1, Nat.le_of_ble_eq_true rfl⟩
theorem bX12_text : CVB uX12_text 1 12 62 := ⟨mX12_text, tbs6 144 rfl rfl, tbs6 145 rfl rfl, by decide +kernel, by decide, TX12, rfl⟩
theorem mX11_fault : MOK uX11_fault := ⟨cx_X11.1, rfl, tbs4 111 rfl rfl, cx_X11.2.2, cx_X11.2.1, Nat.le_of_ble_eq_true rfl⟩
theorem bX11_fault : CVB uX11_fault 1 11 9 := ⟨mX11_fault, tbs4 109 rfl rfl, tbs4 110 rfl rfl, by decide +kernel, by decide, TX11, rfl⟩
theorem mX12_fault : MOK uX12_fault := ⟨cx_X12.1, rfl, tbs7 42 rfl rfl, cx_X12.2.2, cx_X12.2.1, Nat.le_of_ble_eq_true rfl⟩
theorem bX12_fault : CVB uX12_fault 1 12 62 := ⟨mX12_fault, tbs7 40 rfl rfl, tbs7 41 rfl rfl, by decide +kernel, by decide, TX12, rfl⟩
theorem mX9_bargainsOf : MOK uX9_bargainsOf := ⟨cx_X9.1, rfl, tbs4 119 rfl rfl, cx_X9.2.2, cx_X9.2.1, Nat.le_of_ble_eq_true rfl⟩
theorem bX9_bargainsOf : CVB uX9_bargainsOf 1 9 15 := ⟨mX9_bargainsOf, tbs4 117 rfl rfl, tbs4 118 rfl rfl, by decide +kernel, by decide, TX9, rfl⟩
theorem mX0_heardBy : MOK uX0_heardBy := ⟨cx_X0.1, rfl, tbs4 124 rfl rfl, cx_X0.2.2, cx_X0.2.1, Nat.le_of_ble_eq_true rfl⟩
theorem bX0_heardBy : CVB uX0_heardBy 1 0 7 := ⟨mX0_heardBy, tbs4 122 rfl rfl, tbs4 123 rfl rfl, by decide +kernel, by decide, TX0, rfl⟩
theorem mX11_of : MOK uX11_of := ⟨cx_X11.1, rfl, tbs4 115 rfl rfl, cx_X11.2.2, cx_X11.2.1, Nat.le_of_ble_eq_true rfl⟩
theorem bX11_of : CVB uX11_of 2 11 9 := ⟨mX11_of, tbs4 113 rfl rfl, tbs4 114 rfl rfl, by decide +kernel, by decide, TX11, rfl⟩
theorem mX12_bargainsOf : MOK uX12_bargainsOf := ⟨cx_X12.1, rfl, tbs7 156 rfl rfl, cx_X12.2.2, cx_X12.2.1, Nat.le_of_ble_eq_true rfl⟩
theorem bX12_bargainsOf : CVB uX12_bargainsOf 1 12 62 := ⟨mX12_bargainsOf, tbs7 155 rfl rfl, tbm 82 (by decide +kernel) rfl, by decide +kernel, by decide, TX12, rfl⟩
theorem mX12_of : MOK uX12_of := ⟨cx_X12.1, rfl, tbs7 152 rfl rfl, cx_X12.2.2, cx_X12.2.1, Nat.le_of_ble_eq_true rfl⟩
theorem bX12_of : CVB uX12_of 2 12 62 := ⟨mX12_of, tbs7 150 rfl rfl, tbs7 151 rfl rfl, by decide +kernel, by decide, TX12, rfl⟩
theorem mX11_phraseTold : MOK uX11_phraseTold := ⟨cx_X11.1, rfl, tbs4 136 rfl rfl, cx_X11.2.2, cx_X11.2.1, Nat.le_of_ble_eq_true rfl⟩
theorem bX11_phraseTold : CVB uX11_phraseTold 2 11 9 := ⟨mX11_phraseTold, tbs4 135 rfl rfl, tbm 16 (by decide +kernel) rfl, by decide +kernel, by decide, TX11, rfl⟩
theorem mX11_deal : MOK uX11_deal := ⟨cx_X11.1, rfl, tbs4 128 rfl rfl, cx_X11.2.2, cx_X11.2.1, Nat.le_of_ble_eq_true rfl⟩
theorem bX11_deal : CVB uX11_deal 2 11 9 := ⟨mX11_deal, tbs4 126 rfl rfl, tbs4 127 rfl rfl, by decide +kernel, by decide, TX11, rfl⟩
theorem mX12_deal : MOK uX12_deal := ⟨cx_X12.1, rfl, tbs7 160 rfl rfl, cx_X12.2.2, cx_X12.2.1, Nat.le_of_ble_eq_true rfl⟩
theorem bX12_deal : CVB uX12_deal 2 12 62 := ⟨mX12_deal, tbs7 158 rfl rfl, tbs7 159 rfl rfl, by decide +kernel, by decide, TX12, rfl⟩
theorem mX11_book : MOK uX11_book := ⟨cx_X11.1, rfl, tbs4 140 rfl rfl, cx_X11.2.2, cx_X11.2.1, Nat.le_of_ble_eq_true rfl⟩
theorem bX11_book : CVB uX11_book 2 11 9 := ⟨mX11_book, tbs4 138 rfl rfl, tbs4 139 rfl rfl, by decide +kernel, by decide, TX11, rfl⟩
theorem mX12_book : MOK uX12_book := ⟨cx_X12.1, rfl, tbs7 164 rfl rfl, cx_X12.2.2, cx_X12.2.1, Nat.le_of_ble_eq_true rfl⟩
theorem bX12_book : CVB uX12_book 2 12 62 := ⟨mX12_book, tbs7 162 rfl rfl, tbs7 163 rfl rfl, by decide +kernel, by decide, TX12, rfl⟩
theorem mX9_thoseThatAre : MOK uX9_thoseThatAre := ⟨cx_X9.1, rfl, tbs4 149 rfl rfl, cx_X9.2.2, cx_X9.2.1, Nat.le_of_ble_eq_true rfl⟩
theorem bX9_thoseThatAre : CVB uX9_thoseThatAre 1 9 15 := ⟨mX9_thoseThatAre, tbs4 147 rfl rfl, tbs4 148 rfl rfl, by decide +kernel, by decide, TX9, rfl⟩
theorem mX9_owesOfAll : MOK uX9_owesOfAll := ⟨cx_X9.1, rfl, tbs4 153 rfl rfl, cx_X9.2.2, cx_X9.2.1, Nat.le_of_ble_eq_true rfl⟩
theorem bX9_owesOfAll : CVB uX9_owesOfAll 0 9 15 := ⟨mX9_owesOfAll, tbs4 151 rfl rfl, tbs4 152 rfl rfl, by decide +kernel, by decide, TX9, rfl⟩
theorem mX9_clearOfAll : MOK uX9_clearOfAll := ⟨cx_X9.1, rfl, tbs4 157 rfl rfl, cx_X9.2.2, cx_X9.2.1, Nat.le_of_ble_eq_true rfl⟩
theorem bX9_clearOfAll : CVB uX9_clearOfAll 0 9 15 := ⟨mX9_clearOfAll, tbs4 155 rfl rfl, tbs4 156 rfl rfl, by decide +kernel, by decide, TX9, rfl⟩
theorem mX11_goes : MOK uX11_goes := ⟨cx_X11.1, rfl, tbs4 144 rfl rfl, cx_X11.2.2, cx_X11.2.1, Nat.le_of_ble_eq_true rfl⟩
theorem bX11_goes : CVB uX11_goes 2 11 9 := ⟨mX11_goes, tbs4 142 rfl rfl, tbs4 143 rfl rfl, by decide +kernel, by decide, TX11, rfl⟩
theorem mX12_thinks : MOK uX12_thinks := ⟨cx_X12.1, rfl, tbs7 172 rfl rfl, cx_X12.2.2, cx_X12.2.1, Nat.le_of_ble_eq_true rfl⟩
theorem bX12_thinks : CVB uX12_thinks 0 12 62 := ⟨mX12_thinks, tbs7 171 rfl rfl, tbm 83 (by decide +kernel) rfl, by decide +kernel, by decide, TX12, rfl⟩
theorem mX12_setThatIs : MOK uX12_setThatIs := ⟨cx_X12.1, rfl, tbs7 176 rfl rfl, cx_X12.2.2, cx_X12.2.1, Nat.le_of_ble_eq_true rfl⟩
theorem bX12_setThatIs : CVB uX12_setThatIs 1 12 62 := ⟨mX12_setThatIs, tbs7 175 rfl rfl, tbm 84 (by decide +kernel) rfl, by decide +kernel, by decide, TX12, rfl⟩
theorem mX12_sumOf : MOK uX12_sumOf := ⟨cx_X12.1, rfl, tbs7 180 rfl rfl, cx_X12.2.2, cx_X12.2.1, Nat.le_of_ble_eq_true rfl⟩
theorem bX12_sumOf : CVB uX12_sumOf 2 12 62 := ⟨mX12_sumOf, tbs7 179 rfl rfl, tbm 85 (by decide +kernel) rfl, by decide +kernel, by decide, TX12, rfl⟩
theorem mX12_endsThought : MOK uX12_endsThought := ⟨cx_X12.1, rfl, tbs7 184 rfl rfl, cx_X12.2.2, cx_X12.2.1, Nat.le_of_ble_eq_true rfl⟩
theorem bX12_endsThought : CVB uX12_endsThought 0 12 62 := ⟨mX12_endsThought, tbs7 183 rfl rfl, tbm 86 (by decide +kernel) rfl, by decide +kernel, by decide, TX12, rfl⟩
theorem mX12_goes : MOK uX12_goes := ⟨cx_X12.1, rfl, tbs7 168 rfl rfl, cx_X12.2.2, cx_X12.2.1, Nat.le_of_ble_eq_true rfl⟩
theorem bX12_goes : CVB uX12_goes 2 12 62 := ⟨mX12_goes, tbs7 166 rfl rfl, tbs7 167 rfl rfl, by decide +kernel, by decide, TX12, rfl⟩
theorem mX11_holds : MOK uX11_holds := ⟨cx_X11.1, rfl, tbs4 161 rfl rfl, cx_X11.2.2, cx_X11.2.1, Nat.le_of_ble_eq_true rfl⟩
theorem bX11_holds : CVB uX11_holds 1 11 9 := ⟨mX11_holds, tbs4 159 rfl rfl, tbs4 160 rfl rfl, by decide +kernel, by decide, TX11, rfl⟩
theorem mX12_holds : MOK uX12_holds := ⟨cx_X12.1, rfl, tbs7 188 rfl rfl, cx_X12.2.2, cx_X12.2.1, Nat.le_of_ble_eq_true rfl⟩
theorem bX12_holds : CVB uX12_holds 1 12 62 := ⟨mX12_holds, tbs7 186 rfl rfl, tbs7 187 rfl rfl, by decide +kernel, by decide, TX12, rfl⟩
theorem mX11_deals : MOK uX11_deals := ⟨cx_X11.1, rfl, tbs4 165 rfl rfl, cx_X11.2.2, cx_X11.2.1, Nat.le_of_ble_eq_true rfl⟩
theorem bX11_deals : CVB uX11_deals 2 11 9 := ⟨mX11_deals, tbs4 163 rfl rfl, tbs4 164 rfl rfl, by decide +kernel, by decide, TX11, rfl⟩
theorem mX12_deals : MOK uX12_deals := ⟨cx_X12.1, rfl, tbs7 192 rfl rfl, cx_X12.2.2, cx_X12.2.1, Nat.le_of_ble_eq_true rfl⟩
theorem bX12_deals : CVB uX12_deals 2 12 62 := ⟨mX12_deals, tbs7 190 rfl rfl, tbs7 191 rfl rfl, by decide +kernel, by decide, TX12, rfl⟩
theorem cx_X7 : plainName RX7 = true ∧ (RX7 ≠ "java/lang/invoke/MethodHandle" ∧ RX7 ≠ "java/lang/invoke/VarHandle") ∧ Cond.initialized RX7 ∈ tb := ⟨by decide +kernel, ⟨by decide +kernel, by decide +kernel⟩, tbs1 8 rfl rfl⟩
theorem mX7_has : MOK uX7_has := ⟨cx_X7.1, rfl, tbs4 178 rfl rfl, cx_X7.2.2, cx_X7.2.1, Nat.le_of_ble_eq_true rfl⟩
theorem bX7_has : CVB uX7_has 1 7 5 := ⟨mX7_has, tbs4 176 rfl rfl, tbs4 177 rfl rfl, by decide +kernel, by decide, TX7, rfl⟩
theorem mX7_tell : MOK uX7_tell := ⟨cx_X7.1, rfl, tbs4 173 rfl rfl, cx_X7.2.2, cx_X7.2.1, Nat.le_of_ble_eq_true rfl⟩
theorem bX7_tell : CVB uX7_tell 1 7 5 := ⟨mX7_tell, tbs4 171 rfl rfl, tbs4 172 rfl rfl, by decide +kernel, by decide, TX7, rfl⟩
theorem mX11_jump : MOK uX11_jump := ⟨cx_X11.1, rfl, tbs4 169 rfl rfl, cx_X11.2.2, cx_X11.2.1, Nat.le_of_ble_eq_true rfl⟩
theorem bX11_jump : CVB uX11_jump 1 11 9 := ⟨mX11_jump, tbs4 167 rfl rfl, tbs4 168 rfl rfl, by decide +kernel, by decide, TX11, rfl⟩
theorem mX12_jump : MOK uX12_jump := ⟨cx_X12.1, rfl, tbs7 196 rfl rfl, cx_X12.2.2, cx_X12.2.1, Nat.le_of_ble_eq_true rfl⟩
theorem bX12_jump : CVB uX12_jump 1 12 62 := ⟨mX12_jump, tbs7 194 rfl rfl, tbs7 195 rfl rfl, by decide +kernel, by decide, TX12, rfl⟩
theorem cx_X10 : plainName RX10 = true ∧ (RX10 ≠ "java/lang/invoke/MethodHandle" ∧ RX10 ≠ "java/lang/invoke/VarHandle") ∧ Cond.initialized RX10 ∈ tb := ⟨by decide +kernel, ⟨by decide +kernel, by decide +kernel⟩, tbs1 7 rfl rfl⟩
theorem mX10_fewestJumps : MOK uX10_fewestJumps := ⟨cx_X10.1, rfl, tbs4 186 rfl rfl, cx_X10.2.2, cx_X10.2.1, Nat.le_of_ble_eq_true rfl⟩
theorem bX10_fewestJumps : CVB uX10_fewestJumps 0 10 8 := ⟨mX10_fewestJumps, tbs4 184 rfl rfl, tbs4 185 rfl rfl, by decide +kernel, by decide, TX10, rfl⟩
theorem mX10_furthestPlace : MOK uX10_furthestPlace := ⟨cx_X10.1, rfl, tbs4 191 rfl rfl, cx_X10.2.2, cx_X10.2.1, Nat.le_of_ble_eq_true rfl⟩
theorem bX10_furthestPlace : CVB uX10_furthestPlace 0 10 8 := ⟨mX10_furthestPlace, tbs4 189 rfl rfl, tbs4 190 rfl rfl, by decide +kernel, by decide, TX10, rfl⟩
theorem mX11_jumps : MOK uX11_jumps := ⟨cx_X11.1, rfl, tbs4 182 rfl rfl, cx_X11.2.2, cx_X11.2.1, Nat.le_of_ble_eq_true rfl⟩
theorem bX11_jumps : CVB uX11_jumps 1 11 9 := ⟨mX11_jumps, tbs4 180 rfl rfl, tbs4 181 rfl rfl, by decide +kernel, by decide, TX11, rfl⟩
theorem mX12_lesser : MOK uX12_lesser := ⟨cx_X12.1, rfl, tbs7 205 rfl rfl, cx_X12.2.2, cx_X12.2.1, Nat.le_of_ble_eq_true rfl⟩
theorem bX12_lesser : CVB uX12_lesser 2 12 62 := ⟨mX12_lesser, tbs7 204 rfl rfl, tbm 87 (by decide +kernel) rfl, by decide +kernel, by decide, TX12, rfl⟩
theorem mX12_jumps : MOK uX12_jumps := ⟨cx_X12.1, rfl, tbs7 200 rfl rfl, cx_X12.2.2, cx_X12.2.1, Nat.le_of_ble_eq_true rfl⟩
theorem bX12_jumps : CVB uX12_jumps 1 12 62 := ⟨mX12_jumps, tbs7 198 rfl rfl, tbs7 199 rfl rfl, by decide +kernel, by decide, TX12, rfl⟩
theorem cx_X5 : plainName RX5 = true ∧ (RX5 ≠ "java/lang/invoke/MethodHandle" ∧ RX5 ≠ "java/lang/invoke/VarHandle") ∧ Cond.initialized RX5 ∈ tb := ⟨by decide +kernel, ⟨by decide +kernel, by decide +kernel⟩, tbs1 13 rfl rfl⟩
theorem mX5_walksFrom : MOK uX5_walksFrom := ⟨cx_X5.1, rfl, tbs4 203 rfl rfl, cx_X5.2.2, cx_X5.2.1, Nat.le_of_ble_eq_true rfl⟩
theorem bX5_walksFrom : CSB uX5_walksFrom 4 := ⟨mX5_walksFrom, tbs4 202 rfl rfl, by decide +kernel⟩
theorem mX5_walksTo : MOK uX5_walksTo := ⟨cx_X5.1, rfl, tbs4 200 rfl rfl, cx_X5.2.2, cx_X5.2.1, Nat.le_of_ble_eq_true rfl⟩
theorem bX5_walksTo : CVB uX5_walksTo 2 5 2 := ⟨mX5_walksTo, tbs4 198 rfl rfl, tbs4 199 rfl rfl, by decide +kernel, by decide, TX5, rfl⟩
theorem mX11_walks : MOK uX11_walks := ⟨cx_X11.1, rfl, tbs4 196 rfl rfl, cx_X11.2.2, cx_X11.2.1, Nat.le_of_ble_eq_true rfl⟩
theorem bX11_walks : CVB uX11_walks 3 11 9 := ⟨mX11_walks, tbs4 194 rfl rfl, tbs4 195 rfl rfl, by decide +kernel, by decide, TX11, rfl⟩
theorem mX12_walkEnds : MOK uX12_walkEnds := ⟨cx_X12.1, rfl, tbs7 213 rfl rfl, cx_X12.2.2, cx_X12.2.1, Nat.le_of_ble_eq_true rfl⟩
theorem bX12_walkEnds : CVB uX12_walkEnds 2 12 62 := ⟨mX12_walkEnds, tbs7 212 rfl rfl, tbm 88 (by decide +kernel) rfl, by decide +kernel, by decide, TX12, rfl⟩
theorem mX12_walks : MOK uX12_walks := ⟨cx_X12.1, rfl, tbs7 209 rfl rfl, cx_X12.2.2, cx_X12.2.1, Nat.le_of_ble_eq_true rfl⟩
theorem bX12_walks : CVB uX12_walks 3 12 62 := ⟨mX12_walks, tbs7 207 rfl rfl, tbs7 208 rfl rfl, by decide +kernel, by decide, TX12, rfl⟩
theorem mX5_leastApart : MOK uX5_leastApart := ⟨cx_X5.1, rfl, tbs4 210 rfl rfl, cx_X5.2.2, cx_X5.2.1, Nat.le_of_ble_eq_true rfl⟩
theorem bX5_leastApart : CSB uX5_leastApart 2 := ⟨mX5_leastApart, tbs4 209 rfl rfl, by decide +kernel⟩
theorem mX11_apart : MOK uX11_apart := ⟨cx_X11.1, rfl, tbs4 207 rfl rfl, cx_X11.2.2, cx_X11.2.1, Nat.le_of_ble_eq_true rfl⟩
theorem bX11_apart : CVB uX11_apart 2 11 9 := ⟨mX11_apart, tbs4 205 rfl rfl, tbs4 206 rfl rfl, by decide +kernel, by decide, TX11, rfl⟩
theorem mX12_apart : MOK uX12_apart := ⟨cx_X12.1, rfl, tbs7 217 rfl rfl, cx_X12.2.2, cx_X12.2.1, Nat.le_of_ble_eq_true rfl⟩
theorem bX12_apart : CVB uX12_apart 2 12 62 := ⟨mX12_apart, tbs7 215 rfl rfl, tbs7 216 rfl rfl, by decide +kernel, by decide, TX12, rfl⟩
theorem mX5_cornersUpTo : MOK uX5_cornersUpTo := ⟨cx_X5.1, rfl, tbs4 217 rfl rfl, cx_X5.2.2, cx_X5.2.1, Nat.le_of_ble_eq_true rfl⟩
theorem bX5_cornersUpTo : CSB uX5_cornersUpTo 1 := ⟨mX5_cornersUpTo, tbs4 216 rfl rfl, by decide +kernel⟩
theorem mX5_cornersAround : MOK uX5_cornersAround := ⟨cx_X5.1, rfl, tbs4 220 rfl rfl, cx_X5.2.2, cx_X5.2.1, Nat.le_of_ble_eq_true rfl⟩
theorem bX5_cornersAround : CSB uX5_cornersAround 1 := ⟨mX5_cornersAround, tbs4 219 rfl rfl, by decide +kernel⟩
theorem mX11_corners : MOK uX11_corners := ⟨cx_X11.1, rfl, tbs4 214 rfl rfl, cx_X11.2.2, cx_X11.2.1, Nat.le_of_ble_eq_true rfl⟩
theorem bX11_corners : CVB uX11_corners 2 11 9 := ⟨mX11_corners, tbs4 212 rfl rfl, tbs4 213 rfl rfl, by decide +kernel, by decide, TX11, rfl⟩
theorem mX12_corners : MOK uX12_corners := ⟨cx_X12.1, rfl, tbs7 221 rfl rfl, cx_X12.2.2, cx_X12.2.1, Nat.le_of_ble_eq_true rfl⟩
theorem bX12_corners : CVB uX12_corners 2 12 62 := ⟨mX12_corners, tbs7 219 rfl rfl, tbs7 220 rfl rfl, by decide +kernel, by decide, TX12, rfl⟩
theorem mX5_sumOfParts : MOK uX5_sumOfParts := ⟨cx_X5.1, rfl, tbs4 231 rfl rfl, cx_X5.2.2, cx_X5.2.1, Nat.le_of_ble_eq_true rfl⟩
theorem bX5_sumOfParts : CSB uX5_sumOfParts 1 := ⟨mX5_sumOfParts, tbs4 230 rfl rfl, by decide +kernel⟩
theorem mX5_chainOfParts : MOK uX5_chainOfParts := ⟨cx_X5.1, rfl, tbs4 228 rfl rfl, cx_X5.2.2, cx_X5.2.1, Nat.le_of_ble_eq_true rfl⟩
theorem bX5_chainOfParts : CVB uX5_chainOfParts 2 5 2 := ⟨mX5_chainOfParts, tbs4 226 rfl rfl, tbs4 227 rfl rfl, by decide +kernel, by decide, TX5, rfl⟩
theorem mX11_parts : MOK uX11_parts := ⟨cx_X11.1, rfl, tbs4 224 rfl rfl, cx_X11.2.2, cx_X11.2.1, Nat.le_of_ble_eq_true rfl⟩
theorem bX11_parts : CVB uX11_parts 2 11 9 := ⟨mX11_parts, tbs4 222 rfl rfl, tbs4 223 rfl rfl, by decide +kernel, by decide, TX11, rfl⟩
theorem mX12_partsTogether : MOK uX12_partsTogether := ⟨cx_X12.1, rfl, tbs7 229 rfl rfl, cx_X12.2.2, cx_X12.2.1, Nat.le_of_ble_eq_true rfl⟩
theorem bX12_partsTogether : CVB uX12_partsTogether 1 12 62 := ⟨mX12_partsTogether, tbs7 228 rfl rfl, tbm 89 (by decide +kernel) rfl, by decide +kernel, by decide, TX12, rfl⟩
theorem mX12_parts : MOK uX12_parts := ⟨cx_X12.1, rfl, tbs7 225 rfl rfl, cx_X12.2.2, cx_X12.2.1, Nat.le_of_ble_eq_true rfl⟩
theorem bX12_parts : CVB uX12_parts 2 12 62 := ⟨mX12_parts, tbs7 223 rfl rfl, tbs7 224 rfl rfl, by decide +kernel, by decide, TX12, rfl⟩
theorem mX5_ofDigits : MOK uX5_ofDigits := ⟨cx_X5.1, rfl, tbs5 2 rfl rfl, cx_X5.2.2, cx_X5.2.1, Nat.le_of_ble_eq_true rfl⟩
theorem bX5_ofDigits : CSB uX5_ofDigits 2 := ⟨mX5_ofDigits, tbs5 1 rfl rfl, by decide +kernel⟩
theorem mX5_lasting : MOK uX5_lasting := ⟨cx_X5.1, rfl, tbs4 239 rfl rfl, cx_X5.2.2, cx_X5.2.1, Nat.le_of_ble_eq_true rfl⟩
theorem bX5_lasting : CSB uX5_lasting 3 := ⟨mX5_lasting, tbs4 238 rfl rfl, by decide +kernel⟩
theorem mX11_lasts : MOK uX11_lasts := ⟨cx_X11.1, rfl, tbs4 235 rfl rfl, cx_X11.2.2, cx_X11.2.1, Nat.le_of_ble_eq_true rfl⟩
theorem bX11_lasts : CVB uX11_lasts 2 11 9 := ⟨mX11_lasts, tbs4 233 rfl rfl, tbs4 234 rfl rfl, by decide +kernel, by decide, TX11, rfl⟩
theorem mX12_digitsOf : MOK uX12_digitsOf := ⟨cx_X12.1, rfl, tbs7 238 rfl rfl, cx_X12.2.2, cx_X12.2.1, Nat.le_of_ble_eq_true rfl⟩
theorem bX12_digitsOf : CVB uX12_digitsOf 2 12 62 := ⟨mX12_digitsOf, tbs7 237 rfl rfl, tbm 90 (by decide +kernel) rfl, by decide +kernel, by decide, TX12, rfl⟩
theorem mX12_lasts : MOK uX12_lasts := ⟨cx_X12.1, rfl, tbs7 233 rfl rfl, cx_X12.2.2, cx_X12.2.1, Nat.le_of_ble_eq_true rfl⟩
theorem bX12_lasts : CVB uX12_lasts 2 12 62 := ⟨mX12_lasts, tbs7 231 rfl rfl, tbs7 232 rfl rfl, by decide +kernel, by decide, TX12, rfl⟩
theorem mX11_turn : MOK uX11_turn := ⟨cx_X11.1, rfl, tbs5 6 rfl rfl, cx_X11.2.2, cx_X11.2.1, Nat.le_of_ble_eq_true rfl⟩
theorem bX11_turn : CVB uX11_turn 1 11 9 := ⟨mX11_turn, tbs5 4 rfl rfl, tbs5 5 rfl rfl, by decide +kernel, by decide, TX11, rfl⟩
theorem mX12_turn : MOK uX12_turn := ⟨cx_X12.1, rfl, tbs8 2 rfl rfl, cx_X12.2.2, cx_X12.2.1, Nat.le_of_ble_eq_true rfl⟩
theorem bX12_turn : CVB uX12_turn 1 12 62 := ⟨mX12_turn, tbs8 0 rfl rfl, tbs8 1 rfl rfl, by decide +kernel, by decide, TX12, rfl⟩
theorem mX10_stand : MOK uX10_stand := ⟨cx_X10.1, rfl, tbs5 18 rfl rfl, cx_X10.2.2, cx_X10.2.1, Nat.le_of_ble_eq_true rfl⟩
theorem bX10_stand : CVB uX10_stand 3 10 8 := ⟨mX10_stand, tbs5 17 rfl rfl, tbm 17 (by decide +kernel) rfl, by decide +kernel, by decide, TX10, rfl⟩
theorem mX10_turned : MOK uX10_turned := ⟨cx_X10.1, rfl, tbs5 14 rfl rfl, cx_X10.2.2, cx_X10.2.1, Nat.le_of_ble_eq_true rfl⟩
theorem bX10_turned : CVB uX10_turned 1 10 8 := ⟨mX10_turned, tbs5 12 rfl rfl, tbs5 13 rfl rfl, by decide +kernel, by decide, TX10, rfl⟩
theorem mX11_turning : MOK uX11_turning := ⟨cx_X11.1, rfl, tbs5 10 rfl rfl, cx_X11.2.2, cx_X11.2.1, Nat.le_of_ble_eq_true rfl⟩
theorem bX11_turning : CVB uX11_turning 1 11 9 := ⟨mX11_turning, tbs5 8 rfl rfl, tbs5 9 rfl rfl, by decide +kernel, by decide, TX11, rfl⟩
theorem mX12_turning : MOK uX12_turning := ⟨cx_X12.1, rfl, tbs8 6 rfl rfl, cx_X12.2.2, cx_X12.2.1, Nat.le_of_ble_eq_true rfl⟩
theorem bX12_turning : CVB uX12_turning 1 12 62 := ⟨mX12_turning, tbs8 4 rfl rfl, tbs8 5 rfl rfl, by decide +kernel, by decide, TX12, rfl⟩
theorem cx_J13 : plainName RJ13 = true ∧ (RJ13 ≠ "java/lang/invoke/MethodHandle" ∧ RJ13 ≠ "java/lang/invoke/VarHandle") ∧ Cond.initialized RJ13 ∈ tb := ⟨by decide +kernel, ⟨by decide +kernel, by decide +kernel⟩, tbs1 21 rfl rfl⟩
theorem mJ13_bitCount_95d88 : MOK uJ13_bitCount_95d88 := ⟨cx_J13.1, rfl, tbs5 28 rfl rfl, cx_J13.2.2, cx_J13.2.1, Nat.le_of_ble_eq_true rfl⟩
theorem bJ13_bitCount_95d88 : CSB uJ13_bitCount_95d88 1 := ⟨mJ13_bitCount_95d88, tbs5 27 rfl rfl, by decide +kernel⟩
theorem mX5_antWalk : MOK uX5_antWalk := ⟨cx_X5.1, rfl, tbs5 25 rfl rfl, cx_X5.2.2, cx_X5.2.1, Nat.le_of_ble_eq_true rfl⟩
theorem bX5_antWalk : CSB uX5_antWalk 2 := ⟨mX5_antWalk, tbs5 24 rfl rfl, by decide +kernel⟩
theorem mX11_ant : MOK uX11_ant := ⟨cx_X11.1, rfl, tbs5 22 rfl rfl, cx_X11.2.2, cx_X11.2.1, Nat.le_of_ble_eq_true rfl⟩
theorem bX11_ant : CVB uX11_ant 2 11 9 := ⟨mX11_ant, tbs5 20 rfl rfl, tbs5 21 rfl rfl, by decide +kernel, by decide, TX11, rfl⟩
theorem mX12_ant : MOK uX12_ant := ⟨cx_X12.1, rfl, tbs8 10 rfl rfl, cx_X12.2.2, cx_X12.2.1, Nat.le_of_ble_eq_true rfl⟩
theorem bX12_ant : CVB uX12_ant 2 12 62 := ⟨mX12_ant, tbs8 8 rfl rfl, tbs8 9 rfl rfl, by decide +kernel, by decide, TX12, rfl⟩
theorem mX5_nextRow : MOK uX5_nextRow := ⟨cx_X5.1, rfl, tbs5 39 rfl rfl, cx_X5.2.2, cx_X5.2.1, Nat.le_of_ble_eq_true rfl⟩
theorem bX5_nextRow : CSB uX5_nextRow 2 := ⟨mX5_nextRow, tbs5 38 rfl rfl, by decide +kernel⟩
theorem mX11_row : MOK uX11_row := ⟨cx_X11.1, rfl, tbs5 35 rfl rfl, cx_X11.2.2, cx_X11.2.1, Nat.le_of_ble_eq_true rfl⟩
theorem bX11_row : CVB uX11_row 3 11 9 := ⟨mX11_row, tbs5 33 rfl rfl, tbs5 34 rfl rfl, by decide +kernel, by decide, TX11, rfl⟩
theorem mX12_row : MOK uX12_row := ⟨cx_X12.1, rfl, tbs8 14 rfl rfl, cx_X12.2.2, cx_X12.2.1, Nat.le_of_ble_eq_true rfl⟩
theorem bX12_row : CVB uX12_row 3 12 62 := ⟨mX12_row, tbs8 12 rfl rfl, tbs8 13 rfl rfl, by decide +kernel, by decide, TX12, rfl⟩
theorem mX5_ownDifference : MOK uX5_ownDifference := ⟨cx_X5.1, rfl, tbs5 50 rfl rfl, cx_X5.2.2, cx_X5.2.1, Nat.le_of_ble_eq_true rfl⟩
theorem bX5_ownDifference : CSB uX5_ownDifference 1 := ⟨mX5_ownDifference, tbs5 49 rfl rfl, by decide +kernel⟩
theorem mX5_ownDifferences : MOK uX5_ownDifferences := ⟨cx_X5.1, rfl, tbs5 46 rfl rfl, cx_X5.2.2, cx_X5.2.1, Nat.le_of_ble_eq_true rfl⟩
theorem bX5_ownDifferences : CSB uX5_ownDifferences 2 := ⟨mX5_ownDifferences, tbs5 45 rfl rfl, by decide +kernel⟩
theorem mX11_own : MOK uX11_own := ⟨cx_X11.1, rfl, tbs5 43 rfl rfl, cx_X11.2.2, cx_X11.2.1, Nat.le_of_ble_eq_true rfl⟩
theorem bX11_own : CVB uX11_own 2 11 9 := ⟨mX11_own, tbs5 41 rfl rfl, tbs5 42 rfl rfl, by decide +kernel, by decide, TX11, rfl⟩
theorem mX12_ownOf : MOK uX12_ownOf := ⟨cx_X12.1, rfl, tbs8 23 rfl rfl, cx_X12.2.2, cx_X12.2.1, Nat.le_of_ble_eq_true rfl⟩
theorem bX12_ownOf : CVB uX12_ownOf 1 12 62 := ⟨mX12_ownOf, tbs8 22 rfl rfl, tbm 91 (by decide +kernel) rfl, by decide +kernel, by decide, TX12, rfl⟩
theorem mX12_own : MOK uX12_own := ⟨cx_X12.1, rfl, tbs8 19 rfl rfl, cx_X12.2.2, cx_X12.2.1, Nat.le_of_ble_eq_true rfl⟩
theorem bX12_own : CVB uX12_own 2 12 62 := ⟨mX12_own, tbs8 17 rfl rfl, tbs8 18 rfl rfl, by decide +kernel, by decide, TX12, rfl⟩
theorem mX5_shifted : MOK uX5_shifted := ⟨cx_X5.1, rfl, tbs5 60 rfl rfl, cx_X5.2.2, cx_X5.2.1, Nat.le_of_ble_eq_true rfl⟩
theorem bX5_shifted : CSB uX5_shifted 4 := ⟨mX5_shifted, tbs5 59 rfl rfl, by decide +kernel⟩
theorem mX5_timesRound : MOK uX5_timesRound := ⟨cx_X5.1, rfl, tbs5 57 rfl rfl, cx_X5.2.2, cx_X5.2.1, Nat.le_of_ble_eq_true rfl⟩
theorem bX5_timesRound : CSB uX5_timesRound 3 := ⟨mX5_timesRound, tbs5 56 rfl rfl, by decide +kernel⟩
theorem mX11_round : MOK uX11_round := ⟨cx_X11.1, rfl, tbs5 54 rfl rfl, cx_X11.2.2, cx_X11.2.1, Nat.le_of_ble_eq_true rfl⟩
theorem bX11_round : CVB uX11_round 4 11 9 := ⟨mX11_round, tbs5 52 rfl rfl, tbs5 53 rfl rfl, by decide +kernel, by decide, TX11, rfl⟩
theorem mX12_roundOf : MOK uX12_roundOf := ⟨cx_X12.1, rfl, tbs8 31 rfl rfl, cx_X12.2.2, cx_X12.2.1, Nat.le_of_ble_eq_true rfl⟩
theorem bX12_roundOf : CVB uX12_roundOf 3 12 62 := ⟨mX12_roundOf, tbs8 30 rfl rfl, tbm 92 (by decide +kernel) rfl, by decide +kernel, by decide, TX12, rfl⟩
theorem mX12_round : MOK uX12_round := ⟨cx_X12.1, rfl, tbs8 27 rfl rfl, cx_X12.2.2, cx_X12.2.1, Nat.le_of_ble_eq_true rfl⟩
theorem bX12_round : CVB uX12_round 4 12 62 := ⟨mX12_round, tbs8 25 rfl rfl, tbs8 26 rfl rfl, by decide +kernel, by decide, TX12, rfl⟩
theorem mX11_nine : MOK uX11_nine := ⟨cx_X11.1, rfl, tbs5 66 rfl rfl, cx_X11.2.2, cx_X11.2.1, Nat.le_of_ble_eq_true rfl⟩
theorem bX11_nine : CVB uX11_nine 2 11 9 := ⟨mX11_nine, tbs5 64 rfl rfl, tbs5 65 rfl rfl, by decide +kernel, by decide, TX11, rfl⟩
theorem mX12_nine : MOK uX12_nine := ⟨cx_X12.1, rfl, tbs8 35 rfl rfl, cx_X12.2.2, cx_X12.2.1, Nat.le_of_ble_eq_true rfl⟩
theorem bX12_nine : CVB uX12_nine 2 12 62 := ⟨mX12_nine, tbs8 33 rfl rfl, tbs8 34 rfl rfl, by decide +kernel, by decide, TX12, rfl⟩
theorem mX10_sumOf : MOK uX10_sumOf := ⟨cx_X10.1, rfl, tbs5 78 rfl rfl, cx_X10.2.2, cx_X10.2.1, Nat.le_of_ble_eq_true rfl⟩
theorem bX10_sumOf : CVB uX10_sumOf 1 10 8 := ⟨mX10_sumOf, tbs5 77 rfl rfl, tbm 18 (by decide +kernel) rfl, by decide +kernel, by decide, TX10, rfl⟩
theorem mX10_linesOfSum : MOK uX10_linesOfSum := ⟨cx_X10.1, rfl, tbs5 84 rfl rfl, cx_X10.2.2, cx_X10.2.1, Nat.le_of_ble_eq_true rfl⟩
theorem bX10_linesOfSum : CVB uX10_linesOfSum 1 10 8 := ⟨mX10_linesOfSum, tbs5 82 rfl rfl, tbs5 83 rfl rfl, by decide +kernel, by decide, TX10, rfl⟩
theorem mX10_waysToEven : MOK uX10_waysToEven := ⟨cx_X10.1, rfl, tbs5 74 rfl rfl, cx_X10.2.2, cx_X10.2.1, Nat.le_of_ble_eq_true rfl⟩
theorem bX10_waysToEven : CVB uX10_waysToEven 0 10 8 := ⟨mX10_waysToEven, tbs5 72 rfl rfl, tbs5 73 rfl rfl, by decide +kernel, by decide, TX10, rfl⟩
theorem mX11_even : MOK uX11_even := ⟨cx_X11.1, rfl, tbs5 70 rfl rfl, cx_X11.2.2, cx_X11.2.1, Nat.le_of_ble_eq_true rfl⟩
theorem bX11_even : CVB uX11_even 1 11 9 := ⟨mX11_even, tbs5 68 rfl rfl, tbs5 69 rfl rfl, by decide +kernel, by decide, TX11, rfl⟩
theorem mX12_lineSum : MOK uX12_lineSum := ⟨cx_X12.1, rfl, tbs8 47 rfl rfl, cx_X12.2.2, cx_X12.2.1, Nat.le_of_ble_eq_true rfl⟩
theorem bX12_lineSum : CVB uX12_lineSum 1 12 62 := ⟨mX12_lineSum, tbs8 46 rfl rfl, tbm 94 (by decide +kernel) rfl, by decide +kernel, by decide, TX12, rfl⟩
theorem mX12_linesThatCome : MOK uX12_linesThatCome := ⟨cx_X12.1, rfl, tbs8 43 rfl rfl, cx_X12.2.2, cx_X12.2.1, Nat.le_of_ble_eq_true rfl⟩
theorem bX12_linesThatCome : CVB uX12_linesThatCome 1 12 62 := ⟨mX12_linesThatCome, tbs8 42 rfl rfl, tbm 93 (by decide +kernel) rfl, by decide +kernel, by decide, TX12, rfl⟩
theorem mX12_even : MOK uX12_even := ⟨cx_X12.1, rfl, tbs8 39 rfl rfl, cx_X12.2.2, cx_X12.2.1, Nat.le_of_ble_eq_true rfl⟩
theorem bX12_even : CVB uX12_even 1 12 62 := ⟨mX12_even, tbs8 37 rfl rfl, tbs8 38 rfl rfl, by decide +kernel, by decide, TX12, rfl⟩
theorem mX11_rule : MOK uX11_rule := ⟨cx_X11.1, rfl, tbs5 89 rfl rfl, cx_X11.2.2, cx_X11.2.1, Nat.le_of_ble_eq_true rfl⟩
theorem bX11_rule : CVB uX11_rule 2 11 9 := ⟨mX11_rule, tbs5 87 rfl rfl, tbs5 88 rfl rfl, by decide +kernel, by decide, TX11, rfl⟩
theorem mX12_rule : MOK uX12_rule := ⟨cx_X12.1, rfl, tbs8 51 rfl rfl, cx_X12.2.2, cx_X12.2.1, Nat.le_of_ble_eq_true rfl⟩
theorem bX12_rule : CVB uX12_rule 2 12 62 := ⟨mX12_rule, tbs8 49 rfl rfl, tbs8 50 rfl rfl, by decide +kernel, by decide, TX12, rfl⟩
theorem mX10_leastStep : MOK uX10_leastStep := ⟨cx_X10.1, rfl, tbs5 106 rfl rfl, cx_X10.2.2, cx_X10.2.1, Nat.le_of_ble_eq_true rfl⟩
theorem bX10_leastStep : CVB uX10_leastStep 1 10 8 := ⟨mX10_leastStep, tbs5 105 rfl rfl, tbm 20 (by decide +kernel) rfl, by decide +kernel, by decide, TX10, rfl⟩
theorem mX10_workWins : MOK uX10_workWins := ⟨cx_X10.1, rfl, tbs5 101 rfl rfl, cx_X10.2.2, cx_X10.2.1, Nat.le_of_ble_eq_true rfl⟩
theorem bX10_workWins : CVB uX10_workWins 1 10 8 := ⟨mX10_workWins, tbs5 100 rfl rfl, tbm 19 (by decide +kernel) rfl, by decide +kernel, by decide, TX10, rfl⟩
theorem mX10_winningStep : MOK uX10_winningStep := ⟨cx_X10.1, rfl, tbs5 97 rfl rfl, cx_X10.2.2, cx_X10.2.1, Nat.le_of_ble_eq_true rfl⟩
theorem bX10_winningStep : CVB uX10_winningStep 1 10 8 := ⟨mX10_winningStep, tbs5 95 rfl rfl, tbs5 96 rfl rfl, by decide +kernel, by decide, TX10, rfl⟩
theorem mX10_winningSquares : MOK uX10_winningSquares := ⟨cx_X10.1, rfl, tbs5 110 rfl rfl, cx_X10.2.2, cx_X10.2.1, Nat.le_of_ble_eq_true rfl⟩
theorem bX10_winningSquares : CVB uX10_winningSquares 1 10 8 := ⟨mX10_winningSquares, tbs5 108 rfl rfl, tbs5 109 rfl rfl, by decide +kernel, by decide, TX10, rfl⟩
theorem mX11_game : MOK uX11_game := ⟨cx_X11.1, rfl, tbs5 93 rfl rfl, cx_X11.2.2, cx_X11.2.1, Nat.le_of_ble_eq_true rfl⟩
theorem bX11_game : CVB uX11_game 2 11 9 := ⟨mX11_game, tbs5 91 rfl rfl, tbs5 92 rfl rfl, by decide +kernel, by decide, TX11, rfl⟩
theorem mX12_isBarred : MOK uX12_isBarred := ⟨cx_X12.1, rfl, tbs8 63 rfl rfl, cx_X12.2.2, cx_X12.2.1, Nat.le_of_ble_eq_true rfl⟩
theorem bX12_isBarred : CVB uX12_isBarred 1 12 62 := ⟨mX12_isBarred, tbs8 62 rfl rfl, tbm 96 (by decide +kernel) rfl, by decide +kernel, by decide, TX12, rfl⟩
theorem mX12_goodStep : MOK uX12_goodStep := ⟨cx_X12.1, rfl, tbs8 59 rfl rfl, cx_X12.2.2, cx_X12.2.1, Nat.le_of_ble_eq_true rfl⟩
theorem bX12_goodStep : CVB uX12_goodStep 1 12 62 := ⟨mX12_goodStep, tbs8 58 rfl rfl, tbm 95 (by decide +kernel) rfl, by decide +kernel, by decide, TX12, rfl⟩
theorem mX12_game : MOK uX12_game := ⟨cx_X12.1, rfl, tbs8 55 rfl rfl, cx_X12.2.2, cx_X12.2.1, Nat.le_of_ble_eq_true rfl⟩
theorem bX12_game : CVB uX12_game 2 12 62 := ⟨mX12_game, tbs8 53 rfl rfl, tbs8 54 rfl rfl, by decide +kernel, by decide, TX12, rfl⟩
theorem mX6_goBack : MOK uX6_goBack := ⟨cx_X6.1, rfl, tbs5 118 rfl rfl, cx_X6.2.2, cx_X6.2.1, Nat.le_of_ble_eq_true rfl⟩
theorem bX6_goBack : CVB uX6_goBack 1 6 4 := ⟨mX6_goBack, tbs5 116 rfl rfl, tbs5 117 rfl rfl, by decide +kernel, by decide, TX6, rfl⟩
theorem mX11_undo : MOK uX11_undo := ⟨cx_X11.1, rfl, tbs5 114 rfl rfl, cx_X11.2.2, cx_X11.2.1, Nat.le_of_ble_eq_true rfl⟩
theorem bX11_undo : CVB uX11_undo 0 11 9 := ⟨mX11_undo, tbs5 112 rfl rfl, tbs5 113 rfl rfl, by decide +kernel, by decide, TX11, rfl⟩
theorem mX12_undo : MOK uX12_undo := ⟨cx_X12.1, rfl, tbs6 102 rfl rfl, cx_X12.2.2, cx_X12.2.1, Nat.le_of_ble_eq_true rfl⟩
theorem bX12_undo : CVB uX12_undo 0 12 62 := ⟨mX12_undo, tbs6 100 rfl rfl, tbs6 101 rfl rfl, by decide +kernel, by decide, TX12, rfl⟩
theorem mX7_copyFrom : MOK uX7_copyFrom := ⟨cx_X7.1, rfl, tbs5 137 rfl rfl, cx_X7.2.2, cx_X7.2.1, Nat.le_of_ble_eq_true rfl⟩
theorem bX7_copyFrom : CVB uX7_copyFrom 1 7 5 := ⟨mX7_copyFrom, tbs5 135 rfl rfl, tbs5 136 rfl rfl, by decide +kernel, by decide, TX7, rfl⟩
theorem mX10_copyFrom : MOK uX10_copyFrom := ⟨cx_X10.1, rfl, tbs5 133 rfl rfl, cx_X10.2.2, cx_X10.2.1, Nat.le_of_ble_eq_true rfl⟩
theorem bX10_copyFrom : CVB uX10_copyFrom 1 10 8 := ⟨mX10_copyFrom, tbs5 131 rfl rfl, tbs5 132 rfl rfl, by decide +kernel, by decide, TX10, rfl⟩
theorem mX0_copyFrom : MOK uX0_copyFrom := ⟨cx_X0.1, rfl, tbs5 126 rfl rfl, cx_X0.2.2, cx_X0.2.1, Nat.le_of_ble_eq_true rfl⟩
theorem bX0_copyFrom : CVB uX0_copyFrom 1 0 7 := ⟨mX0_copyFrom, tbs5 124 rfl rfl, tbs5 125 rfl rfl, by decide +kernel, by decide, TX0, rfl⟩
theorem mX11_image : MOK uX11_image := ⟨cx_X11.1, rfl, tbs5 122 rfl rfl, cx_X11.2.2, cx_X11.2.1, Nat.le_of_ble_eq_true rfl⟩
theorem bX11_image : CVB uX11_image 1 11 9 := ⟨mX11_image, tbs5 120 rfl rfl, tbs5 121 rfl rfl, by decide +kernel, by decide, TX11, rfl⟩
theorem mX12_keeps : MOK uX12_keeps := ⟨cx_X12.1, rfl, tbs8 71 rfl rfl, cx_X12.2.2, cx_X12.2.1, Nat.le_of_ble_eq_true rfl⟩
theorem bX12_keeps : CVB uX12_keeps 1 12 62 := ⟨mX12_keeps, tbs8 70 rfl rfl, tbm 97 (by decide +kernel) rfl, by decide +kernel, by decide, TX12, rfl⟩
theorem mX12_keepsTold : MOK uX12_keepsTold := ⟨cx_X12.1, rfl, tbs8 75 rfl rfl, cx_X12.2.2, cx_X12.2.1, Nat.le_of_ble_eq_true rfl⟩
theorem bX12_keepsTold : CVB uX12_keepsTold 0 12 62 := ⟨mX12_keepsTold, tbs8 74 rfl rfl, tbm 98 (by decide +kernel) rfl, by decide +kernel, by decide, TX12, rfl⟩
theorem mX12_keepsLaw : MOK uX12_keepsLaw := ⟨cx_X12.1, rfl, tbs8 79 rfl rfl, cx_X12.2.2, cx_X12.2.1, Nat.le_of_ble_eq_true rfl⟩
theorem bX12_keepsLaw : CVB uX12_keepsLaw 0 12 62 := ⟨mX12_keepsLaw, tbs8 78 rfl rfl, tbm 99 (by decide +kernel) rfl, by decide +kernel, by decide, TX12, rfl⟩
theorem mX12_image : MOK uX12_image := ⟨cx_X12.1, rfl, tbs8 67 rfl rfl, cx_X12.2.2, cx_X12.2.1, Nat.le_of_ble_eq_true rfl⟩
theorem bX12_image : CVB uX12_image 1 12 62 := ⟨mX12_image, tbs8 65 rfl rfl, tbs8 66 rfl rfl, by decide +kernel, by decide, TX12, rfl⟩
theorem mX11_look : MOK uX11_look := ⟨cx_X11.1, rfl, tbs5 144 rfl rfl, cx_X11.2.2, cx_X11.2.1, Nat.le_of_ble_eq_true rfl⟩
theorem bX11_look : CVB uX11_look 1 11 9 := ⟨mX11_look, tbs5 142 rfl rfl, tbs5 143 rfl rfl, by decide +kernel, by decide, TX11, rfl⟩
theorem mX12_look : MOK uX12_look := ⟨cx_X12.1, rfl, tbs8 83 rfl rfl, cx_X12.2.2, cx_X12.2.1, Nat.le_of_ble_eq_true rfl⟩
theorem bX12_look : CVB uX12_look 1 12 62 := ⟨mX12_look, tbs8 81 rfl rfl, tbs8 82 rfl rfl, by decide +kernel, by decide, TX12, rfl⟩
theorem cx_J0 : plainName RJ0 = true ∧ (RJ0 ≠ "java/lang/invoke/MethodHandle" ∧ RJ0 ≠ "java/lang/invoke/VarHandle") ∧ Cond.initialized RJ0 ∈ tb := ⟨by decide +kernel, ⟨by decide +kernel, by decide +kernel⟩, tbs1 17 rfl rfl⟩
theorem mJ0_length_8abf5 : MOK uJ0_length_8abf5 := ⟨cx_J0.1, rfl, tbs3 172 rfl rfl, cx_J0.2.2, cx_J0.2.1, Nat.le_of_ble_eq_true rfl⟩
theorem inJ0_length_8abf5 : Cond.instanceMethod (my uJ0_length_8abf5) ∈ tb := tbs3 170 rfl rfl
theorem slJ0_length_8abf5 : Cond.selects "java/lang/String" (my uJ0_length_8abf5) (my uJ0_length_8abf5) ∈ tb := tbs3 171 rfl rfl
theorem parJ0_length_8abf5 : (parseMethodDescriptor (my uJ0_length_8abf5).desc).map (fun d => d.parameters.length) = some 0 := by decide +kernel
theorem mJ0_charAt_5068e : MOK uJ0_charAt_5068e := ⟨cx_J0.1, rfl, tbs3 182 rfl rfl, cx_J0.2.2, cx_J0.2.1, Nat.le_of_ble_eq_true rfl⟩
theorem inJ0_charAt_5068e : Cond.instanceMethod (my uJ0_charAt_5068e) ∈ tb := tbs3 180 rfl rfl
theorem slJ0_charAt_5068e : Cond.selects "java/lang/String" (my uJ0_charAt_5068e) (my uJ0_charAt_5068e) ∈ tb := tbs3 181 rfl rfl
theorem parJ0_charAt_5068e : (parseMethodDescriptor (my uJ0_charAt_5068e).desc).map (fun d => d.parameters.length) = some 1 := by decide +kernel
theorem mJ0_coder_7d493 : MOK uJ0_coder_7d493 := ⟨cx_J0.1, rfl, tbs3 176 rfl rfl, cx_J0.2.2, cx_J0.2.1, Nat.le_of_ble_eq_true rfl⟩
theorem inJ0_coder_7d493 : Cond.instanceMethod (my uJ0_coder_7d493) ∈ tb := tbs3 174 rfl rfl
theorem slJ0_coder_7d493 : Cond.selects "java/lang/String" (my uJ0_coder_7d493) (my uJ0_coder_7d493) ∈ tb := tbs3 175 rfl rfl
theorem parJ0_coder_7d493 : (parseMethodDescriptor (my uJ0_coder_7d493).desc).map (fun d => d.parameters.length) = some 0 := by decide +kernel
theorem mJ0_isLatin1_aae02 : MOK uJ0_isLatin1_aae02 := ⟨cx_J0.1, rfl, tbs3 186 rfl rfl, cx_J0.2.2, cx_J0.2.1, Nat.le_of_ble_eq_true rfl⟩
theorem inJ0_isLatin1_aae02 : Cond.instanceMethod (my uJ0_isLatin1_aae02) ∈ tb := tbs3 184 rfl rfl
theorem slJ0_isLatin1_aae02 : Cond.selects "java/lang/String" (my uJ0_isLatin1_aae02) (my uJ0_isLatin1_aae02) ∈ tb := tbs3 185 rfl rfl
theorem parJ0_isLatin1_aae02 : (parseMethodDescriptor (my uJ0_isLatin1_aae02).desc).map (fun d => d.parameters.length) = some 0 := by decide +kernel
theorem mJ0_checkIndex_df160 : MOK uJ0_checkIndex_df160 := ⟨cx_J0.1, rfl, tbs3 192 rfl rfl, cx_J0.2.2, cx_J0.2.1, Nat.le_of_ble_eq_true rfl⟩
theorem bJ0_checkIndex_df160 : CSB uJ0_checkIndex_df160 2 := ⟨mJ0_checkIndex_df160, tbs3 191 rfl rfl, by decide +kernel⟩
theorem cx_J1 : plainName RJ1 = true ∧ (RJ1 ≠ "java/lang/invoke/MethodHandle" ∧ RJ1 ≠ "java/lang/invoke/VarHandle") ∧ Cond.initialized RJ1 ∈ tb := ⟨by decide +kernel, ⟨by decide +kernel, by decide +kernel⟩, tbs1 18 rfl rfl⟩
theorem mJ1_charAt_3b067 : MOK uJ1_charAt_3b067 := ⟨cx_J1.1, rfl, tbs3 189 rfl rfl, cx_J1.2.2, cx_J1.2.1, Nat.le_of_ble_eq_true rfl⟩
theorem bJ1_charAt_3b067 : CSB uJ1_charAt_3b067 2 := ⟨mJ1_charAt_3b067, tbs3 188 rfl rfl, by decide +kernel⟩
theorem cx_J3 : plainName RJ3 = true ∧ (RJ3 ≠ "java/lang/invoke/MethodHandle" ∧ RJ3 ≠ "java/lang/invoke/VarHandle") ∧ Cond.initialized RJ3 ∈ tb := ⟨by decide +kernel, ⟨by decide +kernel, by decide +kernel⟩, tbs1 19 rfl rfl⟩
theorem mJ3_checkIndex_8e157 : MOK uJ3_checkIndex_8e157 := ⟨cx_J3.1, rfl, tbs3 197 rfl rfl, cx_J3.2.2, cx_J3.2.1, Nat.le_of_ble_eq_true rfl⟩
theorem bJ3_checkIndex_8e157 : CSB uJ3_checkIndex_8e157 3 := ⟨mJ3_checkIndex_8e157, tbs3 196 rfl rfl, by decide +kernel⟩
theorem fl_X0_12 : FLR RX0 12 0 7 0 1 := ⟨RX0, TX0, rfl, iX0, by decide, by decide, tbs2 15 rfl rfl, rfl⟩
theorem fl_X0_23 : FLR RX0 23 0 7 1 11 := ⟨RX0, TX0, rfl, iX0, by decide, by decide, tbs2 18 rfl rfl, rfl⟩
theorem fl_X0_30 : FLR RX0 30 0 7 2 16 := ⟨RX0, TX0, rfl, iX0, by decide, by decide, tbs2 21 rfl rfl, rfl⟩
theorem fl_X0_34 : FLR RX0 34 0 7 3 24 := ⟨RX0, TX0, rfl, iX0, by decide, by decide, tbs2 23 rfl rfl, rfl⟩
theorem fl_X0_37 : FLR RX0 37 0 7 4 29 := ⟨RX0, TX0, rfl, iX0, by decide, by decide, tbs2 25 rfl rfl, rfl⟩
theorem fl_X0_40 : FLR RX0 40 0 7 5 34 := ⟨RX0, TX0, rfl, iX0, by decide, by decide, tbs2 27 rfl rfl, rfl⟩
theorem fl_X0_46 : FLR RX0 46 0 7 6 39 := ⟨RX0, TX0, rfl, iX0, by decide, by decide, tbs2 29 rfl rfl, rfl⟩
theorem fl_X0_63 : FLI RX0 63 3 6 0 := ⟨RX3, TX3, rfl, iX3, by decide, by decide, tbs1 127 rfl rfl, rfl⟩
theorem fl_X0_67 : FLR RX0 67 3 6 4 3 := ⟨RX3, TX3, rfl, iX3, by decide, by decide, tbs1 138 rfl rfl, rfl⟩
theorem fl_X0_71 : FLR RX0 71 3 6 5 4 := ⟨RX3, TX3, rfl, iX3, by decide, by decide, tbs1 141 rfl rfl, rfl⟩
theorem fl_X0_78 : FLR RX0 78 1 9 7 6 := ⟨RX1, TX1, rfl, iX1, by decide, by decide, tbs1 172 rfl rfl, rfl⟩
theorem fl_X0_88 : FLR RX0 88 9 15 6 1 := ⟨RX9, TX9, rfl, iX9, by decide, by decide, tbs1 62 rfl rfl, rfl⟩
theorem fl_X0_91 : FLR RX0 91 9 15 8 3 := ⟨RX9, TX9, rfl, iX9, by decide, by decide, tbs1 67 rfl rfl, rfl⟩
theorem fl_X0_94 : FLR RX0 94 9 15 7 2 := ⟨RX9, TX9, rfl, iX9, by decide, by decide, tbs1 64 rfl rfl, rfl⟩
theorem fl_X0_97 : FLR RX0 97 9 15 11 6 := ⟨RX9, TX9, rfl, iX9, by decide, by decide, tbs1 74 rfl rfl, rfl⟩
theorem fl_X0_100 : FLR RX0 100 9 15 12 7 := ⟨RX9, TX9, rfl, iX9, by decide, by decide, tbs1 78 rfl rfl, rfl⟩
theorem fl_X0_103 : FLI RX0 103 9 15 1 := ⟨RX9, TX9, rfl, iX9, by decide, by decide, tbs1 46 rfl rfl, rfl⟩
theorem fl_X0_106 : FLI RX0 106 9 15 2 := ⟨RX9, TX9, rfl, iX9, by decide, by decide, tbs1 49 rfl rfl, rfl⟩
theorem fl_X0_118 : FLI RX0 118 9 15 3 := ⟨RX9, TX9, rfl, iX9, by decide, by decide, tbs1 51 rfl rfl, rfl⟩
theorem fl_X0_138 : FLR RX0 138 3 6 2 1 := ⟨RX3, TX3, rfl, iX3, by decide, by decide, tbs1 132 rfl rfl, rfl⟩
theorem fl_X0_144 : FLR RX0 144 3 6 3 2 := ⟨RX3, TX3, rfl, iX3, by decide, by decide, tbs1 135 rfl rfl, rfl⟩
theorem fl_X0_151 : FLI RX0 151 9 15 5 := ⟨RX9, TX9, rfl, iX9, by decide, by decide, tbs1 59 rfl rfl, rfl⟩
theorem fl_X0_179 : FLR RX0 179 9 15 13 8 := ⟨RX9, TX9, rfl, iX9, by decide, by decide, tbs1 80 rfl rfl, rfl⟩
theorem fl_X0_182 : FLR RX0 182 9 15 14 9 := ⟨RX9, TX9, rfl, iX9, by decide, by decide, tbs1 82 rfl rfl, rfl⟩
theorem fl_X1_9 : FLR RX1 9 1 9 2 1 := ⟨RX1, TX1, rfl, iX1, by decide, by decide, tbs1 166 rfl rfl, rfl⟩
theorem fl_X1_15 : FLR RX1 15 1 9 3 2 := ⟨RX1, TX1, rfl, iX1, by decide, by decide, tbs1 167 rfl rfl, rfl⟩
theorem fl_X1_18 : FLR RX1 18 1 9 4 3 := ⟨RX1, TX1, rfl, iX1, by decide, by decide, tbs1 168 rfl rfl, rfl⟩
theorem fl_X1_21 : FLR RX1 21 1 9 5 4 := ⟨RX1, TX1, rfl, iX1, by decide, by decide, tbs1 169 rfl rfl, rfl⟩
theorem fl_X1_24 : FLR RX1 24 1 9 6 5 := ⟨RX1, TX1, rfl, iX1, by decide, by decide, tbs1 170 rfl rfl, rfl⟩
theorem fl_X1_27 : FLR RX1 27 1 9 7 6 := ⟨RX1, TX1, rfl, iX1, by decide, by decide, tbs1 171 rfl rfl, rfl⟩
theorem fl_X1_30 : FLR RX1 30 1 9 8 7 := ⟨RX1, TX1, rfl, iX1, by decide, by decide, tbs1 173 rfl rfl, rfl⟩
theorem fl_X1_33 : FLI RX1 33 1 9 0 := ⟨RX1, TX1, rfl, iX1, by decide, by decide, tbs1 162 rfl rfl, rfl⟩
theorem fl_X1_37 : FLI RX1 37 1 9 1 := ⟨RX1, TX1, rfl, iX1, by decide, by decide, tbs1 164 rfl rfl, rfl⟩
theorem fl_X10_14 : FLR RX10 14 10 8 0 1 := ⟨RX10, TX10, rfl, iX10, by decide, by decide, tbs1 224 rfl rfl, rfl⟩
theorem fl_X10_20 : FLR RX10 20 10 8 1 3 := ⟨RX10, TX10, rfl, iX10, by decide, by decide, tbs1 226 rfl rfl, rfl⟩
theorem fl_X10_23 : FLR RX10 23 10 8 2 5 := ⟨RX10, TX10, rfl, iX10, by decide, by decide, tbs1 228 rfl rfl, rfl⟩
theorem fl_X10_26 : FLR RX10 26 10 8 3 7 := ⟨RX10, TX10, rfl, iX10, by decide, by decide, tbs1 230 rfl rfl, rfl⟩
theorem fl_X10_29 : FLR RX10 29 10 8 4 9 := ⟨RX10, TX10, rfl, iX10, by decide, by decide, tbs1 232 rfl rfl, rfl⟩
theorem fl_X10_33 : FLR RX10 33 10 8 5 10 := ⟨RX10, TX10, rfl, iX10, by decide, by decide, tbs1 234 rfl rfl, rfl⟩
theorem fl_X10_36 : FLR RX10 36 10 8 6 11 := ⟨RX10, TX10, rfl, iX10, by decide, by decide, tbs1 235 rfl rfl, rfl⟩
theorem fl_X10_39 : FLR RX10 39 10 8 7 12 := ⟨RX10, TX10, rfl, iX10, by decide, by decide, tbs1 236 rfl rfl, rfl⟩
theorem fl_X10_53 : FLI RX10 53 7 5 0 := ⟨RX7, TX7, rfl, iX7, by decide, by decide, tbs1 207 rfl rfl, rfl⟩
theorem fl_X10_57 : FLR RX10 57 7 5 1 1 := ⟨RX7, TX7, rfl, iX7, by decide, by decide, tbs1 209 rfl rfl, rfl⟩
theorem fl_X11_12 : FLR RX11 12 11 9 0 1 := ⟨RX11, TX11, rfl, iX11, by decide, by decide, tbs2 165 rfl rfl, rfl⟩
theorem fl_X11_16 : FLR RX11 16 11 9 1 53 := ⟨RX11, TX11, rfl, iX11, by decide, by decide, tbs2 166 rfl rfl, rfl⟩
theorem fl_X11_22 : FLR RX11 22 11 9 3 105 := ⟨RX11, TX11, rfl, iX11, by decide, by decide, tbs2 168 rfl rfl, rfl⟩
theorem fl_X11_29 : FLR RX11 29 11 9 4 168 := ⟨RX11, TX11, rfl, iX11, by decide, by decide, tbs2 169 rfl rfl, rfl⟩
theorem fl_X11_36 : FLR RX11 36 11 9 5 178 := ⟨RX11, TX11, rfl, iX11, by decide, by decide, tbs2 170 rfl rfl, rfl⟩
theorem fl_X11_43 : FLR RX11 43 11 9 6 180 := ⟨RX11, TX11, rfl, iX11, by decide, by decide, tbs2 171 rfl rfl, rfl⟩
theorem fl_X11_50 : FLR RX11 50 11 9 7 189 := ⟨RX11, TX11, rfl, iX11, by decide, by decide, tbs2 172 rfl rfl, rfl⟩
theorem fl_X11_57 : FLR RX11 57 11 9 8 195 := ⟨RX11, TX11, rfl, iX11, by decide, by decide, tbs2 173 rfl rfl, rfl⟩
theorem fl_X11_61 : FLR RX11 61 0 7 0 1 := ⟨RX0, TX0, rfl, iX0, by decide, by decide, tbs2 16 rfl rfl, rfl⟩
theorem fl_X11_64 : FLI RX11 64 9 15 0 := ⟨RX9, TX9, rfl, iX9, by decide, by decide, tbs1 43 rfl rfl, rfl⟩
theorem fl_X11_75 : FLI RX11 75 9 15 4 := ⟨RX9, TX9, rfl, iX9, by decide, by decide, tbs1 54 rfl rfl, rfl⟩
theorem fl_X11_86 : FLI RX11 86 9 15 5 := ⟨RX9, TX9, rfl, iX9, by decide, by decide, tbs1 58 rfl rfl, rfl⟩
theorem fl_X11_97 : FLR RX11 97 9 15 6 1 := ⟨RX9, TX9, rfl, iX9, by decide, by decide, tbs1 61 rfl rfl, rfl⟩
theorem fl_X11_104 : FLR RX11 104 9 15 12 7 := ⟨RX9, TX9, rfl, iX9, by decide, by decide, tbs1 77 rfl rfl, rfl⟩
theorem fl_X11_107 : FLI RX11 107 9 15 1 := ⟨RX9, TX9, rfl, iX9, by decide, by decide, tbs1 45 rfl rfl, rfl⟩
theorem fl_X11_110 : FLI RX11 110 9 15 2 := ⟨RX9, TX9, rfl, iX9, by decide, by decide, tbs1 48 rfl rfl, rfl⟩
theorem fl_X11_116 : FLR RX11 116 0 7 1 11 := ⟨RX0, TX0, rfl, iX0, by decide, by decide, tbs2 20 rfl rfl, rfl⟩
theorem fl_X11_120 : FLI RX11 120 3 6 0 := ⟨RX3, TX3, rfl, iX3, by decide, by decide, tbs1 129 rfl rfl, rfl⟩
theorem fl_X11_140 : FLR RX11 140 9 15 8 3 := ⟨RX9, TX9, rfl, iX9, by decide, by decide, tbs1 68 rfl rfl, rfl⟩
theorem fl_X11_143 : FLI RX11 143 9 15 3 := ⟨RX9, TX9, rfl, iX9, by decide, by decide, tbs1 52 rfl rfl, rfl⟩
theorem fl_X11_150 : FLI RX11 150 8 9 1 := ⟨RX8, TX8, rfl, iX8, by decide, by decide, tbs2 79 rfl rfl, rfl⟩
theorem fl_X11_163 : FLR RX11 163 0 7 2 16 := ⟨RX0, TX0, rfl, iX0, by decide, by decide, tbs2 22 rfl rfl, rfl⟩
theorem fl_X11_167 : FLR RX11 167 2 1 0 1 := ⟨RX2, TX2, rfl, iX2, by decide, by decide, tbs2 123 rfl rfl, rfl⟩
theorem fl_X11_174 : FLI RX11 174 1 9 0 := ⟨RX1, TX1, rfl, iX1, by decide, by decide, tbs1 163 rfl rfl, rfl⟩
theorem fl_X11_182 : FLR RX11 182 4 5 0 1 := ⟨RX4, TX4, rfl, iX4, by decide, by decide, tbs2 136 rfl rfl, rfl⟩
theorem fl_X11_188 : FLI RX11 188 8 9 2 := ⟨RX8, TX8, rfl, iX8, by decide, by decide, tbs2 81 rfl rfl, rfl⟩
theorem fl_X11_191 : FLI RX11 191 8 9 3 := ⟨RX8, TX8, rfl, iX8, by decide, by decide, tbs2 83 rfl rfl, rfl⟩
theorem fl_X11_194 : FLR RX11 194 9 15 7 2 := ⟨RX9, TX9, rfl, iX9, by decide, by decide, tbs1 65 rfl rfl, rfl⟩
theorem fl_X11_207 : FLR RX11 207 9 15 9 4 := ⟨RX9, TX9, rfl, iX9, by decide, by decide, tbs1 70 rfl rfl, rfl⟩
theorem fl_X11_210 : FLR RX11 210 9 15 10 5 := ⟨RX9, TX9, rfl, iX9, by decide, by decide, tbs1 72 rfl rfl, rfl⟩
theorem fl_X11_213 : FLR RX11 213 9 15 11 6 := ⟨RX9, TX9, rfl, iX9, by decide, by decide, tbs1 75 rfl rfl, rfl⟩
theorem fl_X11_219 : FLR RX11 219 9 15 14 9 := ⟨RX9, TX9, rfl, iX9, by decide, by decide, tbs1 83 rfl rfl, rfl⟩
theorem fl_X11_238 : FLR RX11 238 3 6 2 1 := ⟨RX3, TX3, rfl, iX3, by decide, by decide, tbs1 133 rfl rfl, rfl⟩
theorem fl_X11_240 : FLR RX11 240 3 6 3 2 := ⟨RX3, TX3, rfl, iX3, by decide, by decide, tbs1 136 rfl rfl, rfl⟩
theorem fl_X11_243 : FLR RX11 243 3 6 4 3 := ⟨RX3, TX3, rfl, iX3, by decide, by decide, tbs1 139 rfl rfl, rfl⟩
theorem fl_X11_246 : FLR RX11 246 3 6 5 4 := ⟨RX3, TX3, rfl, iX3, by decide, by decide, tbs1 142 rfl rfl, rfl⟩
theorem fl_X11_262 : FLR RX11 262 0 7 6 39 := ⟨RX0, TX0, rfl, iX0, by decide, by decide, tbs2 30 rfl rfl, rfl⟩
theorem fl_X11_266 : FLR RX11 266 10 8 0 1 := ⟨RX10, TX10, rfl, iX10, by decide, by decide, tbs1 225 rfl rfl, rfl⟩
theorem fl_X11_304 : FLR RX11 304 10 8 1 3 := ⟨RX10, TX10, rfl, iX10, by decide, by decide, tbs1 227 rfl rfl, rfl⟩
theorem fl_X11_328 : FLR RX11 328 10 8 4 9 := ⟨RX10, TX10, rfl, iX10, by decide, by decide, tbs1 233 rfl rfl, rfl⟩
theorem fl_X11_337 : FLR RX11 337 10 8 2 5 := ⟨RX10, TX10, rfl, iX10, by decide, by decide, tbs1 229 rfl rfl, rfl⟩
theorem fl_X11_340 : FLR RX11 340 10 8 3 7 := ⟨RX10, TX10, rfl, iX10, by decide, by decide, tbs1 231 rfl rfl, rfl⟩
theorem fl_X11_356 : FLI RX11 356 11 9 2 := ⟨RX11, TX11, rfl, iX11, by decide, by decide, tbs2 167 rfl rfl, rfl⟩
theorem fl_X11_360 : FLR RX11 360 0 7 3 24 := ⟨RX0, TX0, rfl, iX0, by decide, by decide, tbs2 24 rfl rfl, rfl⟩
theorem fl_X11_363 : FLR RX11 363 0 7 4 29 := ⟨RX0, TX0, rfl, iX0, by decide, by decide, tbs2 26 rfl rfl, rfl⟩
theorem fl_X11_366 : FLR RX11 366 0 7 5 34 := ⟨RX0, TX0, rfl, iX0, by decide, by decide, tbs2 28 rfl rfl, rfl⟩
theorem fl_X11_369 : FLI RX11 369 6 4 0 := ⟨RX6, TX6, rfl, iX6, by decide, by decide, tbs2 56 rfl rfl, rfl⟩
theorem fl_X12_7 : FLR RX12 7 12 62 1 1 := ⟨RX12, TX12, rfl, iX12, by decide, by decide, tbs5 153 rfl rfl, rfl⟩
theorem fl_X12_13 : FLR RX12 13 12 62 2 2 := ⟨RX12, TX12, rfl, iX12, by decide, by decide, tbs5 154 rfl rfl, rfl⟩
theorem fl_X12_16 : FLR RX12 16 12 62 4 3 := ⟨RX12, TX12, rfl, iX12, by decide, by decide, tbs5 156 rfl rfl, rfl⟩
theorem fl_X12_19 : FLR RX12 19 12 62 8 4 := ⟨RX12, TX12, rfl, iX12, by decide, by decide, tbs5 160 rfl rfl, rfl⟩
theorem fl_X12_22 : FLR RX12 22 12 62 9 5 := ⟨RX12, TX12, rfl, iX12, by decide, by decide, tbs5 161 rfl rfl, rfl⟩
theorem fl_X12_25 : FLR RX12 25 12 62 10 6 := ⟨RX12, TX12, rfl, iX12, by decide, by decide, tbs5 162 rfl rfl, rfl⟩
theorem fl_X12_28 : FLR RX12 28 12 62 11 7 := ⟨RX12, TX12, rfl, iX12, by decide, by decide, tbs5 163 rfl rfl, rfl⟩
theorem fl_X12_31 : FLR RX12 31 12 62 12 8 := ⟨RX12, TX12, rfl, iX12, by decide, by decide, tbs5 164 rfl rfl, rfl⟩
theorem fl_X12_34 : FLR RX12 34 12 62 18 9 := ⟨RX12, TX12, rfl, iX12, by decide, by decide, tbs5 170 rfl rfl, rfl⟩
theorem fl_X12_37 : FLR RX12 37 12 62 19 10 := ⟨RX12, TX12, rfl, iX12, by decide, by decide, tbs5 171 rfl rfl, rfl⟩
theorem fl_X12_40 : FLR RX12 40 12 62 20 11 := ⟨RX12, TX12, rfl, iX12, by decide, by decide, tbs5 172 rfl rfl, rfl⟩
theorem fl_X12_43 : FLR RX12 43 12 62 21 12 := ⟨RX12, TX12, rfl, iX12, by decide, by decide, tbs5 173 rfl rfl, rfl⟩
theorem fl_X12_46 : FLR RX12 46 12 62 22 13 := ⟨RX12, TX12, rfl, iX12, by decide, by decide, tbs5 174 rfl rfl, rfl⟩
theorem fl_X12_49 : FLR RX12 49 12 62 23 14 := ⟨RX12, TX12, rfl, iX12, by decide, by decide, tbs5 175 rfl rfl, rfl⟩
theorem fl_X12_52 : FLR RX12 52 12 62 24 15 := ⟨RX12, TX12, rfl, iX12, by decide, by decide, tbs5 176 rfl rfl, rfl⟩
theorem fl_X12_55 : FLR RX12 55 12 62 25 16 := ⟨RX12, TX12, rfl, iX12, by decide, by decide, tbs5 177 rfl rfl, rfl⟩
theorem fl_X12_58 : FLR RX12 58 12 62 29 17 := ⟨RX12, TX12, rfl, iX12, by decide, by decide, tbs5 181 rfl rfl, rfl⟩
theorem fl_X12_61 : FLI RX12 61 12 62 34 := ⟨RX12, TX12, rfl, iX12, by decide, by decide, tbs5 186 rfl rfl, rfl⟩
theorem fl_X12_65 : FLR RX12 65 12 62 36 18 := ⟨RX12, TX12, rfl, iX12, by decide, by decide, tbs5 188 rfl rfl, rfl⟩
theorem fl_X12_68 : FLR RX12 68 12 62 38 19 := ⟨RX12, TX12, rfl, iX12, by decide, by decide, tbs5 190 rfl rfl, rfl⟩
theorem fl_X12_71 : FLR RX12 71 12 62 40 20 := ⟨RX12, TX12, rfl, iX12, by decide, by decide, tbs5 192 rfl rfl, rfl⟩
theorem fl_X12_74 : FLR RX12 74 12 62 41 21 := ⟨RX12, TX12, rfl, iX12, by decide, by decide, tbs5 193 rfl rfl, rfl⟩
theorem fl_X12_77 : FLR RX12 77 12 62 42 22 := ⟨RX12, TX12, rfl, iX12, by decide, by decide, tbs5 194 rfl rfl, rfl⟩
theorem fl_X12_80 : FLR RX12 80 12 62 44 23 := ⟨RX12, TX12, rfl, iX12, by decide, by decide, tbs5 196 rfl rfl, rfl⟩
theorem fl_X12_83 : FLR RX12 83 12 62 45 24 := ⟨RX12, TX12, rfl, iX12, by decide, by decide, tbs5 197 rfl rfl, rfl⟩
theorem fl_X12_86 : FLR RX12 86 12 62 46 25 := ⟨RX12, TX12, rfl, iX12, by decide, by decide, tbs5 198 rfl rfl, rfl⟩
theorem fl_X12_89 : FLR RX12 89 12 62 47 26 := ⟨RX12, TX12, rfl, iX12, by decide, by decide, tbs5 199 rfl rfl, rfl⟩
theorem fl_X12_92 : FLR RX12 92 12 62 49 27 := ⟨RX12, TX12, rfl, iX12, by decide, by decide, tbs5 201 rfl rfl, rfl⟩
theorem fl_X12_95 : FLR RX12 95 12 62 50 28 := ⟨RX12, TX12, rfl, iX12, by decide, by decide, tbs5 202 rfl rfl, rfl⟩
theorem fl_X12_98 : FLR RX12 98 12 62 51 29 := ⟨RX12, TX12, rfl, iX12, by decide, by decide, tbs5 203 rfl rfl, rfl⟩
theorem fl_X12_101 : FLR RX12 101 12 62 52 30 := ⟨RX12, TX12, rfl, iX12, by decide, by decide, tbs5 204 rfl rfl, rfl⟩
theorem fl_X12_104 : FLR RX12 104 12 62 53 31 := ⟨RX12, TX12, rfl, iX12, by decide, by decide, tbs5 205 rfl rfl, rfl⟩
theorem fl_X12_107 : FLR RX12 107 12 62 54 32 := ⟨RX12, TX12, rfl, iX12, by decide, by decide, tbs5 206 rfl rfl, rfl⟩
theorem fl_X12_110 : FLR RX12 110 12 62 55 33 := ⟨RX12, TX12, rfl, iX12, by decide, by decide, tbs5 207 rfl rfl, rfl⟩
theorem fl_X12_113 : FLR RX12 113 12 62 56 34 := ⟨RX12, TX12, rfl, iX12, by decide, by decide, tbs5 208 rfl rfl, rfl⟩
theorem fl_X12_116 : FLR RX12 116 12 62 57 35 := ⟨RX12, TX12, rfl, iX12, by decide, by decide, tbs5 209 rfl rfl, rfl⟩
theorem fl_X12_119 : FLR RX12 119 12 62 61 36 := ⟨RX12, TX12, rfl, iX12, by decide, by decide, tbs5 213 rfl rfl, rfl⟩
theorem fl_X12_125 : FLI RX12 125 12 62 3 := ⟨RX12, TX12, rfl, iX12, by decide, by decide, tbs5 155 rfl rfl, rfl⟩
theorem fl_X12_128 : FLI RX12 128 12 62 5 := ⟨RX12, TX12, rfl, iX12, by decide, by decide, tbs5 157 rfl rfl, rfl⟩
theorem fl_X12_134 : FLI RX12 134 12 62 6 := ⟨RX12, TX12, rfl, iX12, by decide, by decide, tbs5 158 rfl rfl, rfl⟩
theorem fl_X12_137 : FLI RX12 137 12 62 7 := ⟨RX12, TX12, rfl, iX12, by decide, by decide, tbs5 159 rfl rfl, rfl⟩
theorem fl_X12_151 : FLI RX12 151 12 62 13 := ⟨RX12, TX12, rfl, iX12, by decide, by decide, tbs5 165 rfl rfl, rfl⟩
theorem fl_X12_158 : FLI RX12 158 12 62 14 := ⟨RX12, TX12, rfl, iX12, by decide, by decide, tbs5 166 rfl rfl, rfl⟩
theorem fl_X12_165 : FLI RX12 165 12 62 15 := ⟨RX12, TX12, rfl, iX12, by decide, by decide, tbs5 167 rfl rfl, rfl⟩
theorem fl_X12_168 : FLI RX12 168 12 62 16 := ⟨RX12, TX12, rfl, iX12, by decide, by decide, tbs5 168 rfl rfl, rfl⟩
theorem fl_X12_171 : FLI RX12 171 12 62 17 := ⟨RX12, TX12, rfl, iX12, by decide, by decide, tbs5 169 rfl rfl, rfl⟩
theorem fl_X12_187 : FLI RX12 187 12 62 31 := ⟨RX12, TX12, rfl, iX12, by decide, by decide, tbs5 183 rfl rfl, rfl⟩
theorem fl_X12_190 : FLI RX12 190 12 62 32 := ⟨RX12, TX12, rfl, iX12, by decide, by decide, tbs5 184 rfl rfl, rfl⟩
theorem fl_X12_193 : FLI RX12 193 12 62 27 := ⟨RX12, TX12, rfl, iX12, by decide, by decide, tbs5 179 rfl rfl, rfl⟩
theorem fl_X12_222 : FLI RX12 222 12 62 30 := ⟨RX12, TX12, rfl, iX12, by decide, by decide, tbs5 182 rfl rfl, rfl⟩
theorem fl_X12_225 : FLI RX12 225 12 62 28 := ⟨RX12, TX12, rfl, iX12, by decide, by decide, tbs5 180 rfl rfl, rfl⟩
theorem fl_X12_247 : FLI RX12 247 12 62 26 := ⟨RX12, TX12, rfl, iX12, by decide, by decide, tbs5 178 rfl rfl, rfl⟩
theorem fl_X12_284 : FLI RX12 284 12 62 39 := ⟨RX12, TX12, rfl, iX12, by decide, by decide, tbs5 191 rfl rfl, rfl⟩
theorem fl_X12_287 : FLI RX12 287 12 62 35 := ⟨RX12, TX12, rfl, iX12, by decide, by decide, tbs5 187 rfl rfl, rfl⟩
theorem fl_X12_290 : FLI RX12 290 12 62 37 := ⟨RX12, TX12, rfl, iX12, by decide, by decide, tbs5 189 rfl rfl, rfl⟩
theorem fl_X12_293 : FLI RX12 293 12 62 33 := ⟨RX12, TX12, rfl, iX12, by decide, by decide, tbs5 185 rfl rfl, rfl⟩
theorem fl_X12_394 : FLI RX12 394 12 62 43 := ⟨RX12, TX12, rfl, iX12, by decide, by decide, tbs5 195 rfl rfl, rfl⟩
theorem fl_X12_412 : FLI RX12 412 12 62 48 := ⟨RX12, TX12, rfl, iX12, by decide, by decide, tbs5 200 rfl rfl, rfl⟩
theorem fl_X12_434 : FLI RX12 434 12 62 60 := ⟨RX12, TX12, rfl, iX12, by decide, by decide, tbs5 212 rfl rfl, rfl⟩
theorem fl_X12_437 : FLI RX12 437 12 62 58 := ⟨RX12, TX12, rfl, iX12, by decide, by decide, tbs5 210 rfl rfl, rfl⟩
theorem fl_X12_443 : FLI RX12 443 12 62 59 := ⟨RX12, TX12, rfl, iX12, by decide, by decide, tbs5 211 rfl rfl, rfl⟩
theorem fl_X2_12 : FLR RX2 12 2 1 0 1 := ⟨RX2, TX2, rfl, iX2, by decide, by decide, tbs2 122 rfl rfl, rfl⟩
theorem fl_X2_21 : FLI RX2 21 8 9 4 := ⟨RX8, TX8, rfl, iX8, by decide, by decide, tbs2 84 rfl rfl, rfl⟩
theorem fl_X2_38 : FLI RX2 38 1 9 1 := ⟨RX1, TX1, rfl, iX1, by decide, by decide, tbs1 165 rfl rfl, rfl⟩
theorem fl_X2_107 : FLI RX2 107 8 9 7 := ⟨RX8, TX8, rfl, iX8, by decide, by decide, tbs2 90 rfl rfl, rfl⟩
theorem fl_X3_13 : FLI RX3 13 3 6 1 := ⟨RX3, TX3, rfl, iX3, by decide, by decide, tbs1 130 rfl rfl, rfl⟩
theorem fl_X3_19 : FLR RX3 19 3 6 2 1 := ⟨RX3, TX3, rfl, iX3, by decide, by decide, tbs1 131 rfl rfl, rfl⟩
theorem fl_X3_23 : FLR RX3 23 3 6 3 2 := ⟨RX3, TX3, rfl, iX3, by decide, by decide, tbs1 134 rfl rfl, rfl⟩
theorem fl_X3_26 : FLR RX3 26 3 6 4 3 := ⟨RX3, TX3, rfl, iX3, by decide, by decide, tbs1 137 rfl rfl, rfl⟩
theorem fl_X3_29 : FLR RX3 29 3 6 5 4 := ⟨RX3, TX3, rfl, iX3, by decide, by decide, tbs1 140 rfl rfl, rfl⟩
theorem fl_X3_32 : FLI RX3 32 3 6 0 := ⟨RX3, TX3, rfl, iX3, by decide, by decide, tbs1 125 rfl rfl, rfl⟩
theorem fl_X4_14 : FLR RX4 14 4 5 0 1 := ⟨RX4, TX4, rfl, iX4, by decide, by decide, tbs2 135 rfl rfl, rfl⟩
theorem fl_X4_24 : FLI RX4 24 8 9 4 := ⟨RX8, TX8, rfl, iX8, by decide, by decide, tbs2 85 rfl rfl, rfl⟩
theorem fl_X4_52 : FLI RX4 52 4 5 1 := ⟨RX4, TX4, rfl, iX4, by decide, by decide, tbs2 137 rfl rfl, rfl⟩
theorem fl_X4_55 : FLI RX4 55 4 5 2 := ⟨RX4, TX4, rfl, iX4, by decide, by decide, tbs2 138 rfl rfl, rfl⟩
theorem fl_X4_56 : FLI RX4 56 4 5 3 := ⟨RX4, TX4, rfl, iX4, by decide, by decide, tbs2 139 rfl rfl, rfl⟩
theorem fl_X4_59 : FLI RX4 59 4 5 4 := ⟨RX4, TX4, rfl, iX4, by decide, by decide, tbs2 140 rfl rfl, rfl⟩
theorem fl_X4_73 : FLI RX4 73 8 9 8 := ⟨RX8, TX8, rfl, iX8, by decide, by decide, tbs2 92 rfl rfl, rfl⟩
theorem fl_X4_85 : FLI RX4 85 9 15 5 := ⟨RX9, TX9, rfl, iX9, by decide, by decide, tbs1 57 rfl rfl, rfl⟩
theorem fl_X4_98 : FLI RX4 98 9 15 4 := ⟨RX9, TX9, rfl, iX9, by decide, by decide, tbs1 55 rfl rfl, rfl⟩
theorem fl_X4_111 : FLI RX4 111 8 9 7 := ⟨RX8, TX8, rfl, iX8, by decide, by decide, tbs2 91 rfl rfl, rfl⟩
theorem fl_X5_9 : FLR RX5 9 5 2 0 1 := ⟨RX5, TX5, rfl, iX5, by decide, by decide, tbs2 158 rfl rfl, rfl⟩
theorem fl_X5_15 : FLR RX5 15 5 2 1 2 := ⟨RX5, TX5, rfl, iX5, by decide, by decide, tbs2 159 rfl rfl, rfl⟩
theorem fl_X6_11 : FLR RX6 11 6 4 2 1 := ⟨RX6, TX6, rfl, iX6, by decide, by decide, tbs2 58 rfl rfl, rfl⟩
theorem fl_X6_17 : FLR RX6 17 6 4 3 2 := ⟨RX6, TX6, rfl, iX6, by decide, by decide, tbs2 59 rfl rfl, rfl⟩
theorem fl_X6_22 : FLI RX6 22 6 4 0 := ⟨RX6, TX6, rfl, iX6, by decide, by decide, tbs2 55 rfl rfl, rfl⟩
theorem fl_X6_26 : FLI RX6 26 6 4 1 := ⟨RX6, TX6, rfl, iX6, by decide, by decide, tbs2 57 rfl rfl, rfl⟩
theorem fl_X6_39 : FLR RX6 39 0 7 0 1 := ⟨RX0, TX0, rfl, iX0, by decide, by decide, tbs2 17 rfl rfl, rfl⟩
theorem fl_X6_45 : FLR RX6 45 0 7 1 11 := ⟨RX0, TX0, rfl, iX0, by decide, by decide, tbs2 19 rfl rfl, rfl⟩
theorem fl_X7_15 : FLR RX7 15 7 5 1 1 := ⟨RX7, TX7, rfl, iX7, by decide, by decide, tbs1 208 rfl rfl, rfl⟩
theorem fl_X7_21 : FLI RX7 21 7 5 2 := ⟨RX7, TX7, rfl, iX7, by decide, by decide, tbs1 210 rfl rfl, rfl⟩
theorem fl_X7_25 : FLI RX7 25 7 5 3 := ⟨RX7, TX7, rfl, iX7, by decide, by decide, tbs1 211 rfl rfl, rfl⟩
theorem fl_X7_28 : FLI RX7 28 7 5 4 := ⟨RX7, TX7, rfl, iX7, by decide, by decide, tbs1 212 rfl rfl, rfl⟩
theorem fl_X7_32 : FLI RX7 32 7 5 0 := ⟨RX7, TX7, rfl, iX7, by decide, by decide, tbs1 206 rfl rfl, rfl⟩
theorem fl_X8_9 : FLR RX8 9 8 9 0 1 := ⟨RX8, TX8, rfl, iX8, by decide, by decide, tbs2 77 rfl rfl, rfl⟩
theorem fl_X8_19 : FLI RX8 19 8 9 1 := ⟨RX8, TX8, rfl, iX8, by decide, by decide, tbs2 78 rfl rfl, rfl⟩
theorem fl_X8_25 : FLI RX8 25 8 9 6 := ⟨RX8, TX8, rfl, iX8, by decide, by decide, tbs2 88 rfl rfl, rfl⟩
theorem fl_X8_31 : FLI RX8 31 8 9 5 := ⟨RX8, TX8, rfl, iX8, by decide, by decide, tbs2 87 rfl rfl, rfl⟩
theorem fl_X8_38 : FLI RX8 38 8 9 4 := ⟨RX8, TX8, rfl, iX8, by decide, by decide, tbs2 86 rfl rfl, rfl⟩
theorem fl_X8_41 : FLI RX8 41 8 9 7 := ⟨RX8, TX8, rfl, iX8, by decide, by decide, tbs2 89 rfl rfl, rfl⟩
theorem fl_X9_9 : FLR RX9 9 9 15 6 1 := ⟨RX9, TX9, rfl, iX9, by decide, by decide, tbs1 60 rfl rfl, rfl⟩
theorem fl_X9_15 : FLR RX9 15 9 15 7 2 := ⟨RX9, TX9, rfl, iX9, by decide, by decide, tbs1 63 rfl rfl, rfl⟩
theorem fl_X9_18 : FLR RX9 18 9 15 8 3 := ⟨RX9, TX9, rfl, iX9, by decide, by decide, tbs1 66 rfl rfl, rfl⟩
theorem fl_X9_21 : FLR RX9 21 9 15 9 4 := ⟨RX9, TX9, rfl, iX9, by decide, by decide, tbs1 69 rfl rfl, rfl⟩
theorem fl_X9_24 : FLR RX9 24 9 15 10 5 := ⟨RX9, TX9, rfl, iX9, by decide, by decide, tbs1 71 rfl rfl, rfl⟩
theorem fl_X9_27 : FLR RX9 27 9 15 11 6 := ⟨RX9, TX9, rfl, iX9, by decide, by decide, tbs1 73 rfl rfl, rfl⟩
theorem fl_X9_30 : FLR RX9 30 9 15 12 7 := ⟨RX9, TX9, rfl, iX9, by decide, by decide, tbs1 76 rfl rfl, rfl⟩
theorem fl_X9_33 : FLR RX9 33 9 15 13 8 := ⟨RX9, TX9, rfl, iX9, by decide, by decide, tbs1 79 rfl rfl, rfl⟩
theorem fl_X9_36 : FLR RX9 36 9 15 14 9 := ⟨RX9, TX9, rfl, iX9, by decide, by decide, tbs1 81 rfl rfl, rfl⟩
theorem fl_X9_39 : FLI RX9 39 9 15 0 := ⟨RX9, TX9, rfl, iX9, by decide, by decide, tbs1 42 rfl rfl, rfl⟩
theorem fl_X9_43 : FLI RX9 43 9 15 1 := ⟨RX9, TX9, rfl, iX9, by decide, by decide, tbs1 44 rfl rfl, rfl⟩
theorem fl_X9_46 : FLI RX9 46 9 15 2 := ⟨RX9, TX9, rfl, iX9, by decide, by decide, tbs1 47 rfl rfl, rfl⟩
theorem fl_X9_49 : FLI RX9 49 9 15 3 := ⟨RX9, TX9, rfl, iX9, by decide, by decide, tbs1 50 rfl rfl, rfl⟩
theorem fl_X9_52 : FLI RX9 52 9 15 4 := ⟨RX9, TX9, rfl, iX9, by decide, by decide, tbs1 53 rfl rfl, rfl⟩
theorem fl_X9_55 : FLI RX9 55 9 15 5 := ⟨RX9, TX9, rfl, iX9, by decide, by decide, tbs1 56 rfl rfl, rfl⟩
theorem fw_X0_103 : FLW RX0 103 9 15 1 .int := ⟨RX9, TX9, tyX9, rfl, iX9, by decide, by decide, tbs1 46 rfl rfl, rfl, tyX9_ok, nmX9, rfl, rfl⟩
theorem fw_X0_106 : FLW RX0 106 9 15 2 .int := ⟨RX9, TX9, tyX9, rfl, iX9, by decide, by decide, tbs1 49 rfl rfl, rfl, tyX9_ok, nmX9, rfl, rfl⟩
theorem fw_X0_118 : FLW RX0 118 9 15 3 .int := ⟨RX9, TX9, tyX9, rfl, iX9, by decide, by decide, tbs1 51 rfl rfl, rfl, tyX9_ok, nmX9, rfl, rfl⟩
theorem fw_X1_33 : FLW RX1 33 1 9 0 .int := ⟨RX1, TX1, tyX1, rfl, iX1, by decide, by decide, tbs1 162 rfl rfl, rfl, tyX1_ok, nmX1, rfl, rfl⟩
theorem fw_X1_37 : FLW RX1 37 1 9 1 .int := ⟨RX1, TX1, tyX1, rfl, iX1, by decide, by decide, tbs1 164 rfl rfl, rfl, tyX1_ok, nmX1, rfl, rfl⟩
theorem fw_X11_64 : FLW RX11 64 9 15 0 .int := ⟨RX9, TX9, tyX9, rfl, iX9, by decide, by decide, tbs1 43 rfl rfl, rfl, tyX9_ok, nmX9, rfl, rfl⟩
theorem fw_X11_107 : FLW RX11 107 9 15 1 .int := ⟨RX9, TX9, tyX9, rfl, iX9, by decide, by decide, tbs1 45 rfl rfl, rfl, tyX9_ok, nmX9, rfl, rfl⟩
theorem fw_X11_110 : FLW RX11 110 9 15 2 .int := ⟨RX9, TX9, tyX9, rfl, iX9, by decide, by decide, tbs1 48 rfl rfl, rfl, tyX9_ok, nmX9, rfl, rfl⟩
theorem fw_X11_150 : FLW RX11 150 8 9 1 .int := ⟨RX8, TX8, tyX8, rfl, iX8, by decide, by decide, tbs2 79 rfl rfl, rfl, tyX8_ok, nmX8, rfl, rfl⟩
theorem fw_X11_356 : FLW RX11 356 11 9 2 .boolean := ⟨RX11, TX11, tyX11, rfl, iX11, by decide, by decide, tbs2 167 rfl rfl, rfl, tyX11_ok, nmX11, rfl, rfl⟩
theorem fw_X12_61 : FLW RX12 61 12 62 34 .int := ⟨RX12, TX12, tyX12, rfl, iX12, by decide, by decide, tbs5 186 rfl rfl, rfl, tyX12_ok, nmX12, rfl, rfl⟩
theorem fw_X12_122 : FLW RX12 122 12 62 0 .int := ⟨RX12, TX12, tyX12, rfl, iX12, by decide, by decide, tbs5 152 rfl rfl, rfl, tyX12_ok, nmX12, rfl, rfl⟩
theorem fw_X12_125 : FLW RX12 125 12 62 3 .int := ⟨RX12, TX12, tyX12, rfl, iX12, by decide, by decide, tbs5 155 rfl rfl, rfl, tyX12_ok, nmX12, rfl, rfl⟩
theorem fw_X12_128 : FLW RX12 128 12 62 5 .boolean := ⟨RX12, TX12, tyX12, rfl, iX12, by decide, by decide, tbs5 157 rfl rfl, rfl, tyX12_ok, nmX12, rfl, rfl⟩
theorem fw_X12_134 : FLW RX12 134 12 62 6 .int := ⟨RX12, TX12, tyX12, rfl, iX12, by decide, by decide, tbs5 158 rfl rfl, rfl, tyX12_ok, nmX12, rfl, rfl⟩
theorem fw_X12_137 : FLW RX12 137 12 62 7 .int := ⟨RX12, TX12, tyX12, rfl, iX12, by decide, by decide, tbs5 159 rfl rfl, rfl, tyX12_ok, nmX12, rfl, rfl⟩
theorem fw_X12_151 : FLW RX12 151 12 62 13 .int := ⟨RX12, TX12, tyX12, rfl, iX12, by decide, by decide, tbs5 165 rfl rfl, rfl, tyX12_ok, nmX12, rfl, rfl⟩
theorem fw_X12_158 : FLW RX12 158 12 62 14 .int := ⟨RX12, TX12, tyX12, rfl, iX12, by decide, by decide, tbs5 166 rfl rfl, rfl, tyX12_ok, nmX12, rfl, rfl⟩
theorem fw_X12_165 : FLW RX12 165 12 62 15 .int := ⟨RX12, TX12, tyX12, rfl, iX12, by decide, by decide, tbs5 167 rfl rfl, rfl, tyX12_ok, nmX12, rfl, rfl⟩
theorem fw_X12_168 : FLW RX12 168 12 62 16 .int := ⟨RX12, TX12, tyX12, rfl, iX12, by decide, by decide, tbs5 168 rfl rfl, rfl, tyX12_ok, nmX12, rfl, rfl⟩
theorem fw_X12_171 : FLW RX12 171 12 62 17 .int := ⟨RX12, TX12, tyX12, rfl, iX12, by decide, by decide, tbs5 169 rfl rfl, rfl, tyX12_ok, nmX12, rfl, rfl⟩
theorem fw_X12_187 : FLW RX12 187 12 62 31 .int := ⟨RX12, TX12, tyX12, rfl, iX12, by decide, by decide, tbs5 183 rfl rfl, rfl, tyX12_ok, nmX12, rfl, rfl⟩
theorem fw_X12_190 : FLW RX12 190 12 62 32 .int := ⟨RX12, TX12, tyX12, rfl, iX12, by decide, by decide, tbs5 184 rfl rfl, rfl, tyX12_ok, nmX12, rfl, rfl⟩
theorem fw_X12_193 : FLW RX12 193 12 62 27 .int := ⟨RX12, TX12, tyX12, rfl, iX12, by decide, by decide, tbs5 179 rfl rfl, rfl, tyX12_ok, nmX12, rfl, rfl⟩
theorem fw_X12_222 : FLW RX12 222 12 62 30 .int := ⟨RX12, TX12, tyX12, rfl, iX12, by decide, by decide, tbs5 182 rfl rfl, rfl, tyX12_ok, nmX12, rfl, rfl⟩
theorem fw_X12_225 : FLW RX12 225 12 62 28 .int := ⟨RX12, TX12, tyX12, rfl, iX12, by decide, by decide, tbs5 180 rfl rfl, rfl, tyX12_ok, nmX12, rfl, rfl⟩
theorem fw_X12_247 : FLW RX12 247 12 62 26 .int := ⟨RX12, TX12, tyX12, rfl, iX12, by decide, by decide, tbs5 178 rfl rfl, rfl, tyX12_ok, nmX12, rfl, rfl⟩
theorem fw_X12_284 : FLW RX12 284 12 62 39 .int := ⟨RX12, TX12, tyX12, rfl, iX12, by decide, by decide, tbs5 191 rfl rfl, rfl, tyX12_ok, nmX12, rfl, rfl⟩
theorem fw_X12_287 : FLW RX12 287 12 62 35 .int := ⟨RX12, TX12, tyX12, rfl, iX12, by decide, by decide, tbs5 187 rfl rfl, rfl, tyX12_ok, nmX12, rfl, rfl⟩
theorem fw_X12_290 : FLW RX12 290 12 62 37 .int := ⟨RX12, TX12, tyX12, rfl, iX12, by decide, by decide, tbs5 189 rfl rfl, rfl, tyX12_ok, nmX12, rfl, rfl⟩
theorem fw_X12_293 : FLW RX12 293 12 62 33 .int := ⟨RX12, TX12, tyX12, rfl, iX12, by decide, by decide, tbs5 185 rfl rfl, rfl, tyX12_ok, nmX12, rfl, rfl⟩
theorem fw_X12_394 : FLW RX12 394 12 62 43 .int := ⟨RX12, TX12, tyX12, rfl, iX12, by decide, by decide, tbs5 195 rfl rfl, rfl, tyX12_ok, nmX12, rfl, rfl⟩
theorem fw_X12_412 : FLW RX12 412 12 62 48 .int := ⟨RX12, TX12, tyX12, rfl, iX12, by decide, by decide, tbs5 200 rfl rfl, rfl, tyX12_ok, nmX12, rfl, rfl⟩
theorem fw_X12_434 : FLW RX12 434 12 62 60 .int := ⟨RX12, TX12, tyX12, rfl, iX12, by decide, by decide, tbs5 212 rfl rfl, rfl, tyX12_ok, nmX12, rfl, rfl⟩
theorem fw_X12_437 : FLW RX12 437 12 62 58 .boolean := ⟨RX12, TX12, tyX12, rfl, iX12, by decide, by decide, tbs5 210 rfl rfl, rfl, tyX12_ok, nmX12, rfl, rfl⟩
theorem fw_X12_443 : FLW RX12 443 12 62 59 .boolean := ⟨RX12, TX12, tyX12, rfl, iX12, by decide, by decide, tbs5 211 rfl rfl, rfl, tyX12_ok, nmX12, rfl, rfl⟩
theorem fw_X3_32 : FLW RX3 32 3 6 0 .int := ⟨RX3, TX3, tyX3, rfl, iX3, by decide, by decide, tbs1 125 rfl rfl, rfl, tyX3_ok, nmX3, rfl, rfl⟩
theorem fw_X4_20 : FLW RX4 20 3 6 0 .int := ⟨RX3, TX3, tyX3, rfl, iX3, by decide, by decide, tbs1 126 rfl rfl, rfl, tyX3_ok, nmX3, rfl, rfl⟩
theorem fw_X4_52 : FLW RX4 52 4 5 1 .int := ⟨RX4, TX4, tyX4, rfl, iX4, by decide, by decide, tbs2 137 rfl rfl, rfl, tyX4_ok, nmX4, rfl, rfl⟩
theorem fw_X4_55 : FLW RX4 55 4 5 2 .int := ⟨RX4, TX4, tyX4, rfl, iX4, by decide, by decide, tbs2 138 rfl rfl, rfl, tyX4_ok, nmX4, rfl, rfl⟩
theorem fw_X4_56 : FLW RX4 56 4 5 3 .int := ⟨RX4, TX4, tyX4, rfl, iX4, by decide, by decide, tbs2 139 rfl rfl, rfl, tyX4_ok, nmX4, rfl, rfl⟩
theorem fw_X4_59 : FLW RX4 59 4 5 4 .int := ⟨RX4, TX4, tyX4, rfl, iX4, by decide, by decide, tbs2 140 rfl rfl, rfl, tyX4_ok, nmX4, rfl, rfl⟩
theorem fw_X6_22 : FLW RX6 22 6 4 0 .int := ⟨RX6, TX6, tyX6, rfl, iX6, by decide, by decide, tbs2 55 rfl rfl, rfl, tyX6_ok, nmX6, rfl, rfl⟩
theorem fw_X6_26 : FLW RX6 26 6 4 1 .int := ⟨RX6, TX6, tyX6, rfl, iX6, by decide, by decide, tbs2 57 rfl rfl, rfl, tyX6_ok, nmX6, rfl, rfl⟩
theorem fw_X6_49 : FLW RX6 49 3 6 0 .int := ⟨RX3, TX3, tyX3, rfl, iX3, by decide, by decide, tbs1 128 rfl rfl, rfl, tyX3_ok, nmX3, rfl, rfl⟩
theorem fw_X7_32 : FLW RX7 32 7 5 0 .int := ⟨RX7, TX7, tyX7, rfl, iX7, by decide, by decide, tbs1 206 rfl rfl, rfl, tyX7_ok, nmX7, rfl, rfl⟩
theorem fw_X8_15 : FLW RX8 15 8 9 3 .int := ⟨RX8, TX8, tyX8, rfl, iX8, by decide, by decide, tbs2 82 rfl rfl, rfl, tyX8_ok, nmX8, rfl, rfl⟩
theorem fw_X8_19 : FLW RX8 19 8 9 1 .int := ⟨RX8, TX8, tyX8, rfl, iX8, by decide, by decide, tbs2 78 rfl rfl, rfl, tyX8_ok, nmX8, rfl, rfl⟩
theorem fw_X8_22 : FLW RX8 22 8 9 2 .int := ⟨RX8, TX8, tyX8, rfl, iX8, by decide, by decide, tbs2 80 rfl rfl, rfl, tyX8_ok, nmX8, rfl, rfl⟩
theorem fw_X8_25 : FLW RX8 25 8 9 6 .int := ⟨RX8, TX8, tyX8, rfl, iX8, by decide, by decide, tbs2 88 rfl rfl, rfl, tyX8_ok, nmX8, rfl, rfl⟩
theorem fw_X8_31 : FLW RX8 31 8 9 5 .int := ⟨RX8, TX8, tyX8, rfl, iX8, by decide, by decide, tbs2 87 rfl rfl, rfl, tyX8_ok, nmX8, rfl, rfl⟩
theorem fw_X8_38 : FLW RX8 38 8 9 4 .int := ⟨RX8, TX8, tyX8, rfl, iX8, by decide, by decide, tbs2 86 rfl rfl, rfl, tyX8_ok, nmX8, rfl, rfl⟩
theorem fw_X8_41 : FLW RX8 41 8 9 7 .int := ⟨RX8, TX8, tyX8, rfl, iX8, by decide, by decide, tbs2 89 rfl rfl, rfl, tyX8_ok, nmX8, rfl, rfl⟩
theorem fw_X8_65 : FLW RX8 65 8 9 8 .int := ⟨RX8, TX8, tyX8, rfl, iX8, by decide, by decide, tbs2 93 rfl rfl, rfl, tyX8_ok, nmX8, rfl, rfl⟩
theorem fw_X9_39 : FLW RX9 39 9 15 0 .int := ⟨RX9, TX9, tyX9, rfl, iX9, by decide, by decide, tbs1 42 rfl rfl, rfl, tyX9_ok, nmX9, rfl, rfl⟩
theorem fw_X9_43 : FLW RX9 43 9 15 1 .int := ⟨RX9, TX9, tyX9, rfl, iX9, by decide, by decide, tbs1 44 rfl rfl, rfl, tyX9_ok, nmX9, rfl, rfl⟩
theorem fw_X9_46 : FLW RX9 46 9 15 2 .int := ⟨RX9, TX9, tyX9, rfl, iX9, by decide, by decide, tbs1 47 rfl rfl, rfl, tyX9_ok, nmX9, rfl, rfl⟩
theorem fw_X9_49 : FLW RX9 49 9 15 3 .int := ⟨RX9, TX9, tyX9, rfl, iX9, by decide, by decide, tbs1 50 rfl rfl, rfl, tyX9_ok, nmX9, rfl, rfl⟩
theorem fw_X9_52 : FLW RX9 52 9 15 4 .int := ⟨RX9, TX9, tyX9, rfl, iX9, by decide, by decide, tbs1 53 rfl rfl, rfl, tyX9_ok, nmX9, rfl, rfl⟩
theorem fw_X9_55 : FLW RX9 55 9 15 5 .int := ⟨RX9, TX9, tyX9, rfl, iX9, by decide, by decide, tbs1 56 rfl rfl, rfl, tyX9_ok, nmX9, rfl, rfl⟩
theorem ml_J0_335 : Cond.methodLink RJ0 335 (my uJ0_coder_7d493) ∈ tb := tbs3 173 rfl rfl
theorem ml_J0_492 : Cond.methodLink RJ0 492 (my uJ0_isLatin1_aae02) ∈ tb := tbs3 183 rfl rfl
theorem ml_J0_495 : Cond.methodLink RJ0 495 (my uJ1_charAt_3b067) ∈ tb := tbs3 187 rfl rfl
theorem ml_J0_1059 : Cond.methodLink RJ0 1059 (my uJ3_checkIndex_8e157) ∈ tb := tbs3 195 rfl rfl
theorem ml_J1_9 : Cond.methodLink RJ1 9 (my uJ0_checkIndex_df160) ∈ tb := tbs3 190 rfl rfl
theorem ml_L_13 : Cond.methodLink RL 13 (my uX11_state) ∈ tb := tbs2 193 rfl rfl
theorem ml_L_17 : Cond.methodLink RL 17 (my uX12_state) ∈ tb := tbs6 103 rfl rfl
theorem ml_L_18 : Cond.methodLink RL 18 (my uX11_person) ∈ tb := tbs2 201 rfl rfl
theorem ml_L_21 : Cond.methodLink RL 21 (my uX12_person) ∈ tb := tbs6 107 rfl rfl
theorem ml_L_22 : Cond.methodLink RL 22 (my uX11_bargain) ∈ tb := tbs2 212 rfl rfl
theorem ml_L_26 : Cond.methodLink RL 26 (my uX12_bargain) ∈ tb := tbs6 115 rfl rfl
theorem ml_L_27 : Cond.methodLink RL 27 (my uX11_set) ∈ tb := tbs2 228 rfl rfl
theorem ml_L_31 : Cond.methodLink RL 31 (my uX12_set) ∈ tb := tbs6 123 rfl rfl
theorem ml_L_32 : Cond.methodLink RL 32 (my uX11_act) ∈ tb := tbs3 1 rfl rfl
theorem ml_L_36 : Cond.methodLink RL 36 (my uX12_act) ∈ tb := tbs7 43 rfl rfl
theorem ml_L_37 : Cond.methodLink RL 37 (my uX11_days) ∈ tb := tbs3 106 rfl rfl
theorem ml_L_40 : Cond.methodLink RL 40 (my uX12_days) ∈ tb := tbs7 129 rfl rfl
theorem ml_L_41 : Cond.methodLink RL 41 (my uX11_feed) ∈ tb := tbs3 125 rfl rfl
theorem ml_L_45 : Cond.methodLink RL 45 (my uX12_feed) ∈ tb := tbs6 131 rfl rfl
theorem ml_L_46 : Cond.methodLink RL 46 (my uX11_end) ∈ tb := tbs3 133 rfl rfl
theorem ml_L_50 : Cond.methodLink RL 50 (my uX12_end) ∈ tb := tbs6 139 rfl rfl
theorem ml_L_51 : Cond.methodLink RL 51 (my uX11_text) ∈ tb := tbs3 137 rfl rfl
theorem ml_L_54 : Cond.methodLink RL 54 (my uX12_text) ∈ tb := tbs6 143 rfl rfl
theorem ml_L_55 : Cond.methodLink RL 55 (my uX11_fault) ∈ tb := tbs4 108 rfl rfl
theorem ml_L_58 : Cond.methodLink RL 58 (my uX12_fault) ∈ tb := tbs7 39 rfl rfl
theorem ml_L_59 : Cond.methodLink RL 59 (my uX11_of) ∈ tb := tbs4 112 rfl rfl
theorem ml_L_63 : Cond.methodLink RL 63 (my uX12_of) ∈ tb := tbs7 149 rfl rfl
theorem ml_L_64 : Cond.methodLink RL 64 (my uX11_deal) ∈ tb := tbs4 125 rfl rfl
theorem ml_L_67 : Cond.methodLink RL 67 (my uX12_deal) ∈ tb := tbs7 157 rfl rfl
theorem ml_L_68 : Cond.methodLink RL 68 (my uX11_book) ∈ tb := tbs4 137 rfl rfl
theorem ml_L_71 : Cond.methodLink RL 71 (my uX12_book) ∈ tb := tbs7 161 rfl rfl
theorem ml_L_72 : Cond.methodLink RL 72 (my uX11_goes) ∈ tb := tbs4 141 rfl rfl
theorem ml_L_75 : Cond.methodLink RL 75 (my uX12_goes) ∈ tb := tbs7 165 rfl rfl
theorem ml_L_76 : Cond.methodLink RL 76 (my uX11_holds) ∈ tb := tbs4 158 rfl rfl
theorem ml_L_79 : Cond.methodLink RL 79 (my uX12_holds) ∈ tb := tbs7 185 rfl rfl
theorem ml_L_80 : Cond.methodLink RL 80 (my uX11_deals) ∈ tb := tbs4 162 rfl rfl
theorem ml_L_83 : Cond.methodLink RL 83 (my uX12_deals) ∈ tb := tbs7 189 rfl rfl
theorem ml_L_84 : Cond.methodLink RL 84 (my uX11_jump) ∈ tb := tbs4 166 rfl rfl
theorem ml_L_87 : Cond.methodLink RL 87 (my uX12_jump) ∈ tb := tbs7 193 rfl rfl
theorem ml_L_88 : Cond.methodLink RL 88 (my uX11_jumps) ∈ tb := tbs4 179 rfl rfl
theorem ml_L_91 : Cond.methodLink RL 91 (my uX12_jumps) ∈ tb := tbs7 197 rfl rfl
theorem ml_L_92 : Cond.methodLink RL 92 (my uX11_walks) ∈ tb := tbs4 193 rfl rfl
theorem ml_L_95 : Cond.methodLink RL 95 (my uX12_walks) ∈ tb := tbs7 206 rfl rfl
theorem ml_L_96 : Cond.methodLink RL 96 (my uX11_apart) ∈ tb := tbs4 204 rfl rfl
theorem ml_L_99 : Cond.methodLink RL 99 (my uX12_apart) ∈ tb := tbs7 214 rfl rfl
theorem ml_L_100 : Cond.methodLink RL 100 (my uX11_corners) ∈ tb := tbs4 211 rfl rfl
theorem ml_L_103 : Cond.methodLink RL 103 (my uX12_corners) ∈ tb := tbs7 218 rfl rfl
theorem ml_L_104 : Cond.methodLink RL 104 (my uX11_parts) ∈ tb := tbs4 221 rfl rfl
theorem ml_L_107 : Cond.methodLink RL 107 (my uX12_parts) ∈ tb := tbs7 222 rfl rfl
theorem ml_L_108 : Cond.methodLink RL 108 (my uX11_lasts) ∈ tb := tbs4 232 rfl rfl
theorem ml_L_111 : Cond.methodLink RL 111 (my uX12_lasts) ∈ tb := tbs7 230 rfl rfl
theorem ml_L_112 : Cond.methodLink RL 112 (my uX11_turn) ∈ tb := tbs5 3 rfl rfl
theorem ml_L_115 : Cond.methodLink RL 115 (my uX12_turn) ∈ tb := tbs7 239 rfl rfl
theorem ml_L_116 : Cond.methodLink RL 116 (my uX11_turning) ∈ tb := tbs5 7 rfl rfl
theorem ml_L_119 : Cond.methodLink RL 119 (my uX12_turning) ∈ tb := tbs8 3 rfl rfl
theorem ml_L_120 : Cond.methodLink RL 120 (my uX11_ant) ∈ tb := tbs5 19 rfl rfl
theorem ml_L_123 : Cond.methodLink RL 123 (my uX12_ant) ∈ tb := tbs8 7 rfl rfl
theorem ml_L_124 : Cond.methodLink RL 124 (my uX11_row) ∈ tb := tbs5 32 rfl rfl
theorem ml_L_127 : Cond.methodLink RL 127 (my uX12_row) ∈ tb := tbs8 11 rfl rfl
theorem ml_L_128 : Cond.methodLink RL 128 (my uX11_own) ∈ tb := tbs5 40 rfl rfl
theorem ml_L_131 : Cond.methodLink RL 131 (my uX12_own) ∈ tb := tbs8 16 rfl rfl
theorem ml_L_132 : Cond.methodLink RL 132 (my uX11_round) ∈ tb := tbs5 51 rfl rfl
theorem ml_L_136 : Cond.methodLink RL 136 (my uX12_round) ∈ tb := tbs8 24 rfl rfl
theorem ml_L_137 : Cond.methodLink RL 137 (my uX11_nine) ∈ tb := tbs5 63 rfl rfl
theorem ml_L_140 : Cond.methodLink RL 140 (my uX12_nine) ∈ tb := tbs8 32 rfl rfl
theorem ml_L_141 : Cond.methodLink RL 141 (my uX11_even) ∈ tb := tbs5 67 rfl rfl
theorem ml_L_144 : Cond.methodLink RL 144 (my uX12_even) ∈ tb := tbs8 36 rfl rfl
theorem ml_L_145 : Cond.methodLink RL 145 (my uX11_rule) ∈ tb := tbs5 86 rfl rfl
theorem ml_L_148 : Cond.methodLink RL 148 (my uX12_rule) ∈ tb := tbs8 48 rfl rfl
theorem ml_L_149 : Cond.methodLink RL 149 (my uX11_game) ∈ tb := tbs5 90 rfl rfl
theorem ml_L_152 : Cond.methodLink RL 152 (my uX12_game) ∈ tb := tbs8 52 rfl rfl
theorem ml_L_153 : Cond.methodLink RL 153 (my uX11_undo) ∈ tb := tbs5 111 rfl rfl
theorem ml_L_157 : Cond.methodLink RL 157 (my uX12_undo) ∈ tb := tbs6 99 rfl rfl
theorem ml_L_158 : Cond.methodLink RL 158 (my uX11_image) ∈ tb := tbs5 119 rfl rfl
theorem ml_L_162 : Cond.methodLink RL 162 (my uX12_image) ∈ tb := tbs8 64 rfl rfl
theorem ml_L_163 : Cond.methodLink RL 163 (my uX11_look) ∈ tb := tbs5 141 rfl rfl
theorem ml_L_166 : Cond.methodLink RL 166 (my uX12_look) ∈ tb := tbs8 80 rfl rfl
theorem ml_X0_50 : Cond.methodLink RX0 50 (my uX9_copyFrom) ∈ tb := tbs5 127 rfl rfl
theorem ml_X0_54 : Cond.methodLink RX0 54 (my uX3_copyFrom) ∈ tb := tbs5 128 rfl rfl
theorem ml_X0_57 : Cond.methodLink RX0 57 (my uX1_copyFrom) ∈ tb := tbs5 129 rfl rfl
theorem ml_X0_60 : Cond.methodLink RX0 60 (my uX10_copyFrom) ∈ tb := tbs5 130 rfl rfl
theorem ml_X0_74 : Cond.methodLink RX0 74 (my uX9_hasBargain) ∈ tb := tbs3 47 rfl rfl
theorem ml_X0_81 : Cond.methodLink RX0 81 (my uX9_whoIs) ∈ tb := tbs3 35 rfl rfl
theorem ml_X0_85 : Cond.methodLink RX0 85 (my uX9_hasPerson) ∈ tb := tbs3 42 rfl rfl
theorem ml_X0_109 : Cond.methodLink RX0 109 (my uX0_hearersOf) ∈ tb := tbs3 48 rfl rfl
theorem ml_X0_113 : Cond.methodLink RX0 113 (my uJ6_bitCount_0f7a4) ∈ tb := tbs3 52 rfl rfl
theorem ml_X0_121 : Cond.methodLink RX0 121 (my uX1_lineFor) ∈ tb := tbs3 58 rfl rfl
theorem ml_X0_124 : Cond.methodLink RX0 124 (my uX0_withoutLaw) ∈ tb := tbs3 73 rfl rfl
theorem ml_X0_127 : Cond.methodLink RX0 127 (my uX1_valueOf) ∈ tb := tbs3 77 rfl rfl
theorem ml_X0_130 : Cond.methodLink RX0 130 Lib.Math.min.name ∈ tb := tbs3 81 rfl rfl
theorem ml_X0_135 : Cond.methodLink RX0 135 Lib.Math.max.name ∈ tb := tbs3 82 rfl rfl
theorem ml_X0_140 : Cond.methodLink RX0 140 (my uX0_tellEvening) ∈ tb := tbs3 114 rfl rfl
theorem ml_X0_147 : Cond.methodLink RX0 147 (my uX0_twist) ∈ tb := tbs3 119 rfl rfl
theorem ml_X0_154 : Cond.methodLink RX0 154 (my uX0_blurSome) ∈ tb := tbs3 120 rfl rfl
theorem ml_X0_158 : Cond.methodLink RX0 158 (my uX9_makeClear) ∈ tb := tbs3 118 rfl rfl
theorem ml_X0_161 : Cond.methodLink RX0 161 (my uX9_isOpen) ∈ tb := tbs3 40 rfl rfl
theorem ml_X0_164 : Cond.methodLink RX0 164 (my uX9_hasSaid) ∈ tb := tbs3 41 rfl rfl
theorem ml_X0_168 : Cond.methodLink RX0 168 (my uX0_asked) ∈ tb := tbs3 43 rfl rfl
theorem ml_X0_172 : Cond.methodLink RX0 172 (my uX9_drawn) ∈ tb := tbs3 83 rfl rfl
theorem ml_X0_175 : Cond.methodLink RX0 175 (my uX0_note) ∈ tb := tbs3 89 rfl rfl
theorem ml_X0_185 : Cond.methodLink RX0 185 (my uX0_blurAway) ∈ tb := tbs3 124 rfl rfl
theorem ml_X0_188 : Cond.methodLink RX0 188 (my uX3_append) ∈ tb := tbs3 93 rfl rfl
theorem ml_X1_40 : Cond.methodLink RX1 40 arraycopyName ∈ tb := tbs4 48 rfl rfl
theorem ml_X1_46 : Cond.methodLink RX1 46 (my uX1_worked) ∈ tb := tbs3 62 rfl rfl
theorem ml_X1_50 : Cond.methodLink RX1 50 (my uX1_named) ∈ tb := tbs3 66 rfl rfl
theorem ml_X1_54 : Cond.methodLink RX1 54 (my uX1_joined) ∈ tb := tbs3 70 rfl rfl
theorem ml_X10_43 : Cond.methodLink RX10 43 (my uX7_copyFrom) ∈ tb := tbs5 134 rfl rfl
theorem ml_X10_47 : Cond.methodLink RX10 47 arraycopyName ∈ tb := tbs5 140 rfl rfl
theorem ml_X10_60 : Cond.methodLink RX10 60 Lib.Math.min.name ∈ tb := tbs4 187 rfl rfl
theorem ml_X10_66 : Cond.methodLink RX10 66 Lib.Math.max.name ∈ tb := tbs4 192 rfl rfl
theorem ml_X10_69 : Cond.methodLink RX10 69 (my uX10_stand) ∈ tb := tbs5 15 rfl rfl
theorem ml_X10_76 : Cond.methodLink RX10 76 (my uX10_sumOf) ∈ tb := tbs5 75 rfl rfl
theorem ml_X10_80 : Cond.methodLink RX10 80 (my uX10_linesOfSum) ∈ tb := tbs5 81 rfl rfl
theorem ml_X10_83 : Cond.methodLink RX10 83 (my uX10_workWins) ∈ tb := tbs5 98 rfl rfl
theorem ml_X10_87 : Cond.methodLink RX10 87 (my uX7_has) ∈ tb := tbs5 102 rfl rfl
theorem ml_X10_91 : Cond.methodLink RX10 91 (my uX10_leastStep) ∈ tb := tbs5 103 rfl rfl
theorem ml_X11_68 : Cond.methodLink RX11 68 (my uX6_forget) ∈ tb := tbs2 197 rfl rfl
theorem ml_X11_71 : Cond.methodLink RX11 71 (my uX11_isWithin) ∈ tb := tbs2 205 rfl rfl
theorem ml_X11_78 : Cond.methodLink RX11 78 (my uX9_addPerson) ∈ tb := tbs2 208 rfl rfl
theorem ml_X11_82 : Cond.methodLink RX11 82 (my uX9_areTwo) ∈ tb := tbs2 216 rfl rfl
theorem ml_X11_89 : Cond.methodLink RX11 89 (my uX9_addBargain) ∈ tb := tbs2 224 rfl rfl
theorem ml_X11_93 : Cond.methodLink RX11 93 (my uX9_hasPerson) ∈ tb := tbs2 232 rfl rfl
theorem ml_X11_101 : Cond.methodLink RX11 101 (my uX9_isOpen) ∈ tb := tbs2 233 rfl rfl
theorem ml_X11_113 : Cond.methodLink RX11 113 (my uX11_canAct) ∈ tb := tbs3 5 rfl rfl
theorem ml_X11_125 : Cond.methodLink RX11 125 (my uX6_keep) ∈ tb := tbs3 17 rfl rfl
theorem ml_X11_129 : Cond.methodLink RX11 129 (my uX0_twist) ∈ tb := tbs3 31 rfl rfl
theorem ml_X11_133 : Cond.methodLink RX11 133 (my uX9_makeClear) ∈ tb := tbs3 97 rfl rfl
theorem ml_X11_136 : Cond.methodLink RX11 136 (my uX0_blurAway) ∈ tb := tbs3 102 rfl rfl
theorem ml_X11_146 : Cond.methodLink RX11 146 (my uX0_goDay) ∈ tb := tbs3 110 rfl rfl
theorem ml_X11_153 : Cond.methodLink RX11 153 (my uX8_append) ∈ tb := tbs3 129 rfl rfl
theorem ml_X11_156 : Cond.methodLink RX11 156 (my uX8_begin) ∈ tb := tbs3 141 rfl rfl
theorem ml_X11_159 : Cond.methodLink RX11 159 (my uX2_read) ∈ tb := tbs3 153 rfl rfl
theorem ml_X11_168 : Cond.methodLink RX11 168 (my uX1_copyFrom) ∈ tb := tbs4 44 rfl rfl
theorem ml_X11_175 : Cond.methodLink RX11 175 (my uX4_read) ∈ tb := tbs4 49 rfl rfl
theorem ml_X11_178 : Cond.methodLink RX11 178 (my uX0_linesOf) ∈ tb := tbs4 98 rfl rfl
theorem ml_X11_185 : Cond.methodLink RX11 185 (my uX3_copyFrom) ∈ tb := tbs4 102 rfl rfl
theorem ml_X11_197 : Cond.methodLink RX11 197 (my uX9_bargainsOf) ∈ tb := tbs4 116 rfl rfl
theorem ml_X11_201 : Cond.methodLink RX11 201 (my uX0_heardBy) ∈ tb := tbs4 121 rfl rfl
theorem ml_X11_204 : Cond.methodLink RX11 204 (my uX9_hasBargain) ∈ tb := tbs4 129 rfl rfl
theorem ml_X11_216 : Cond.methodLink RX11 216 (my uX9_hasSaid) ∈ tb := tbs3 9 rfl rfl
theorem ml_X11_222 : Cond.methodLink RX11 222 (my uX0_asked) ∈ tb := tbs4 130 rfl rfl
theorem ml_X11_226 : Cond.methodLink RX11 226 (my uX0_hearersOf) ∈ tb := tbs4 131 rfl rfl
theorem ml_X11_229 : Cond.methodLink RX11 229 (my uJ6_bitCount_0f7a4) ∈ tb := tbs4 132 rfl rfl
theorem ml_X11_234 : Cond.methodLink RX11 234 (my uX11_phraseTold) ∈ tb := tbs4 133 rfl rfl
theorem ml_X11_249 : Cond.methodLink RX11 249 (my uX9_copyFrom) ∈ tb := tbs4 145 rfl rfl
theorem ml_X11_252 : Cond.methodLink RX11 252 (my uX9_thoseThatAre) ∈ tb := tbs4 146 rfl rfl
theorem ml_X11_255 : Cond.methodLink RX11 255 (my uX9_owesOfAll) ∈ tb := tbs4 150 rfl rfl
theorem ml_X11_259 : Cond.methodLink RX11 259 (my uX9_clearOfAll) ∈ tb := tbs4 154 rfl rfl
theorem ml_X11_272 : Cond.methodLink RX11 272 (my uX7_tell) ∈ tb := tbs4 170 rfl rfl
theorem ml_X11_277 : Cond.methodLink RX11 277 (my uX10_fewestJumps) ∈ tb := tbs4 183 rfl rfl
theorem ml_X11_280 : Cond.methodLink RX11 280 (my uX10_furthestPlace) ∈ tb := tbs4 188 rfl rfl
theorem ml_X11_283 : Cond.methodLink RX11 283 (my uX5_walksTo) ∈ tb := tbs4 197 rfl rfl
theorem ml_X11_286 : Cond.methodLink RX11 286 (my uX5_leastApart) ∈ tb := tbs4 208 rfl rfl
theorem ml_X11_290 : Cond.methodLink RX11 290 (my uX5_cornersUpTo) ∈ tb := tbs4 215 rfl rfl
theorem ml_X11_293 : Cond.methodLink RX11 293 (my uX5_cornersAround) ∈ tb := tbs4 218 rfl rfl
theorem ml_X11_296 : Cond.methodLink RX11 296 (my uX5_chainOfParts) ∈ tb := tbs4 225 rfl rfl
theorem ml_X11_300 : Cond.methodLink RX11 300 (my uX5_lasting) ∈ tb := tbs4 237 rfl rfl
theorem ml_X11_307 : Cond.methodLink RX11 307 (my uX10_turned) ∈ tb := tbs5 11 rfl rfl
theorem ml_X11_310 : Cond.methodLink RX11 310 (my uX5_antWalk) ∈ tb := tbs5 23 rfl rfl
theorem ml_X11_314 : Cond.methodLink RX11 314 (my uX5_nextRow) ∈ tb := tbs5 37 rfl rfl
theorem ml_X11_317 : Cond.methodLink RX11 317 (my uX5_ownDifferences) ∈ tb := tbs5 44 rfl rfl
theorem ml_X11_320 : Cond.methodLink RX11 320 (my uX5_timesRound) ∈ tb := tbs5 55 rfl rfl
theorem ml_X11_324 : Cond.methodLink RX11 324 (my uX5_shifted) ∈ tb := tbs5 62 rfl rfl
theorem ml_X11_331 : Cond.methodLink RX11 331 (my uX10_waysToEven) ∈ tb := tbs5 71 rfl rfl
theorem ml_X11_334 : Cond.methodLink RX11 334 (my uX10_linesOfSum) ∈ tb := tbs5 85 rfl rfl
theorem ml_X11_343 : Cond.methodLink RX11 343 (my uX10_winningStep) ∈ tb := tbs5 94 rfl rfl
theorem ml_X11_346 : Cond.methodLink RX11 346 (my uX10_winningSquares) ∈ tb := tbs5 107 rfl rfl
theorem ml_X11_349 : Cond.methodLink RX11 349 (my uX6_goBack) ∈ tb := tbs5 115 rfl rfl
theorem ml_X11_353 : Cond.methodLink RX11 353 (my uX0_copyFrom) ∈ tb := tbs5 123 rfl rfl
theorem ml_X11_371 : Cond.methodLink RX11 371 (my uX9_canClear) ∈ tb := tbs3 13 rfl rfl
theorem ml_X12_140 : Cond.methodLink RX12 140 (my uX12_isIn) ∈ tb := tbs6 111 rfl rfl
theorem ml_X12_144 : Cond.methodLink RX12 144 (my uX12_isPerson) ∈ tb := tbs6 119 rfl rfl
theorem ml_X12_148 : Cond.methodLink RX12 148 (my uX12_isBargain) ∈ tb := tbs6 127 rfl rfl
theorem ml_X12_154 : Cond.methodLink RX12 154 (my uX12_types) ∈ tb := tbs6 135 rfl rfl
theorem ml_X12_161 : Cond.methodLink RX12 161 (my uX12_raw) ∈ tb := tbs6 155 rfl rfl
theorem ml_X12_174 : Cond.methodLink RX12 174 (my uX12_isLetter) ∈ tb := tbs6 159 rfl rfl
theorem ml_X12_177 : Cond.methodLink RX12 177 (my uX12_wordAt) ∈ tb := tbs6 163 rfl rfl
theorem ml_X12_181 : Cond.methodLink RX12 181 (my uX12_isDigit) ∈ tb := tbs6 167 rfl rfl
theorem ml_X12_184 : Cond.methodLink RX12 184 (my uX12_isMarkSign) ∈ tb := tbs6 171 rfl rfl
theorem ml_X12_196 : Cond.methodLink RX12 196 (my uX12_canAsk) ∈ tb := tbs7 7 rfl rfl
theorem ml_X12_199 : Cond.methodLink RX12 199 (my uX12_errs) ∈ tb := tbs6 183 rfl rfl
theorem ml_X12_202 : Cond.methodLink RX12 202 (my uX12_emits) ∈ tb := tbs7 11 rfl rfl
theorem ml_X12_206 : Cond.methodLink RX12 206 (my uX12_reads) ∈ tb := tbs6 151 rfl rfl
theorem ml_X12_209 : Cond.methodLink RX12 209 (my uX12_readUnit) ∈ tb := tbs7 3 rfl rfl
theorem ml_X12_213 : Cond.methodLink RX12 213 (my uX12_isSign) ∈ tb := tbs6 203 rfl rfl
theorem ml_X12_216 : Cond.methodLink RX12 216 (my uX12_readProduct) ∈ tb := tbs6 239 rfl rfl
theorem ml_X12_219 : Cond.methodLink RX12 219 (my uX12_readSum) ∈ tb := tbs6 235 rfl rfl
theorem ml_X12_228 : Cond.methodLink RX12 228 (my uX12_isWord) ∈ tb := tbs6 179 rfl rfl
theorem ml_X12_231 : Cond.methodLink RX12 231 (my uX12_waits) ∈ tb := tbs7 19 rfl rfl
theorem ml_X12_234 : Cond.methodLink RX12 234 (my uX12_readCompared) ∈ tb := tbs7 23 rfl rfl
theorem ml_X12_237 : Cond.methodLink RX12 237 (my uX12_settles) ∈ tb := tbs7 27 rfl rfl
theorem ml_X12_240 : Cond.methodLink RX12 240 (my uX12_isLineWord) ∈ tb := tbs6 231 rfl rfl
theorem ml_X12_244 : Cond.methodLink RX12 244 (my uX12_readAny) ∈ tb := tbs7 15 rfl rfl
theorem ml_X12_250 : Cond.methodLink RX12 250 (my uX12_readNumber) ∈ tb := tbs6 195 rfl rfl
theorem ml_X12_253 : Cond.methodLink RX12 253 (my uX12_readTold) ∈ tb := tbs6 191 rfl rfl
theorem ml_X12_257 : Cond.methodLink RX12 257 (my uX12_readMark) ∈ tb := tbs6 199 rfl rfl
theorem ml_X12_260 : Cond.methodLink RX12 260 (my uX12_readHop) ∈ tb := tbs6 187 rfl rfl
theorem ml_X12_263 : Cond.methodLink RX12 263 (my uX12_kindOfStreet) ∈ tb := tbs6 215 rfl rfl
theorem ml_X12_266 : Cond.methodLink RX12 266 (my uX12_readStreetLine) ∈ tb := tbs6 211 rfl rfl
theorem ml_X12_269 : Cond.methodLink RX12 269 (my uX12_readLean) ∈ tb := tbs6 223 rfl rfl
theorem ml_X12_272 : Cond.methodLink RX12 272 (my uX12_readHops) ∈ tb := tbs6 175 rfl rfl
theorem ml_X12_275 : Cond.methodLink RX12 275 (my uX12_readStreet) ∈ tb := tbs6 207 rfl rfl
theorem ml_X12_278 : Cond.methodLink RX12 278 (my uX12_readLeans) ∈ tb := tbs6 219 rfl rfl
theorem ml_X12_281 : Cond.methodLink RX12 281 (my uX12_readLaw) ∈ tb := tbs6 227 rfl rfl
theorem ml_X12_296 : Cond.methodLink RX12 296 (my uX12_readsText) ∈ tb := tbs6 147 rfl rfl
theorem ml_X12_299 : Cond.methodLink RX12 299 (my uX12_takesLaw) ∈ tb := tbs7 31 rfl rfl
theorem ml_X12_302 : Cond.methodLink RX12 302 (my uX12_takesOther) ∈ tb := tbs7 35 rfl rfl
theorem ml_X12_305 : Cond.methodLink RX12 305 (my uX12_twoOf) ∈ tb := tbs7 95 rfl rfl
theorem ml_X12_308 : Cond.methodLink RX12 308 (my uX12_runs) ∈ tb := tbs7 91 rfl rfl
theorem ml_X12_311 : Cond.methodLink RX12 311 (my uX12_onesOf) ∈ tb := tbs7 79 rfl rfl
theorem ml_X12_314 : Cond.methodLink RX12 314 (my uX12_lineOf) ∈ tb := tbs7 87 rfl rfl
theorem ml_X12_317 : Cond.methodLink RX12 317 (my uX12_held) ∈ tb := tbs7 99 rfl rfl
theorem ml_X12_320 : Cond.methodLink RX12 320 (my uX12_asks) ∈ tb := tbs7 75 rfl rfl
theorem ml_X12_324 : Cond.methodLink RX12 324 (my uX12_lawTells) ∈ tb := tbs7 83 rfl rfl
theorem ml_X12_327 : Cond.methodLink RX12 327 (my uX12_draw) ∈ tb := tbs7 107 rfl rfl
theorem ml_X12_330 : Cond.methodLink RX12 330 (my uX12_has) ∈ tb := tbs7 55 rfl rfl
theorem ml_X12_334 : Cond.methodLink RX12 334 (my uX12_hopperOf) ∈ tb := tbs7 67 rfl rfl
theorem ml_X12_337 : Cond.methodLink RX12 337 (my uX12_landsOn) ∈ tb := tbs7 71 rfl rfl
theorem ml_X12_340 : Cond.methodLink RX12 340 (my uX12_happens) ∈ tb := tbs7 103 rfl rfl
theorem ml_X12_343 : Cond.methodLink RX12 343 (my uX12_costsOn) ∈ tb := tbs7 113 rfl rfl
theorem ml_X12_346 : Cond.methodLink RX12 346 (my uX12_notes) ∈ tb := tbs7 117 rfl rfl
theorem ml_X12_349 : Cond.methodLink RX12 349 (my uX12_canHop) ∈ tb := tbs7 51 rfl rfl
theorem ml_X12_352 : Cond.methodLink RX12 352 (my uX12_canAct) ∈ tb := tbs7 47 rfl rfl
theorem ml_X12_355 : Cond.methodLink RX12 355 (my uX12_keepsAhead) ∈ tb := tbs7 59 rfl rfl
theorem ml_X12_358 : Cond.methodLink RX12 358 (my uX12_hopsOver) ∈ tb := tbs7 63 rfl rfl
theorem ml_X12_361 : Cond.methodLink RX12 361 (my uX12_isCleared) ∈ tb := tbs7 121 rfl rfl
theorem ml_X12_364 : Cond.methodLink RX12 364 (my uX12_isBlurred) ∈ tb := tbs7 125 rfl rfl
theorem ml_X12_367 : Cond.methodLink RX12 367 (my uX12_comes) ∈ tb := tbs7 137 rfl rfl
theorem ml_X12_370 : Cond.methodLink RX12 370 (my uX12_wipesOf) ∈ tb := tbs7 141 rfl rfl
theorem ml_X12_373 : Cond.methodLink RX12 373 (my uX12_greater) ∈ tb := tbs7 145 rfl rfl
theorem ml_X12_376 : Cond.methodLink RX12 376 (my uX12_goesBy) ∈ tb := tbs7 133 rfl rfl
theorem ml_X12_379 : Cond.methodLink RX12 379 (my uX12_bargainsOf) ∈ tb := tbs7 153 rfl rfl
theorem ml_X12_382 : Cond.methodLink RX12 382 (my uX12_thinks) ∈ tb := tbs7 169 rfl rfl
theorem ml_X12_385 : Cond.methodLink RX12 385 (my uX12_setThatIs) ∈ tb := tbs7 173 rfl rfl
theorem ml_X12_388 : Cond.methodLink RX12 388 (my uX12_sumOf) ∈ tb := tbs7 177 rfl rfl
theorem ml_X12_391 : Cond.methodLink RX12 391 (my uX12_endsThought) ∈ tb := tbs7 181 rfl rfl
theorem ml_X12_398 : Cond.methodLink RX12 398 (my uX12_lesser) ∈ tb := tbs7 202 rfl rfl
theorem ml_X12_401 : Cond.methodLink RX12 401 (my uX12_walkEnds) ∈ tb := tbs7 210 rfl rfl
theorem ml_X12_404 : Cond.methodLink RX12 404 (my uX12_partsTogether) ∈ tb := tbs7 226 rfl rfl
theorem ml_X12_408 : Cond.methodLink RX12 408 (my uX12_digitsOf) ∈ tb := tbs7 235 rfl rfl
theorem ml_X12_416 : Cond.methodLink RX12 416 (my uX12_ownOf) ∈ tb := tbs8 20 rfl rfl
theorem ml_X12_419 : Cond.methodLink RX12 419 (my uX12_roundOf) ∈ tb := tbs8 28 rfl rfl
theorem ml_X12_422 : Cond.methodLink RX12 422 (my uX12_lineSum) ∈ tb := tbs8 44 rfl rfl
theorem ml_X12_425 : Cond.methodLink RX12 425 (my uX12_linesThatCome) ∈ tb := tbs8 40 rfl rfl
theorem ml_X12_428 : Cond.methodLink RX12 428 (my uX12_isBarred) ∈ tb := tbs8 60 rfl rfl
theorem ml_X12_431 : Cond.methodLink RX12 431 (my uX12_goodStep) ∈ tb := tbs8 56 rfl rfl
theorem ml_X12_440 : Cond.methodLink RX12 440 (my uX12_keeps) ∈ tb := tbs8 68 rfl rfl
theorem ml_X12_446 : Cond.methodLink RX12 446 (my uX12_keepsTold) ∈ tb := tbs8 72 rfl rfl
theorem ml_X12_449 : Cond.methodLink RX12 449 (my uX12_keepsLaw) ∈ tb := tbs8 76 rfl rfl
theorem ml_X2_18 : Cond.methodLink RX2 18 (my uX1_clear) ∈ tb := tbs3 157 rfl rfl
theorem ml_X2_27 : Cond.methodLink RX2 27 (my uX2_wordAtHand) ∈ tb := tbs3 161 rfl rfl
theorem ml_X2_31 : Cond.methodLink RX2 31 (my uX8_refuse) ∈ tb := tbs3 219 rfl rfl
theorem ml_X2_35 : Cond.methodLink RX2 35 (my uX8_advance) ∈ tb := tbs3 223 rfl rfl
theorem ml_X2_41 : Cond.methodLink RX2 41 (my uX2_readSum) ∈ tb := tbs3 224 rfl rfl
theorem ml_X2_47 : Cond.methodLink RX2 47 (my uX8_passWord) ∈ tb := tbs4 18 rfl rfl
theorem ml_X2_51 : Cond.methodLink RX2 51 (my uX2_readEither) ∈ tb := tbs4 23 rfl rfl
theorem ml_X2_55 : Cond.methodLink RX2 55 (my uX8_takeSign) ∈ tb := tbs4 33 rfl rfl
theorem ml_X2_59 : Cond.methodLink RX2 59 (my uX1_appendLine) ∈ tb := tbs4 40 rfl rfl
theorem ml_X2_65 : Cond.methodLink RX2 65 (my uX8_isWord) ∈ tb := tbs3 165 rfl rfl
theorem ml_X2_91 : Cond.methodLink RX2 91 (my uX2_readTest) ∈ tb := tbs4 27 rfl rfl
theorem ml_X2_94 : Cond.methodLink RX2 94 (my uX1_put) ∈ tb := tbs3 232 rfl rfl
theorem ml_X2_104 : Cond.methodLink RX2 104 (my uX8_isSign) ∈ tb := tbs4 32 rfl rfl
theorem ml_X2_110 : Cond.methodLink RX2 110 (my uX2_readUnit) ∈ tb := tbs3 228 rfl rfl
theorem ml_X2_114 : Cond.methodLink RX2 114 (my uX8_passSign) ∈ tb := tbs4 9 rfl rfl
theorem ml_X2_118 : Cond.methodLink RX2 118 (my uX2_nameAtHand) ∈ tb := tbs3 236 rfl rfl
theorem ml_X3_35 : Cond.methodLink RX3 35 Lib.Math.min.name ∈ tb := tbs4 106 rfl rfl
theorem ml_X3_38 : Cond.methodLink RX3 38 arraycopyName ∈ tb := tbs4 107 rfl rfl
theorem ml_X4_33 : Cond.methodLink RX4 33 (my uX8_isWord) ∈ tb := tbs4 55 rfl rfl
theorem ml_X4_37 : Cond.methodLink RX4 37 (my uX8_refuse) ∈ tb := tbs4 56 rfl rfl
theorem ml_X4_41 : Cond.methodLink RX4 41 (my uX8_advance) ∈ tb := tbs4 57 rfl rfl
theorem ml_X4_44 : Cond.methodLink RX4 44 (my uX4_readLine) ∈ tb := tbs4 58 rfl rfl
theorem ml_X4_48 : Cond.methodLink RX4 48 (my uX8_takeSign) ∈ tb := tbs4 96 rfl rfl
theorem ml_X4_62 : Cond.methodLink RX4 62 (my uX3_append) ∈ tb := tbs4 97 rfl rfl
theorem ml_X4_66 : Cond.methodLink RX4 66 (my uX4_readHearing) ∈ tb := tbs4 62 rfl rfl
theorem ml_X4_70 : Cond.methodLink RX4 70 (my uX8_takeNumber) ∈ tb := tbs4 66 rfl rfl
theorem ml_X4_76 : Cond.methodLink RX4 76 (my uX4_readTwist) ∈ tb := tbs4 79 rfl rfl
theorem ml_X4_79 : Cond.methodLink RX4 79 (my uX4_readEvening) ∈ tb := tbs4 85 rfl rfl
theorem ml_X4_82 : Cond.methodLink RX4 82 (my uX8_takeWord) ∈ tb := tbs4 71 rfl rfl
theorem ml_X4_94 : Cond.methodLink RX4 94 (my uX4_kindAtHand) ∈ tb := tbs4 89 rfl rfl
theorem ml_X4_114 : Cond.methodLink RX4 114 (my uX9_isOneOf) ∈ tb := tbs4 75 rfl rfl
theorem ml_X5_19 : Cond.methodLink RX5 19 (my uX5_walksFrom) ∈ tb := tbs4 201 rfl rfl
theorem ml_X5_23 : Cond.methodLink RX5 23 (my uX5_sumOfParts) ∈ tb := tbs4 229 rfl rfl
theorem ml_X5_27 : Cond.methodLink RX5 27 (my uX5_ofDigits) ∈ tb := tbs5 0 rfl rfl
theorem ml_X5_31 : Cond.methodLink RX5 31 (my uJ13_bitCount_95d88) ∈ tb := tbs5 26 rfl rfl
theorem ml_X5_37 : Cond.methodLink RX5 37 Lib.Math.max.name ∈ tb := tbs5 47 rfl rfl
theorem ml_X5_43 : Cond.methodLink RX5 43 (my uX5_ownDifference) ∈ tb := tbs5 48 rfl rfl
theorem ml_X5_46 : Cond.methodLink RX5 46 (my uJ6_bitCount_0f7a4) ∈ tb := tbs5 61 rfl rfl
theorem ml_X5_50 : Cond.methodLink RX5 50 (my uX5_shifted) ∈ tb := tbs5 58 rfl rfl
theorem ml_X6_29 : Cond.methodLink RX6 29 (my uX9_copyFrom) ∈ tb := tbs3 21 rfl rfl
theorem ml_X6_33 : Cond.methodLink RX6 33 Lib.Math.min.name ∈ tb := tbs3 28 rfl rfl
theorem ml_X7_39 : Cond.methodLink RX7 39 (my uX7_has) ∈ tb := tbs4 175 rfl rfl
theorem ml_X7_43 : Cond.methodLink RX7 43 Lib.Math.min.name ∈ tb := tbs5 138 rfl rfl
theorem ml_X7_46 : Cond.methodLink RX7 46 arraycopyName ∈ tb := tbs5 139 rfl rfl
theorem ml_X8_28 : Cond.methodLink RX8 28 (my uX8_advance) ∈ tb := tbs3 145 rfl rfl
theorem ml_X8_34 : Cond.methodLink RX8 34 (my uX8_kindAt) ∈ tb := tbs3 149 rfl rfl
theorem ml_X8_44 : Cond.methodLink RX8 44 (my uJ0_length_8abf5) ∈ tb := tbs3 169 rfl rfl
theorem ml_X8_49 : Cond.methodLink RX8 49 (my uJ0_charAt_5068e) ∈ tb := tbs3 179 rfl rfl
theorem ml_X8_53 : Cond.methodLink RX8 53 (my uX8_isWord) ∈ tb := tbs4 22 rfl rfl
theorem ml_X8_57 : Cond.methodLink RX8 57 (my uX8_isSign) ∈ tb := tbs4 13 rfl rfl
theorem ml_X8_61 : Cond.methodLink RX8 61 (my uX8_refuse) ∈ tb := tbs4 37 rfl rfl
theorem ml_X9_58 : Cond.methodLink RX9 58 arraycopyName ∈ tb := tbs3 25 rfl rfl
theorem ml_X9_64 : Cond.methodLink RX9 64 (my uX9_hasPerson) ∈ tb := tbs2 220 rfl rfl
theorem ml_X9_68 : Cond.methodLink RX9 68 (my uX9_hasBargain) ∈ tb := tbs2 237 rfl rfl
theorem ml_X9_75 : Cond.methodLink RX9 75 (my uX9_canClear) ∈ tb := tbs3 101 rfl rfl
theorem ml_X9_80 : Cond.methodLink RX9 80 (my uX9_isOneOf) ∈ tb := tbs4 120 rfl rfl
theorem lc_J13_314 : Cond.constantLong RJ13 314 6148914691236517205 ∈ tb := tbs5 29 rfl rfl
theorem lc_J13_316 : Cond.constantLong RJ13 316 3689348814741910323 ∈ tb := tbs5 30 rfl rfl
theorem lc_J13_318 : Cond.constantLong RJ13 318 1085102592571150095 ∈ tb := tbs5 31 rfl rfl
theorem lc_J6_265 : Cond.constant RJ6 265 1431655765 ∈ tb := tbs3 55 rfl rfl
theorem lc_J6_266 : Cond.constant RJ6 266 858993459 ∈ tb := tbs3 56 rfl rfl
theorem lc_J6_267 : Cond.constant RJ6 267 252645135 ∈ tb := tbs3 57 rfl rfl
theorem lc_X11_299 : Cond.constant RX11 299 999999 ∈ tb := tbs4 236 rfl rfl
theorem lc_X11_313 : Cond.constant RX11 313 65535 ∈ tb := tbs5 36 rfl rfl
theorem lc_X11_370 : Cond.constant RX11 370 (-100000) ∈ tb := tbs5 145 rfl rfl
theorem lc_X12_132 : Cond.constant RX12 132 1664525 ∈ tb := tbs7 111 rfl rfl
theorem lc_X12_133 : Cond.constant RX12 133 1013904223 ∈ tb := tbs7 112 rfl rfl
theorem lc_X12_397 : Cond.constant RX12 397 100000000 ∈ tb := tbs7 201 rfl rfl
theorem lc_X12_407 : Cond.constant RX12 407 999999 ∈ tb := tbs7 234 rfl rfl
theorem lc_X12_415 : Cond.constant RX12 415 65535 ∈ tb := tbs8 15 rfl rfl
theorem lc_X12_452 : Cond.constant RX12 452 (-100000) ∈ tb := tbs8 84 rfl rfl
theorem lc_X9_78 : Cond.constant RX9 78 1664525 ∈ tb := tbs3 87 rfl rfl
theorem lc_X9_79 : Cond.constant RX9 79 1013904223 ∈ tb := tbs3 88 rfl rfl
theorem jmax_1 : Cond.static Lib.Math.max.name ∈ tb := tbs1 123 rfl rfl
theorem jmax_2 : Cond.code Lib.Math.max.name Lib.Math.max.code 2 (some .int) ∈ tb := tbs1 124 rfl rfl
theorem jmin_1 : Cond.static Lib.Math.min.name ∈ tb := tbs3 29 rfl rfl
theorem jmin_2 : Cond.code Lib.Math.min.name Lib.Math.min.code 2 (some .int) ∈ tb := tbs3 30 rfl rfl
theorem j_math : Cond.initialized "java/lang/Math" ∈ tb := tbs1 5 rfl rfl
theorem j_cp1 : Cond.native arraycopyName ∈ tb := tbs3 27 rfl rfl
theorem j_cp2 : Cond.static arraycopyName ∈ tb := tbs3 26 rfl rfl
theorem j_cp3 : Cond.initialized "java/lang/System" ∈ tb := tbs1 15 rfl rfl
theorem gcs_J0_38 : Cond.fieldLink RJ0 38 "java/lang/String" "COMPACT_STRINGS" "Z" ∈ tb := tbs3 177 rfl rfl
theorem gsi_J0_1053 : Cond.fieldLink RJ0 1053 "jdk/internal/util/Preconditions" "SIOOBE_FORMATTER" "Ljava/util/function/BiFunction;" ∈ tb := tbs3 193 rfl rfl
theorem gst_X10_73 : Cond.fieldLink RX10 73 RX10 "STRAIGHT" "[I" ∈ tb := tbs5 79 rfl rfl
theorem gsf_J0_9 : Cond.fieldLink RJ0 9 "java/lang/String" "value" "[B" ∈ tb := tbs8 85 rfl rfl
theorem gsf_J0_15 : Cond.fieldLink RJ0 15 "java/lang/String" "coder" "B" ∈ tb := tbs8 86 rfl rfl
theorem kdc_0 : kd 0 = (11, 9) := rfl
theorem kdc_1 : kd 1 = (0, 7) := rfl
theorem kdc_2 : kd 2 = (9, 15) := rfl
theorem kdc_3 : kd 3 = (20, 12) := rfl
theorem kdc_4 : kd 4 = (20, 12) := rfl
theorem kdc_5 : kd 5 = (20, 12) := rfl
theorem kdc_6 : kd 6 = (20, 14) := rfl
theorem kdc_7 : kd 7 = (20, 14) := rfl
theorem kdc_8 : kd 8 = (20, 14) := rfl
theorem kdc_9 : kd 9 = (20, 14) := rfl
theorem kdc_10 : kd 10 = (20, 14) := rfl
theorem kdc_11 : kd 11 = (20, 14) := rfl
theorem kdc_12 : kd 12 = (3, 6) := rfl
theorem kdc_13 : kd 13 = (20, 150) := rfl
theorem kdc_14 : kd 14 = (20, 150) := rfl
theorem kdc_15 : kd 15 = (20, 150) := rfl
theorem kdc_16 : kd 16 = (20, 150) := rfl
theorem kdc_17 : kd 17 = (1, 9) := rfl
theorem kdc_18 : kd 18 = (20, 16) := rfl
theorem kdc_19 : kd 19 = (20, 16) := rfl
theorem kdc_20 : kd 20 = (20, 16) := rfl
theorem kdc_21 : kd 21 = (20, 16) := rfl
theorem kdc_22 : kd 22 = (20, 400) := rfl
theorem kdc_23 : kd 23 = (20, 10) := rfl
theorem kdc_24 : kd 24 = (20, 32) := rfl
theorem kdc_25 : kd 25 = (3, 6) := rfl
theorem kdc_26 : kd 26 = (20, 16) := rfl
theorem kdc_27 : kd 27 = (20, 16) := rfl
theorem kdc_28 : kd 28 = (20, 16) := rfl
theorem kdc_30 : kd 30 = (3, 6) := rfl
theorem kdc_31 : kd 31 = (20, 16) := rfl
theorem kdc_32 : kd 32 = (20, 16) := rfl
theorem kdc_33 : kd 33 = (20, 16) := rfl
theorem kdc_34 : kd 34 = (20, 16) := rfl
theorem kdc_35 : kd 35 = (3, 6) := rfl
theorem kdc_38 : kd 38 = (20, 16) := rfl
theorem kdc_39 : kd 39 = (20, 16) := rfl
theorem kdc_40 : kd 40 = (10, 8) := rfl
theorem kdc_41 : kd 41 = (7, 5) := rfl
theorem kdc_42 : kd 42 = (20, 14) := rfl
theorem kdc_43 : kd 43 = (7, 5) := rfl
theorem kdc_44 : kd 44 = (20, 16) := rfl
theorem kdc_45 : kd 45 = (7, 5) := rfl
theorem kdc_46 : kd 46 = (20, 5) := rfl
theorem kdc_47 : kd 47 = (7, 5) := rfl
theorem kdc_49 : kd 49 = (20, 9) := rfl
theorem kdc_50 : kd 50 = (20, 14) := rfl
theorem kdc_51 : kd 51 = (20, 17) := rfl
theorem kdc_52 : kd 52 = (22, 201) := rfl
theorem kdc_53 : kd 53 = (0, 7) := rfl
theorem kdc_105 : kd 105 = (6, 4) := rfl
theorem kdc_106 : kd 106 = (23, 6) := rfl
theorem kdc_107 : kd 107 = (20, 6) := rfl
theorem kdc_168 : kd 168 = (9, 15) := rfl
theorem kdc_171 : kd 171 = (20, 12) := rfl
theorem kdc_175 : kd 175 = (20, 14) := rfl
theorem kdc_177 : kd 177 = (20, 14) := rfl
theorem kdc_178 : kd 178 = (8, 9) := rfl
theorem kdc_179 : kd 179 = (21, 400) := rfl
theorem kdc_180 : kd 180 = (2, 1) := rfl
theorem kdc_181 : kd 181 = (1, 9) := rfl
theorem kdc_182 : kd 182 = (20, 16) := rfl
theorem kdc_183 : kd 183 = (20, 16) := rfl
theorem kdc_184 : kd 184 = (20, 16) := rfl
theorem kdc_185 : kd 185 = (20, 16) := rfl
theorem kdc_186 : kd 186 = (20, 400) := rfl
theorem kdc_189 : kd 189 = (4, 5) := rfl
theorem kdc_190 : kd 190 = (3, 6) := rfl
theorem kdc_195 : kd 195 = (5, 2) := rfl
theorem kdc_196 : kd 196 = (22, 289) := rfl
theorem kdc_197 : kd 197 = (20, 313) := rfl
theorem kdc_198 : kd 198 = (12, 62) := rfl
theorem kdc_199 : kd 199 = (20, 83) := rfl
theorem kdc_200 : kd 200 = (20, 498) := rfl
theorem kdc_201 : kd 201 = (20, 83) := rfl
theorem kdc_202 : kd 202 = (20, 14) := rfl
theorem kdc_203 : kd 203 = (20, 14) := rfl
theorem kdc_204 : kd 204 = (20, 14) := rfl
theorem kdc_205 : kd 205 = (20, 600) := rfl
theorem kdc_206 : kd 206 = (20, 400) := rfl
theorem kdc_207 : kd 207 = (20, 118) := rfl
theorem kdc_208 : kd 208 = (20, 2) := rfl
theorem kdc_209 : kd 209 = (20, 48) := rfl
theorem kdc_210 : kd 210 = (20, 48) := rfl
theorem kdc_211 : kd 211 = (20, 48) := rfl
theorem kdc_212 : kd 212 = (20, 48) := rfl
theorem kdc_213 : kd 213 = (20, 1200) := rfl
theorem kdc_214 : kd 214 = (20, 1200) := rfl
theorem kdc_215 : kd 215 = (20, 40) := rfl
theorem kdc_216 : kd 216 = (20, 96) := rfl
theorem kdc_217 : kd 217 = (20, 128) := rfl
theorem kdc_218 : kd 218 = (20, 28) := rfl
theorem kdc_219 : kd 219 = (20, 10) := rfl
theorem kdc_220 : kd 220 = (20, 420) := rfl
theorem kdc_221 : kd 221 = (20, 14) := rfl
theorem kdc_222 : kd 222 = (20, 14) := rfl
theorem kdc_223 : kd 223 = (20, 9) := rfl
theorem kdc_224 : kd 224 = (20, 10000) := rfl
theorem kdc_225 : kd 225 = (20, 16) := rfl
theorem kdc_226 : kd 226 = (20, 17) := rfl
theorem kdc_227 : kd 227 = (20, 17) := rfl
theorem kdc_228 : kd 228 = (20, 64) := rfl
theorem kdc_229 : kd 229 = (20, 10) := rfl
theorem kdc_230 : kd 230 = (20, 9) := rfl
theorem kdc_231 : kd 231 = (20, 2) := rfl
theorem kdc_232 : kd 232 = (20, 16) := rfl
theorem kdc_233 : kd 233 = (20, 201) := rfl
theorem kdc_234 : kd 234 = (20, 2200) := rfl
theorem kcl_0 {k : Nat} (h : kd k = (0, 7)) : k ∈ [1, 53] := (show ∀ k, k < NC → kd k = (0, 7) → k ∈ [1, 53] by decide +kernel) k (kd_lt h (by decide)) h
theorem kcl_1 {k : Nat} (h : kd k = (1, 9)) : k ∈ [17, 69, 181] := (show ∀ k, k < NC → kd k = (1, 9) → k ∈ [17, 69, 181] by decide +kernel) k (kd_lt h (by decide)) h
theorem kcl_3 {k : Nat} (h : kd k = (3, 6)) : k ∈ [12, 25, 30, 35, 64, 77, 82, 87, 190] := (show ∀ k, k < NC → kd k = (3, 6) → k ∈ [12, 25, 30, 35, 64, 77, 82, 87, 190] by decide +kernel) k (kd_lt h (by decide)) h
theorem kcl_7 {k : Nat} (h : kd k = (7, 5)) : k ∈ [41, 43, 45, 47, 93, 95, 97, 99] := (show ∀ k, k < NC → kd k = (7, 5) → k ∈ [41, 43, 45, 47, 93, 95, 97, 99] by decide +kernel) k (kd_lt h (by decide)) h
theorem kcl_9 {k : Nat} (h : kd k = (9, 15)) : k ∈ [2, 54, 108, 118, 128, 138, 148, 158, 168] := (show ∀ k, k < NC → kd k = (9, 15) → k ∈ [2, 54, 108, 118, 128, 138, 148, 158, 168] by decide +kernel) k (kd_lt h (by decide)) h
theorem kcl_10 {k : Nat} (h : kd k = (10, 8)) : k ∈ [40, 92] := (show ∀ k, k < NC → kd k = (10, 8) → k ∈ [40, 92] by decide +kernel) k (kd_lt h (by decide)) h
theorem kx_0_1 {k : Nat} (h : kd k = (0, 7)) : kd (k + 1) = (9, 15) := (show ∀ k ∈ [1, 53], kd (k + 1) = (9, 15) by decide +kernel) k (kcl_0 h)
theorem kx_0_11 {k : Nat} (h : kd k = (0, 7)) : kd (k + 11) = (3, 6) := (show ∀ k ∈ [1, 53], kd (k + 11) = (3, 6) by decide +kernel) k (kcl_0 h)
theorem kx_0_16 {k : Nat} (h : kd k = (0, 7)) : kd (k + 16) = (1, 9) := (show ∀ k ∈ [1, 53], kd (k + 16) = (1, 9) by decide +kernel) k (kcl_0 h)
theorem kx_0_24 {k : Nat} (h : kd k = (0, 7)) : kd (k + 24) = (3, 6) := (show ∀ k ∈ [1, 53], kd (k + 24) = (3, 6) by decide +kernel) k (kcl_0 h)
theorem kx_0_29 {k : Nat} (h : kd k = (0, 7)) : kd (k + 29) = (3, 6) := (show ∀ k ∈ [1, 53], kd (k + 29) = (3, 6) by decide +kernel) k (kcl_0 h)
theorem kx_0_34 {k : Nat} (h : kd k = (0, 7)) : kd (k + 34) = (3, 6) := (show ∀ k ∈ [1, 53], kd (k + 34) = (3, 6) by decide +kernel) k (kcl_0 h)
theorem kx_0_39 {k : Nat} (h : kd k = (0, 7)) : kd (k + 39) = (10, 8) := (show ∀ k ∈ [1, 53], kd (k + 39) = (10, 8) by decide +kernel) k (kcl_0 h)
theorem kx_1_1 {k : Nat} (h : kd k = (1, 9)) : kd (k + 1) = (20, 16) := (show ∀ k ∈ [17, 69, 181], kd (k + 1) = (20, 16) by decide +kernel) k (kcl_1 h)
theorem kx_1_2 {k : Nat} (h : kd k = (1, 9)) : kd (k + 2) = (20, 16) := (show ∀ k ∈ [17, 69, 181], kd (k + 2) = (20, 16) by decide +kernel) k (kcl_1 h)
theorem kx_1_3 {k : Nat} (h : kd k = (1, 9)) : kd (k + 3) = (20, 16) := (show ∀ k ∈ [17, 69, 181], kd (k + 3) = (20, 16) by decide +kernel) k (kcl_1 h)
theorem kx_1_4 {k : Nat} (h : kd k = (1, 9)) : kd (k + 4) = (20, 16) := (show ∀ k ∈ [17, 69, 181], kd (k + 4) = (20, 16) by decide +kernel) k (kcl_1 h)
theorem kx_1_5 {k : Nat} (h : kd k = (1, 9)) : kd (k + 5) = (20, 400) := (show ∀ k ∈ [17, 69, 181], kd (k + 5) = (20, 400) by decide +kernel) k (kcl_1 h)
theorem kx_3_1 {k : Nat} (h : kd k = (3, 6)) : kd (k + 1) = (20, kn (k + 1)) := Prod.ext ((show ∀ k ∈ [12, 25, 30, 35, 64, 77, 82, 87, 190], (kd (k + 1)).1 = 20 by decide +kernel) k (kcl_3 h)) rfl
theorem kx_3_2 {k : Nat} (h : kd k = (3, 6)) : kd (k + 2) = (20, kn (k + 2)) := Prod.ext ((show ∀ k ∈ [12, 25, 30, 35, 64, 77, 82, 87, 190], (kd (k + 2)).1 = 20 by decide +kernel) k (kcl_3 h)) rfl
theorem kx_3_3 {k : Nat} (h : kd k = (3, 6)) : kd (k + 3) = (20, kn (k + 3)) := Prod.ext ((show ∀ k ∈ [12, 25, 30, 35, 64, 77, 82, 87, 190], (kd (k + 3)).1 = 20 by decide +kernel) k (kcl_3 h)) rfl
theorem kx_3_4 {k : Nat} (h : kd k = (3, 6)) : kd (k + 4) = (20, kn (k + 4)) := Prod.ext ((show ∀ k ∈ [12, 25, 30, 35, 64, 77, 82, 87, 190], (kd (k + 4)).1 = 20 by decide +kernel) k (kcl_3 h)) rfl
theorem kx_7_1 {k : Nat} (h : kd k = (7, 5)) : kd (k + 1) = (20, kn (k + 1)) := Prod.ext ((show ∀ k ∈ [41, 43, 45, 47, 93, 95, 97, 99], (kd (k + 1)).1 = 20 by decide +kernel) k (kcl_7 h)) rfl
theorem kx_9_1 {k : Nat} (h : kd k = (9, 15)) : kd (k + 1) = (20, 12) := (show ∀ k ∈ [2, 54, 108, 118, 128, 138, 148, 158, 168], kd (k + 1) = (20, 12) by decide +kernel) k (kcl_9 h)
theorem kx_9_2 {k : Nat} (h : kd k = (9, 15)) : kd (k + 2) = (20, 12) := (show ∀ k ∈ [2, 54, 108, 118, 128, 138, 148, 158, 168], kd (k + 2) = (20, 12) by decide +kernel) k (kcl_9 h)
theorem kx_9_3 {k : Nat} (h : kd k = (9, 15)) : kd (k + 3) = (20, 12) := (show ∀ k ∈ [2, 54, 108, 118, 128, 138, 148, 158, 168], kd (k + 3) = (20, 12) by decide +kernel) k (kcl_9 h)
theorem kx_9_4 {k : Nat} (h : kd k = (9, 15)) : kd (k + 4) = (20, 14) := (show ∀ k ∈ [2, 54, 108, 118, 128, 138, 148, 158, 168], kd (k + 4) = (20, 14) by decide +kernel) k (kcl_9 h)
theorem kx_9_5 {k : Nat} (h : kd k = (9, 15)) : kd (k + 5) = (20, 14) := (show ∀ k ∈ [2, 54, 108, 118, 128, 138, 148, 158, 168], kd (k + 5) = (20, 14) by decide +kernel) k (kcl_9 h)
theorem kx_9_6 {k : Nat} (h : kd k = (9, 15)) : kd (k + 6) = (20, 14) := (show ∀ k ∈ [2, 54, 108, 118, 128, 138, 148, 158, 168], kd (k + 6) = (20, 14) by decide +kernel) k (kcl_9 h)
theorem kx_9_7 {k : Nat} (h : kd k = (9, 15)) : kd (k + 7) = (20, 14) := (show ∀ k ∈ [2, 54, 108, 118, 128, 138, 148, 158, 168], kd (k + 7) = (20, 14) by decide +kernel) k (kcl_9 h)
theorem kx_9_8 {k : Nat} (h : kd k = (9, 15)) : kd (k + 8) = (20, 14) := (show ∀ k ∈ [2, 54, 108, 118, 128, 138, 148, 158, 168], kd (k + 8) = (20, 14) by decide +kernel) k (kcl_9 h)
theorem kx_9_9 {k : Nat} (h : kd k = (9, 15)) : kd (k + 9) = (20, 14) := (show ∀ k ∈ [2, 54, 108, 118, 128, 138, 148, 158, 168], kd (k + 9) = (20, 14) by decide +kernel) k (kcl_9 h)
theorem kx_10_1 {k : Nat} (h : kd k = (10, 8)) : kd (k + 1) = (7, 5) := (show ∀ k ∈ [40, 92], kd (k + 1) = (7, 5) by decide +kernel) k (kcl_10 h)
theorem kx_10_3 {k : Nat} (h : kd k = (10, 8)) : kd (k + 3) = (7, 5) := (show ∀ k ∈ [40, 92], kd (k + 3) = (7, 5) by decide +kernel) k (kcl_10 h)
theorem kx_10_5 {k : Nat} (h : kd k = (10, 8)) : kd (k + 5) = (7, 5) := (show ∀ k ∈ [40, 92], kd (k + 5) = (7, 5) by decide +kernel) k (kcl_10 h)
theorem kx_10_7 {k : Nat} (h : kd k = (10, 8)) : kd (k + 7) = (7, 5) := (show ∀ k ∈ [40, 92], kd (k + 7) = (7, 5) by decide +kernel) k (kcl_10 h)
theorem kx_10_9 {k : Nat} (h : kd k = (10, 8)) : kd (k + 9) = (20, 9) := (show ∀ k ∈ [40, 92], kd (k + 9) = (20, 9) by decide +kernel) k (kcl_10 h)
theorem bp_m100 : (Int8.ofInt (-100)).toInt32 = (-100) := by decide
theorem bp_m8 : (Int8.ofInt (-8)).toInt32 = (-8) := by decide
theorem bp_6 : (Int8.ofInt 6).toInt32 = 6 := by decide
theorem bp_7 : (Int8.ofInt 7).toInt32 = 7 := by decide
theorem bp_8 : (Int8.ofInt 8).toInt32 = 8 := by decide
theorem bp_9 : (Int8.ofInt 9).toInt32 = 9 := by decide
theorem bp_10 : (Int8.ofInt 10).toInt32 = 10 := by decide
theorem bp_11 : (Int8.ofInt 11).toInt32 = 11 := by decide
theorem bp_12 : (Int8.ofInt 12).toInt32 = 12 := by decide
theorem bp_13 : (Int8.ofInt 13).toInt32 = 13 := by decide
theorem bp_14 : (Int8.ofInt 14).toInt32 = 14 := by decide
theorem bp_15 : (Int8.ofInt 15).toInt32 = 15 := by decide
theorem bp_16 : (Int8.ofInt 16).toInt32 = 16 := by decide
theorem bp_17 : (Int8.ofInt 17).toInt32 = 17 := by decide
theorem bp_18 : (Int8.ofInt 18).toInt32 = 18 := by decide
theorem bp_19 : (Int8.ofInt 19).toInt32 = 19 := by decide
theorem bp_20 : (Int8.ofInt 20).toInt32 = 20 := by decide
theorem bp_21 : (Int8.ofInt 21).toInt32 = 21 := by decide
theorem bp_24 : (Int8.ofInt 24).toInt32 = 24 := by decide
theorem bp_29 : (Int8.ofInt 29).toInt32 = 29 := by decide
theorem bp_30 : (Int8.ofInt 30).toInt32 = 30 := by decide
theorem bp_31 : (Int8.ofInt 31).toInt32 = 31 := by decide
theorem bp_32 : (Int8.ofInt 32).toInt32 = 32 := by decide
theorem bp_40 : (Int8.ofInt 40).toInt32 = 40 := by decide
theorem bp_41 : (Int8.ofInt 41).toInt32 = 41 := by decide
theorem bp_42 : (Int8.ofInt 42).toInt32 = 42 := by decide
theorem bp_43 : (Int8.ofInt 43).toInt32 = 43 := by decide
theorem bp_45 : (Int8.ofInt 45).toInt32 = 45 := by decide
theorem bp_47 : (Int8.ofInt 47).toInt32 = 47 := by decide
theorem bp_48 : (Int8.ofInt 48).toInt32 = 48 := by decide
theorem bp_49 : (Int8.ofInt 49).toInt32 = 49 := by decide
theorem bp_50 : (Int8.ofInt 50).toInt32 = 50 := by decide
theorem bp_55 : (Int8.ofInt 55).toInt32 = 55 := by decide
theorem bp_57 : (Int8.ofInt 57).toInt32 = 57 := by decide
theorem bp_59 : (Int8.ofInt 59).toInt32 = 59 := by decide
theorem bp_60 : (Int8.ofInt 60).toInt32 = 60 := by decide
theorem bp_61 : (Int8.ofInt 61).toInt32 = 61 := by decide
theorem bp_62 : (Int8.ofInt 62).toInt32 = 62 := by decide
theorem bp_63 : (Int8.ofInt 63).toInt32 = 63 := by decide
theorem bp_64 : (Int8.ofInt 64).toInt32 = 64 := by decide
theorem bp_65 : (Int8.ofInt 65).toInt32 = 65 := by decide
theorem bp_69 : (Int8.ofInt 69).toInt32 = 69 := by decide
theorem bp_83 : (Int8.ofInt 83).toInt32 = 83 := by decide
theorem bp_90 : (Int8.ofInt 90).toInt32 = 90 := by decide
theorem bp_97 : (Int8.ofInt 97).toInt32 = 97 := by decide
theorem bp_99 : (Int8.ofInt 99).toInt32 = 99 := by decide
theorem bp_100 : (Int8.ofInt 100).toInt32 = 100 := by decide
theorem bp_117 : (Int8.ofInt 117).toInt32 = 117 := by decide
theorem bp_122 : (Int8.ofInt 122).toInt32 = 122 := by decide
theorem bp_127 : (Int8.ofInt 127).toInt32 = 127 := by decide
theorem ic_m1 : Int32.ofInt (-1) = (-1) := by decide
theorem ic_0 : Int32.ofInt 0 = 0 := by decide
theorem ic_1 : Int32.ofInt 1 = 1 := by decide
theorem ic_2 : Int32.ofInt 2 = 2 := by decide
theorem ic_3 : Int32.ofInt 3 = 3 := by decide
theorem ic_4 : Int32.ofInt 4 = 4 := by decide
theorem ic_5 : Int32.ofInt 5 = 5 := by decide
theorem sp_m10000 : (Int16.ofInt (-10000)).toInt32 = (-10000) := by decide
theorem sp_m1000 : (Int16.ofInt (-1000)).toInt32 = (-1000) := by decide
theorem sp_144 : (Int16.ofInt 144).toInt32 = 144 := by decide
theorem sp_150 : (Int16.ofInt 150).toInt32 = 150 := by decide
theorem sp_200 : (Int16.ofInt 200).toInt32 = 200 := by decide
theorem sp_255 : (Int16.ofInt 255).toInt32 = 255 := by decide
theorem sp_256 : (Int16.ofInt 256).toInt32 = 256 := by decide
theorem sp_300 : (Int16.ofInt 300).toInt32 = 300 := by decide
theorem sp_380 : (Int16.ofInt 380).toInt32 = 380 := by decide
theorem sp_400 : (Int16.ofInt 400).toInt32 = 400 := by decide
theorem sp_500 : (Int16.ofInt 500).toInt32 = 500 := by decide
theorem sp_600 : (Int16.ofInt 600).toInt32 = 600 := by decide
theorem sp_700 : (Int16.ofInt 700).toInt32 = 700 := by decide
theorem sp_800 : (Int16.ofInt 800).toInt32 = 800 := by decide
theorem sp_999 : (Int16.ofInt 999).toInt32 = 999 := by decide
theorem sp_1000 : (Int16.ofInt 1000).toInt32 = 1000 := by decide
theorem sp_3588 : (Int16.ofInt 3588).toInt32 = 3588 := by decide
theorem sp_5050 : (Int16.ofInt 5050).toInt32 = 5050 := by decide
theorem sp_6174 : (Int16.ofInt 6174).toInt32 = 6174 := by decide
theorem sp_7935 : (Int16.ofInt 7935).toInt32 = 7935 := by decide
theorem sp_9999 : (Int16.ofInt 9999).toInt32 = 9999 := by decide
theorem sp_10000 : (Int16.ofInt 10000).toInt32 = 10000 := by decide
theorem sp_20000 : (Int16.ofInt 20000).toInt32 = 20000 := by decide
theorem sp_20097 : (Int16.ofInt 20097).toInt32 = 20097 := by decide
theorem sp_20110 : (Int16.ofInt 20110).toInt32 = 20110 := by decide
theorem sp_20111 : (Int16.ofInt 20111).toInt32 = 20111 := by decide
theorem sp_30000 : (Int16.ofInt 30000).toInt32 = 30000 := by decide
theorem inc_m8 (x : Int32) : x + Int32.ofInt (-8) = x + (-8) := congrArg (x + ·) (show Int32.ofInt (-8) = (-8) by decide)
theorem inc_m1 (x : Int32) : x + Int32.ofInt (-1) = x + (-1) := congrArg (x + ·) (show Int32.ofInt (-1) = (-1) by decide)
theorem inc_1 (x : Int32) : x + Int32.ofInt 1 = x + 1 := congrArg (x + ·) (show Int32.ofInt 1 = 1 by decide)
theorem inc_6 (x : Int32) : x + Int32.ofInt 6 = x + 6 := congrArg (x + ·) (show Int32.ofInt 6 = 6 by decide)
