theorem in_tb {ws : List Cond} (ps : List Nat) (hp : ws = ps.filterMap (fun i => lw_tbl[i]?)) (h : ws.all goodWord = true) : ∀ w ∈ ws, w ∈ tb := by
  intro w hw
  have h1 := List.all_eq_true.mp h w hw
  rw [hp] at hw
  obtain ⟨i, -, hi⟩ := List.mem_filterMap.mp hw
  exact List.mem_filter.mpr ⟨List.mem_of_getElem? hi, h1⟩
theorem kx_of {c n c2 n2 o : Nat} (hc : c < 24) (h0 : ∀ k, k < NC → kd k = (c, n) → kd (k + o) = (c2, n2)) {k : Nat} (h : kd k = (c, n)) : kd (k + o) = (c2, n2) := h0 k (kd_lt h hc) h
theorem kx_on {c n c2 o : Nat} (hc : c < 24) (h0 : ∀ k, k < NC → kd k = (c, n) → (kd (k + o)).1 = c2) {k : Nat} (h : kd k = (c, n)) : kd (k + o) = (c2, kn (k + o)) := Prod.ext (h0 k (kd_lt h hc) h) rfl
/-! printed: what the tables say of classes, fields, methods, links -/
theorem iX0 : ∀ w ∈ u_ws RX0 TX0 7, w ∈ tb := in_tb [371, 373, 375, 377, 379, 381, 383] (by decide +kernel) (by decide +kernel)
theorem iX1 : ∀ w ∈ u_ws RX1 TX1 9, w ∈ tb := in_tb [274, 276, 278, 280, 282, 284, 286, 288, 290] (by decide +kernel) (by decide +kernel)
theorem iX2 : ∀ w ∈ u_ws RX2 TX2 1, w ∈ tb := in_tb [464] (by decide +kernel) (by decide +kernel)
theorem iX3 : ∀ w ∈ u_ws RX3 TX3 6, w ∈ tb := in_tb [243, 245, 247, 249, 251, 253] (by decide +kernel) (by decide +kernel)
theorem iX4 : ∀ w ∈ u_ws RX4 TX4 5, w ∈ tb := in_tb [481, 483, 485, 487, 489] (by decide +kernel) (by decide +kernel)
theorem iX5 : ∀ w ∈ u_ws RX5 TX5 2, w ∈ tb := in_tb [500, 502] (by decide +kernel) (by decide +kernel)
theorem iX6 : ∀ w ∈ u_ws RX6 TX6 4, w ∈ tb := in_tb [400, 402, 404, 406] (by decide +kernel) (by decide +kernel)
theorem iX7 : ∀ w ∈ u_ws RX7 TX7 5, w ∈ tb := in_tb [313, 315, 317, 319, 321] (by decide +kernel) (by decide +kernel)
theorem iX8 : ∀ w ∈ u_ws RX8 TX8 9, w ∈ tb := in_tb [434, 436, 438, 440, 442, 444, 446, 448, 450] (by decide +kernel) (by decide +kernel)
theorem iX9 : ∀ w ∈ u_ws RX9 TX9 15, w ∈ tb := in_tb [184, 186, 188, 190, 192, 194, 196, 198, 200, 202, 204, 206, 208, 210, 212] (by decide +kernel) (by decide +kernel)
theorem iX10 : ∀ w ∈ u_ws RX10 TX10 8, w ∈ tb := in_tb [337, 339, 341, 343, 345, 347, 349, 351] (by decide +kernel) (by decide +kernel)
theorem iX11 : ∀ w ∈ u_ws RX11 TX11 9, w ∈ tb := in_tb [514, 516, 518, 520, 522, 524, 526, 528, 530] (by decide +kernel) (by decide +kernel)
theorem iX12 : ∀ w ∈ u_ws RX12 TX12 62, w ∈ tb := in_tb [1274, 1276, 1278, 1280, 1282, 1284, 1286, 1288, 1290, 1292, 1294, 1296, 1298, 1300, 1302, 1304, 1306, 1308, 1310, 1312, 1314, 1316, 1318, 1320, 1322, 1324, 1326, 1328, 1330, 1332, 1334, 1336, 1338, 1340, 1342, 1344, 1346, 1348, 1350, 1352, 1354, 1356, 1358, 1360, 1362, 1364, 1366, 1368, 1370, 1372, 1374, 1376, 1378, 1380, 1382, 1384, 1386, 1388, 1390, 1392, 1394, 1396] (by decide +kernel) (by decide +kernel)
def uX6_forget : MI := (RX6, yX6_forget, cX6_forget, 1, none)
def uX11_state : MI := (RX11, yX11_state, cX11_state, 3, some .int)
def uX12_state : MI := (RX12, yX12_state, cX12_state, 3, some .int)
def uX11_isWithin : MI := (RX11, yX11_isWithin, cX11_isWithin, 3, some .boolean)
def uX9_addPerson : MI := (RX9, yX9_addPerson, cX9_addPerson, 2, none)
def uX11_person : MI := (RX11, yX11_person, cX11_person, 3, some .int)
def uX12_isIn : MI := (RX12, yX12_isIn, cX12_isIn, 4, some .boolean)
def uX12_person : MI := (RX12, yX12_person, cX12_person, 2, some .int)
def uX9_hasPerson : MI := (RX9, yX9_hasPerson, cX9_hasPerson, 2, some .boolean)
def uX9_areTwo : MI := (RX9, yX9_areTwo, cX9_areTwo, 3, some .boolean)
def uX9_addBargain : MI := (RX9, yX9_addBargain, cX9_addBargain, 4, none)
def uX11_bargain : MI := (RX11, yX11_bargain, cX11_bargain, 5, some .int)
def uX12_isPerson : MI := (RX12, yX12_isPerson, cX12_isPerson, 2, some .boolean)
def uX12_bargain : MI := (RX12, yX12_bargain, cX12_bargain, 4, some .int)
def uX9_hasBargain : MI := (RX9, yX9_hasBargain, cX9_hasBargain, 2, some .boolean)
def uX9_isOpen : MI := (RX9, yX9_isOpen, cX9_isOpen, 2, some .boolean)
def uX11_set : MI := (RX11, yX11_set, cX11_set, 5, some .boolean)
def uX12_isBargain : MI := (RX12, yX12_isBargain, cX12_isBargain, 2, some .boolean)
def uX12_set : MI := (RX12, yX12_set, cX12_set, 5, some .boolean)
def uX9_hasSaid : MI := (RX9, yX9_hasSaid, cX9_hasSaid, 3, some .boolean)
def uX9_canClear : MI := (RX9, yX9_canClear, cX9_canClear, 2, some .boolean)
def uX11_canAct : MI := (RX11, yX11_canAct, cX11_canAct, 4, some .boolean)
def uX9_copyFrom : MI := (RX9, yX9_copyFrom, cX9_copyFrom, 2, none)
def uX6_keep : MI := (RX6, yX6_keep, cX6_keep, 3, none)
def uX9_whoIs : MI := (RX9, yX9_whoIs, cX9_whoIs, 3, some .int)
def uX0_hearersOf : MI := (RX0, yX0_hearersOf, cX0_hearersOf, 4, some .int)
def uJ6_bitCount_0f7a4 : MI := (RJ6, yJ6_bitCount_0f7a4, cJ6_bitCount_0f7a4, 1, some .int)
def uX1_named : MI := (RX1, yX1_named, cX1_named, 2, some .int)
def uX1_joined : MI := (RX1, yX1_joined, cX1_joined, 3, some .int)
def uX1_worked : MI := (RX1, yX1_worked, cX1_worked, 6, some .int)
def uX1_lineFor : MI := (RX1, yX1_lineFor, cX1_lineFor, 3, some .int)
def uX0_withoutLaw : MI := (RX0, yX0_withoutLaw, cX0_withoutLaw, 3, some .int)
def uX1_valueOf : MI := (RX1, yX1_valueOf, cX1_valueOf, 2, some .int)
def uX0_asked : MI := (RX0, yX0_asked, cX0_asked, 11, some .int)
def uX9_drawn : MI := (RX9, yX9_drawn, cX9_drawn, 2, some .int)
def uX3_append : MI := (RX3, yX3_append, cX3_append, 5, none)
def uX0_note : MI := (RX0, yX0_note, cX0_note, 6, none)
def uX0_twist : MI := (RX0, yX0_twist, cX0_twist, 9, some .boolean)
def uX9_makeClear : MI := (RX9, yX9_makeClear, cX9_makeClear, 2, none)
def uX0_blurAway : MI := (RX0, yX0_blurAway, cX0_blurAway, 4, none)
def uX11_act : MI := (RX11, yX11_act, cX11_act, 4, some .boolean)
def uX12_has : MI := (RX12, yX12_has, cX12_has, 3, some .boolean)
def uX12_canHop : MI := (RX12, yX12_canHop, cX12_canHop, 3, some .boolean)
def uX12_canAct : MI := (RX12, yX12_canAct, cX12_canAct, 3, some .boolean)
def uX12_keepsAhead : MI := (RX12, yX12_keepsAhead, cX12_keepsAhead, 2, none)
def uX12_hopperOf : MI := (RX12, yX12_hopperOf, cX12_hopperOf, 3, some .int)
def uX12_onesOf : MI := (RX12, yX12_onesOf, cX12_onesOf, 4, some .int)
def uX12_asks : MI := (RX12, yX12_asks, cX12_asks, 4, none)
def uX12_twoOf : MI := (RX12, yX12_twoOf, cX12_twoOf, 4, some .int)
def uX12_runs : MI := (RX12, yX12_runs, cX12_runs, 6, some .int)
def uX12_lineOf : MI := (RX12, yX12_lineOf, cX12_lineOf, 3, some .int)
def uX12_held : MI := (RX12, yX12_held, cX12_held, 4, some .int)
def uX12_lawTells : MI := (RX12, yX12_lawTells, cX12_lawTells, 5, some .int)
def uX12_landsOn : MI := (RX12, yX12_landsOn, cX12_landsOn, 4, some .int)
def uX12_draw : MI := (RX12, yX12_draw, cX12_draw, 2, some .int)
def uX12_happens : MI := (RX12, yX12_happens, cX12_happens, 2, some .boolean)
def uX12_costsOn : MI := (RX12, yX12_costsOn, cX12_costsOn, 4, some .int)
def uX12_notes : MI := (RX12, yX12_notes, cX12_notes, 5, none)
def uX12_hopsOver : MI := (RX12, yX12_hopsOver, cX12_hopsOver, 5, some .boolean)
def uX12_isCleared : MI := (RX12, yX12_isCleared, cX12_isCleared, 2, none)
def uX12_isBlurred : MI := (RX12, yX12_isBlurred, cX12_isBlurred, 2, none)
def uX12_act : MI := (RX12, yX12_act, cX12_act, 3, some .boolean)
def uX0_tellEvening : MI := (RX0, yX0_tellEvening, cX0_tellEvening, 5, none)
def uX0_blurSome : MI := (RX0, yX0_blurSome, cX0_blurSome, 5, none)
def uX0_goDay : MI := (RX0, yX0_goDay, cX0_goDay, 5, some .int)
def uX11_days : MI := (RX11, yX11_days, cX11_days, 5, some .int)
def uX12_comes : MI := (RX12, yX12_comes, cX12_comes, 4, none)
def uX12_wipesOf : MI := (RX12, yX12_wipesOf, cX12_wipesOf, 2, some .int)
def uX12_greater : MI := (RX12, yX12_greater, cX12_greater, 3, some .int)
def uX12_goesBy : MI := (RX12, yX12_goesBy, cX12_goesBy, 3, some .int)
def uX12_days : MI := (RX12, yX12_days, cX12_days, 4, some .int)
def uX8_append : MI := (RX8, yX8_append, cX8_append, 3, none)
def uX11_feed : MI := (RX11, yX11_feed, cX11_feed, 6, some .int)
def uX12_types : MI := (RX12, yX12_types, cX12_types, 3, none)
def uX12_feed : MI := (RX12, yX12_feed, cX12_feed, 6, some .int)
def uX11_end : MI := (RX11, yX11_end, cX11_end, 2, some .boolean)
def uX12_end : MI := (RX12, yX12_end, cX12_end, 2, some .boolean)
def uX8_kindAt : MI := (RX8, yX8_kindAt, cX8_kindAt, 3, some .int)
def uX8_advance : MI := (RX8, yX8_advance, cX8_advance, 1, none)
def uX8_begin : MI := (RX8, yX8_begin, cX8_begin, 1, none)
def uX1_clear : MI := (RX1, yX1_clear, cX1_clear, 1, none)
def uX8_isWord : MI := (RX8, yX8_isWord, cX8_isWord, 3, some .boolean)
def uX2_wordAtHand : MI := (RX2, yX2_wordAtHand, cX2_wordAtHand, 1, some .int)
def uX8_refuse : MI := (RX8, yX8_refuse, cX8_refuse, 2, some .boolean)
def uX1_put : MI := (RX1, yX1_put, cX1_put, 2, none)
def uX2_nameAtHand : MI := (RX2, yX2_nameAtHand, cX2_nameAtHand, 1, some .int)
def uX2_readUnit : MI := (RX2, yX2_readUnit, cX2_readUnit, 4, some .boolean)
def uX8_isSign : MI := (RX8, yX8_isSign, cX8_isSign, 2, some .boolean)
def uX8_passSign : MI := (RX8, yX8_passSign, cX8_passSign, 4, some .int)
def uX2_readSum : MI := (RX2, yX2_readSum, cX2_readSum, 5, some .boolean)
def uX8_passWord : MI := (RX8, yX8_passWord, cX8_passWord, 3, some .boolean)
def uX8_takeSign : MI := (RX8, yX8_takeSign, cX8_takeSign, 2, some .boolean)
def uX2_readTest : MI := (RX2, yX2_readTest, cX2_readTest, 5, some .boolean)
def uX2_readEither : MI := (RX2, yX2_readEither, cX2_readEither, 6, some .boolean)
def uX1_appendLine : MI := (RX1, yX1_appendLine, cX1_appendLine, 4, none)
def uX2_read : MI := (RX2, yX2_read, cX2_read, 6, some .boolean)
def uX1_copyFrom : MI := (RX1, yX1_copyFrom, cX1_copyFrom, 2, none)
def uX8_takeNumber : MI := (RX8, yX8_takeNumber, cX8_takeNumber, 2, some .boolean)
def uX8_takeWord : MI := (RX8, yX8_takeWord, cX8_takeWord, 2, some .boolean)
def uX9_isOneOf : MI := (RX9, yX9_isOneOf, cX9_isOneOf, 3, some .boolean)
def uX4_readHearing : MI := (RX4, yX4_readHearing, cX4_readHearing, 3, some .boolean)
def uX4_readTwist : MI := (RX4, yX4_readTwist, cX4_readTwist, 3, some .boolean)
def uX4_kindAtHand : MI := (RX4, yX4_kindAtHand, cX4_kindAtHand, 1, some .int)
def uX4_readEvening : MI := (RX4, yX4_readEvening, cX4_readEvening, 3, some .boolean)
def uX4_readLine : MI := (RX4, yX4_readLine, cX4_readLine, 4, some .boolean)
def uX4_read : MI := (RX4, yX4_read, cX4_read, 5, some .boolean)
def uX0_linesOf : MI := (RX0, yX0_linesOf, cX0_linesOf, 2, some (.object "TwisterCourt$Lines"))
def uX3_copyFrom : MI := (RX3, yX3_copyFrom, cX3_copyFrom, 2, none)
def uX11_text : MI := (RX11, yX11_text, cX11_text, 4, some .int)
def uX12_raw : MI := (RX12, yX12_raw, cX12_raw, 2, some .int)
def uX12_isLetter : MI := (RX12, yX12_isLetter, cX12_isLetter, 2, some .boolean)
def uX12_wordAt : MI := (RX12, yX12_wordAt, cX12_wordAt, 6, some .int)
def uX12_isDigit : MI := (RX12, yX12_isDigit, cX12_isDigit, 2, some .boolean)
def uX12_isMarkSign : MI := (RX12, yX12_isMarkSign, cX12_isMarkSign, 2, some .boolean)
def uX12_reads : MI := (RX12, yX12_reads, cX12_reads, 2, none)
def uX12_isWord : MI := (RX12, yX12_isWord, cX12_isWord, 2, some .boolean)
def uX12_errs : MI := (RX12, yX12_errs, cX12_errs, 2, some .int)
def uX12_readNumber : MI := (RX12, yX12_readNumber, cX12_readNumber, 4, some .int)
def uX12_readTold : MI := (RX12, yX12_readTold, cX12_readTold, 4, some .int)
def uX12_isSign : MI := (RX12, yX12_isSign, cX12_isSign, 2, some .boolean)
def uX12_readMark : MI := (RX12, yX12_readMark, cX12_readMark, 2, some .int)
def uX12_readHop : MI := (RX12, yX12_readHop, cX12_readHop, 2, some .int)
def uX12_readHops : MI := (RX12, yX12_readHops, cX12_readHops, 2, some .int)
def uX12_kindOfStreet : MI := (RX12, yX12_kindOfStreet, cX12_kindOfStreet, 1, some .int)
def uX12_readStreetLine : MI := (RX12, yX12_readStreetLine, cX12_readStreetLine, 3, some .int)
def uX12_readStreet : MI := (RX12, yX12_readStreet, cX12_readStreet, 2, some .int)
def uX12_readLean : MI := (RX12, yX12_readLean, cX12_readLean, 3, some .int)
def uX12_readLeans : MI := (RX12, yX12_readLeans, cX12_readLeans, 2, some .int)
def uX12_isLineWord : MI := (RX12, yX12_isLineWord, cX12_isLineWord, 1, some .boolean)
def uX12_canAsk : MI := (RX12, yX12_canAsk, cX12_canAsk, 2, some .boolean)
def uX12_emits : MI := (RX12, yX12_emits, cX12_emits, 3, none)
def uX12_readUnit : MI := (RX12, yX12_readUnit, cX12_readUnit, 2, some .int)
def uX12_readProduct : MI := (RX12, yX12_readProduct, cX12_readProduct, 2, some .int)
def uX12_readSum : MI := (RX12, yX12_readSum, cX12_readSum, 2, some .int)
def uX12_waits : MI := (RX12, yX12_waits, cX12_waits, 2, none)
def uX12_readCompared : MI := (RX12, yX12_readCompared, cX12_readCompared, 2, some .int)
def uX12_settles : MI := (RX12, yX12_settles, cX12_settles, 2, none)
def uX12_readAny : MI := (RX12, yX12_readAny, cX12_readAny, 4, some .int)
def uX12_readLaw : MI := (RX12, yX12_readLaw, cX12_readLaw, 3, some .int)
def uX12_readsText : MI := (RX12, yX12_readsText, cX12_readsText, 2, some .int)
def uX12_takesLaw : MI := (RX12, yX12_takesLaw, cX12_takesLaw, 3, none)
def uX12_takesOther : MI := (RX12, yX12_takesOther, cX12_takesOther, 4, none)
def uX12_text : MI := (RX12, yX12_text, cX12_text, 3, some .int)
def uX11_fault : MI := (RX11, yX11_fault, cX11_fault, 2, some .int)
def uX12_fault : MI := (RX12, yX12_fault, cX12_fault, 2, some .int)
def uX9_bargainsOf : MI := (RX9, yX9_bargainsOf, cX9_bargainsOf, 4, some .int)
def uX0_heardBy : MI := (RX0, yX0_heardBy, cX0_heardBy, 4, some .int)
def uX11_of : MI := (RX11, yX11_of, cX11_of, 4, some .int)
def uX12_bargainsOf : MI := (RX12, yX12_bargainsOf, cX12_bargainsOf, 4, some .int)
def uX12_of : MI := (RX12, yX12_of, cX12_of, 5, some .int)
def uX11_phraseTold : MI := (RX11, yX11_phraseTold, cX11_phraseTold, 6, some .int)
def uX11_deal : MI := (RX11, yX11_deal, cX11_deal, 4, some .int)
def uX12_deal : MI := (RX12, yX12_deal, cX12_deal, 5, some .int)
def uX11_book : MI := (RX11, yX11_book, cX11_book, 4, some .int)
def uX12_book : MI := (RX12, yX12_book, cX12_book, 3, some .int)
def uX9_thoseThatAre : MI := (RX9, yX9_thoseThatAre, cX9_thoseThatAre, 4, some .int)
def uX9_owesOfAll : MI := (RX9, yX9_owesOfAll, cX9_owesOfAll, 3, some .int)
def uX9_clearOfAll : MI := (RX9, yX9_clearOfAll, cX9_clearOfAll, 3, some .int)
def uX11_goes : MI := (RX11, yX11_goes, cX11_goes, 4, some .int)
def uX12_thinks : MI := (RX12, yX12_thinks, cX12_thinks, 2, none)
def uX12_setThatIs : MI := (RX12, yX12_setThatIs, cX12_setThatIs, 4, some .int)
def uX12_sumOf : MI := (RX12, yX12_sumOf, cX12_sumOf, 5, some .int)
def uX12_endsThought : MI := (RX12, yX12_endsThought, cX12_endsThought, 2, none)
def uX12_goes : MI := (RX12, yX12_goes, cX12_goes, 4, some .int)
def uX11_holds : MI := (RX11, yX11_holds, cX11_holds, 3, some .int)
def uX12_holds : MI := (RX12, yX12_holds, cX12_holds, 3, some .int)
def uX11_deals : MI := (RX11, yX11_deals, cX11_deals, 4, some .int)
def uX12_deals : MI := (RX12, yX12_deals, cX12_deals, 3, some .int)
def uX7_has : MI := (RX7, yX7_has, cX7_has, 3, some .boolean)
def uX7_tell : MI := (RX7, yX7_tell, cX7_tell, 2, some .int)
def uX11_jump : MI := (RX11, yX11_jump, cX11_jump, 2, some .int)
def uX12_jump : MI := (RX12, yX12_jump, cX12_jump, 2, some .int)
def uX10_fewestJumps : MI := (RX10, yX10_fewestJumps, cX10_fewestJumps, 3, some .int)
def uX10_furthestPlace : MI := (RX10, yX10_furthestPlace, cX10_furthestPlace, 3, some .int)
def uX11_jumps : MI := (RX11, yX11_jumps, cX11_jumps, 2, some .int)
def uX12_lesser : MI := (RX12, yX12_lesser, cX12_lesser, 3, some .int)
def uX12_jumps : MI := (RX12, yX12_jumps, cX12_jumps, 5, some .int)
def uX5_walksFrom : MI := (RX5, yX5_walksFrom, cX5_walksFrom, 5, some .int)
def uX5_walksTo : MI := (RX5, yX5_walksTo, cX5_walksTo, 3, some .int)
def uX11_walks : MI := (RX11, yX11_walks, cX11_walks, 4, some .int)
def uX12_walkEnds : MI := (RX12, yX12_walkEnds, cX12_walkEnds, 8, some .int)
def uX12_walks : MI := (RX12, yX12_walks, cX12_walks, 8, some .int)
def uX5_leastApart : MI := (RX5, yX5_leastApart, cX5_leastApart, 5, some .int)
def uX11_apart : MI := (RX11, yX11_apart, cX11_apart, 3, some .int)
def uX12_apart : MI := (RX12, yX12_apart, cX12_apart, 5, some .int)
def uX5_cornersUpTo : MI := (RX5, yX5_cornersUpTo, cX5_cornersUpTo, 6, some .int)
def uX5_cornersAround : MI := (RX5, yX5_cornersAround, cX5_cornersAround, 5, some .int)
def uX11_corners : MI := (RX11, yX11_corners, cX11_corners, 3, some .int)
def uX12_corners : MI := (RX12, yX12_corners, cX12_corners, 7, some .int)
def uX5_sumOfParts : MI := (RX5, yX5_sumOfParts, cX5_sumOfParts, 3, some .int)
def uX5_chainOfParts : MI := (RX5, yX5_chainOfParts, cX5_chainOfParts, 5, some .int)
def uX11_parts : MI := (RX11, yX11_parts, cX11_parts, 3, some .int)
def uX12_partsTogether : MI := (RX12, yX12_partsTogether, cX12_partsTogether, 4, some .int)
def uX12_parts : MI := (RX12, yX12_parts, cX12_parts, 5, some .int)
def uX5_ofDigits : MI := (RX5, yX5_ofDigits, cX5_ofDigits, 4, some .int)
def uX5_lasting : MI := (RX5, yX5_lasting, cX5_lasting, 5, some .int)
def uX11_lasts : MI := (RX11, yX11_lasts, cX11_lasts, 3, some .int)
def uX12_digitsOf : MI := (RX12, yX12_digitsOf, cX12_digitsOf, 5, some .int)
def uX12_lasts : MI := (RX12, yX12_lasts, cX12_lasts, 5, some .int)
def uX11_turn : MI := (RX11, yX11_turn, cX11_turn, 2, some .int)
def uX12_turn : MI := (RX12, yX12_turn, cX12_turn, 2, some .int)
def uX10_stand : MI := (RX10, yX10_stand, cX10_stand, 6, some .int)
def uX10_turned : MI := (RX10, yX10_turned, cX10_turned, 12, some .int)
def uX11_turning : MI := (RX11, yX11_turning, cX11_turning, 2, some .int)
def uX12_turning : MI := (RX12, yX12_turning, cX12_turning, 9, some .int)
def uJ13_bitCount_95d88 : MI := (RJ13, yJ13_bitCount_95d88, cJ13_bitCount_95d88, 2, some .int)
def uX5_antWalk : MI := (RX5, yX5_antWalk, cX5_antWalk, 12, some .int)
def uX11_ant : MI := (RX11, yX11_ant, cX11_ant, 3, some .int)
def uX12_ant : MI := (RX12, yX12_ant, cX12_ant, 9, some .int)
def uX5_nextRow : MI := (RX5, yX5_nextRow, cX5_nextRow, 7, some .int)
def uX11_row : MI := (RX11, yX11_row, cX11_row, 6, some .int)
def uX12_row : MI := (RX12, yX12_row, cX12_row, 9, some .int)
def uX5_ownDifference : MI := (RX5, yX5_ownDifference, cX5_ownDifference, 7, some .int)
def uX5_ownDifferences : MI := (RX5, yX5_ownDifferences, cX5_ownDifferences, 5, some .int)
def uX11_own : MI := (RX11, yX11_own, cX11_own, 3, some .int)
def uX12_ownOf : MI := (RX12, yX12_ownOf, cX12_ownOf, 7, some .int)
def uX12_own : MI := (RX12, yX12_own, cX12_own, 6, some .int)
def uX5_shifted : MI := (RX5, yX5_shifted, cX5_shifted, 7, some .int)
def uX5_timesRound : MI := (RX5, yX5_timesRound, cX5_timesRound, 5, some .int)
def uX11_round : MI := (RX11, yX11_round, cX11_round, 6, some .int)
def uX12_roundOf : MI := (RX12, yX12_roundOf, cX12_roundOf, 4, some .int)
def uX12_round : MI := (RX12, yX12_round, cX12_round, 7, some .int)
def uX11_nine : MI := (RX11, yX11_nine, cX11_nine, 3, some .boolean)
def uX12_nine : MI := (RX12, yX12_nine, cX12_nine, 3, some .boolean)
def uX10_sumOf : MI := (RX10, yX10_sumOf, cX10_sumOf, 3, some .int)
def uX10_linesOfSum : MI := (RX10, yX10_linesOfSum, cX10_linesOfSum, 4, some .int)
def uX10_waysToEven : MI := (RX10, yX10_waysToEven, cX10_waysToEven, 5, some .int)
def uX11_even : MI := (RX11, yX11_even, cX11_even, 2, some .int)
def uX12_lineSum : MI := (RX12, yX12_lineSum, cX12_lineSum, 4, some .int)
def uX12_linesThatCome : MI := (RX12, yX12_linesThatCome, cX12_linesThatCome, 4, some .int)
def uX12_even : MI := (RX12, yX12_even, cX12_even, 6, some .int)
def uX11_rule : MI := (RX11, yX11_rule, cX11_rule, 3, some .int)
def uX12_rule : MI := (RX12, yX12_rule, cX12_rule, 4, some .int)
def uX10_leastStep : MI := (RX10, yX10_leastStep, cX10_leastStep, 6, some .int)
def uX10_workWins : MI := (RX10, yX10_workWins, cX10_workWins, 3, none)
def uX10_winningStep : MI := (RX10, yX10_winningStep, cX10_winningStep, 2, some .int)
def uX10_winningSquares : MI := (RX10, yX10_winningSquares, cX10_winningSquares, 4, some .int)
def uX11_game : MI := (RX11, yX11_game, cX11_game, 3, some .int)
def uX12_isBarred : MI := (RX12, yX12_isBarred, cX12_isBarred, 3, some .boolean)
def uX12_goodStep : MI := (RX12, yX12_goodStep, cX12_goodStep, 5, some .int)
def uX12_game : MI := (RX12, yX12_game, cX12_game, 5, some .int)
def uX6_goBack : MI := (RX6, yX6_goBack, cX6_goBack, 2, some .boolean)
def uX11_undo : MI := (RX11, yX11_undo, cX11_undo, 1, some .boolean)
def uX12_undo : MI := (RX12, yX12_undo, cX12_undo, 2, some .boolean)
def uX7_copyFrom : MI := (RX7, yX7_copyFrom, cX7_copyFrom, 2, none)
def uX10_copyFrom : MI := (RX10, yX10_copyFrom, cX10_copyFrom, 2, none)
def uX0_copyFrom : MI := (RX0, yX0_copyFrom, cX0_copyFrom, 2, none)
def uX11_image : MI := (RX11, yX11_image, cX11_image, 2, some .boolean)
def uX12_keeps : MI := (RX12, yX12_keeps, cX12_keeps, 2, some .int)
def uX12_keepsTold : MI := (RX12, yX12_keepsTold, cX12_keepsTold, 2, none)
def uX12_keepsLaw : MI := (RX12, yX12_keepsLaw, cX12_keepsLaw, 2, none)
def uX12_image : MI := (RX12, yX12_image, cX12_image, 3, some .boolean)
def uX11_look : MI := (RX11, yX11_look, cX11_look, 3, some .int)
def uX12_look : MI := (RX12, yX12_look, cX12_look, 2, some .int)
def uL_law : MI := (RL, yL_law, cL_law, 4, some .boolean)
def uJ0_length_8abf5 : MI := (RJ0, yJ0_length_8abf5, cJ0_length_8abf5, 1, some .int)
def uJ0_charAt_5068e : MI := (RJ0, yJ0_charAt_5068e, cJ0_charAt_5068e, 2, some .char)
def uJ0_coder_7d493 : MI := (RJ0, yJ0_coder_7d493, cJ0_coder_7d493, 1, some .byte)
def uJ0_isLatin1_aae02 : MI := (RJ0, yJ0_isLatin1_aae02, cJ0_isLatin1_aae02, 1, some .boolean)
def uJ0_checkIndex_df160 : MI := (RJ0, yJ0_checkIndex_df160, cJ0_checkIndex_df160, 2, none)
def uJ1_charAt_3b067 : MI := (RJ1, yJ1_charAt_3b067, cJ1_charAt_3b067, 2, some .char)
def uJ3_checkIndex_8e157 : MI := (RJ3, yJ3_checkIndex_8e157, cJ3_checkIndex_8e157, 3, some .int)
theorem mX6_forget : MOK uX6_forget := ⟨by decide +kernel, rfl, tbm 540 (by decide +kernel) rfl, tbm 109 (by decide +kernel) rfl, ⟨by decide +kernel, by decide +kernel⟩, Nat.le_of_ble_eq_true rfl⟩
theorem bX6_forget : CVB uX6_forget 0 6 4 := ⟨mX6_forget, tbm 538 (by decide +kernel) rfl, tbm 539 (by decide +kernel) rfl, by decide +kernel, by decide, TX6, rfl⟩
theorem mX11_state : MOK uX11_state := ⟨by decide +kernel, rfl, tbm 536 (by decide +kernel) rfl, tbm 101 (by decide +kernel) rfl, ⟨by decide +kernel, by decide +kernel⟩, Nat.le_of_ble_eq_true rfl⟩
theorem bX11_state : CVB uX11_state 1 11 9 := ⟨mX11_state, tbm 534 (by decide +kernel) rfl, tbm 535 (by decide +kernel) rfl, by decide +kernel, by decide, TX11, rfl⟩
theorem mX12_state : MOK uX12_state := ⟨by decide +kernel, rfl, tbm 1406 (by decide +kernel) rfl, tbm 114 (by decide +kernel) rfl, ⟨by decide +kernel, by decide +kernel⟩, Nat.le_of_ble_eq_true rfl⟩
theorem bX12_state : CVB uX12_state 1 12 62 := ⟨mX12_state, tbm 1404 (by decide +kernel) rfl, tbm 1405 (by decide +kernel) rfl, by decide +kernel, by decide, TX12, rfl⟩
theorem mX11_isWithin : MOK uX11_isWithin := ⟨by decide +kernel, rfl, tbm 547 (by decide +kernel) rfl, tbm 101 (by decide +kernel) rfl, ⟨by decide +kernel, by decide +kernel⟩, Nat.le_of_ble_eq_true rfl⟩
theorem bX11_isWithin : CSB uX11_isWithin 3 := ⟨mX11_isWithin, tbm 546 (by decide +kernel) rfl, by decide +kernel⟩
theorem mX9_addPerson : MOK uX9_addPerson := ⟨by decide +kernel, rfl, tbm 551 (by decide +kernel) rfl, tbm 103 (by decide +kernel) rfl, ⟨by decide +kernel, by decide +kernel⟩, Nat.le_of_ble_eq_true rfl⟩
theorem bX9_addPerson : CVB uX9_addPerson 1 9 15 := ⟨mX9_addPerson, tbm 549 (by decide +kernel) rfl, tbm 550 (by decide +kernel) rfl, by decide +kernel, by decide, TX9, rfl⟩
theorem mX11_person : MOK uX11_person := ⟨by decide +kernel, rfl, tbm 544 (by decide +kernel) rfl, tbm 101 (by decide +kernel) rfl, ⟨by decide +kernel, by decide +kernel⟩, Nat.le_of_ble_eq_true rfl⟩
theorem bX11_person : CVB uX11_person 1 11 9 := ⟨mX11_person, tbm 542 (by decide +kernel) rfl, tbm 543 (by decide +kernel) rfl, by decide +kernel, by decide, TX11, rfl⟩
theorem mX12_isIn : MOK uX12_isIn := ⟨by decide +kernel, rfl, tbm 1414 (by decide +kernel) rfl, tbm 114 (by decide +kernel) rfl, ⟨by decide +kernel, by decide +kernel⟩, Nat.le_of_ble_eq_true rfl⟩
theorem bX12_isIn : CVB uX12_isIn 3 12 62 := ⟨mX12_isIn, tbm 1413 (by decide +kernel) rfl, tbm 21 (by decide +kernel) rfl, by decide +kernel, by decide, TX12, rfl⟩
theorem mX12_person : MOK uX12_person := ⟨by decide +kernel, rfl, tbm 1410 (by decide +kernel) rfl, tbm 114 (by decide +kernel) rfl, ⟨by decide +kernel, by decide +kernel⟩, Nat.le_of_ble_eq_true rfl⟩
theorem bX12_person : CVB uX12_person 1 12 62 := ⟨mX12_person, tbm 1408 (by decide +kernel) rfl, tbm 1409 (by decide +kernel) rfl, by decide +kernel, by decide, TX12, rfl⟩
theorem mX9_hasPerson : MOK uX9_hasPerson := ⟨by decide +kernel, rfl, tbm 563 (by decide +kernel) rfl, tbm 103 (by decide +kernel) rfl, ⟨by decide +kernel, by decide +kernel⟩, Nat.le_of_ble_eq_true rfl⟩
theorem bX9_hasPerson : CVB uX9_hasPerson 1 9 15 := ⟨mX9_hasPerson, tbm 561 (by decide +kernel) rfl, tbm 562 (by decide +kernel) rfl, by decide +kernel, by decide, TX9, rfl⟩
theorem mX9_areTwo : MOK uX9_areTwo := ⟨by decide +kernel, rfl, tbm 559 (by decide +kernel) rfl, tbm 103 (by decide +kernel) rfl, ⟨by decide +kernel, by decide +kernel⟩, Nat.le_of_ble_eq_true rfl⟩
theorem bX9_areTwo : CVB uX9_areTwo 2 9 15 := ⟨mX9_areTwo, tbm 557 (by decide +kernel) rfl, tbm 558 (by decide +kernel) rfl, by decide +kernel, by decide, TX9, rfl⟩
theorem mX9_addBargain : MOK uX9_addBargain := ⟨by decide +kernel, rfl, tbm 567 (by decide +kernel) rfl, tbm 103 (by decide +kernel) rfl, ⟨by decide +kernel, by decide +kernel⟩, Nat.le_of_ble_eq_true rfl⟩
theorem bX9_addBargain : CVB uX9_addBargain 3 9 15 := ⟨mX9_addBargain, tbm 565 (by decide +kernel) rfl, tbm 566 (by decide +kernel) rfl, by decide +kernel, by decide, TX9, rfl⟩
theorem mX11_bargain : MOK uX11_bargain := ⟨by decide +kernel, rfl, tbm 555 (by decide +kernel) rfl, tbm 101 (by decide +kernel) rfl, ⟨by decide +kernel, by decide +kernel⟩, Nat.le_of_ble_eq_true rfl⟩
theorem bX11_bargain : CVB uX11_bargain 3 11 9 := ⟨mX11_bargain, tbm 553 (by decide +kernel) rfl, tbm 554 (by decide +kernel) rfl, by decide +kernel, by decide, TX11, rfl⟩
theorem mX12_isPerson : MOK uX12_isPerson := ⟨by decide +kernel, rfl, tbm 1422 (by decide +kernel) rfl, tbm 114 (by decide +kernel) rfl, ⟨by decide +kernel, by decide +kernel⟩, Nat.le_of_ble_eq_true rfl⟩
theorem bX12_isPerson : CVB uX12_isPerson 1 12 62 := ⟨mX12_isPerson, tbm 1421 (by decide +kernel) rfl, tbm 22 (by decide +kernel) rfl, by decide +kernel, by decide, TX12, rfl⟩
theorem mX12_bargain : MOK uX12_bargain := ⟨by decide +kernel, rfl, tbm 1418 (by decide +kernel) rfl, tbm 114 (by decide +kernel) rfl, ⟨by decide +kernel, by decide +kernel⟩, Nat.le_of_ble_eq_true rfl⟩
theorem bX12_bargain : CVB uX12_bargain 3 12 62 := ⟨mX12_bargain, tbm 1416 (by decide +kernel) rfl, tbm 1417 (by decide +kernel) rfl, by decide +kernel, by decide, TX12, rfl⟩
theorem mX9_hasBargain : MOK uX9_hasBargain := ⟨by decide +kernel, rfl, tbm 580 (by decide +kernel) rfl, tbm 103 (by decide +kernel) rfl, ⟨by decide +kernel, by decide +kernel⟩, Nat.le_of_ble_eq_true rfl⟩
theorem bX9_hasBargain : CVB uX9_hasBargain 1 9 15 := ⟨mX9_hasBargain, tbm 578 (by decide +kernel) rfl, tbm 579 (by decide +kernel) rfl, by decide +kernel, by decide, TX9, rfl⟩
theorem mX9_isOpen : MOK uX9_isOpen := ⟨by decide +kernel, rfl, tbm 576 (by decide +kernel) rfl, tbm 103 (by decide +kernel) rfl, ⟨by decide +kernel, by decide +kernel⟩, Nat.le_of_ble_eq_true rfl⟩
theorem bX9_isOpen : CVB uX9_isOpen 1 9 15 := ⟨mX9_isOpen, tbm 574 (by decide +kernel) rfl, tbm 575 (by decide +kernel) rfl, by decide +kernel, by decide, TX9, rfl⟩
theorem mX11_set : MOK uX11_set := ⟨by decide +kernel, rfl, tbm 571 (by decide +kernel) rfl, tbm 101 (by decide +kernel) rfl, ⟨by decide +kernel, by decide +kernel⟩, Nat.le_of_ble_eq_true rfl⟩
theorem bX11_set : CVB uX11_set 3 11 9 := ⟨mX11_set, tbm 569 (by decide +kernel) rfl, tbm 570 (by decide +kernel) rfl, by decide +kernel, by decide, TX11, rfl⟩
theorem mX12_isBargain : MOK uX12_isBargain := ⟨by decide +kernel, rfl, tbm 1430 (by decide +kernel) rfl, tbm 114 (by decide +kernel) rfl, ⟨by decide +kernel, by decide +kernel⟩, Nat.le_of_ble_eq_true rfl⟩
theorem bX12_isBargain : CVB uX12_isBargain 1 12 62 := ⟨mX12_isBargain, tbm 1429 (by decide +kernel) rfl, tbm 23 (by decide +kernel) rfl, by decide +kernel, by decide, TX12, rfl⟩
theorem mX12_set : MOK uX12_set := ⟨by decide +kernel, rfl, tbm 1426 (by decide +kernel) rfl, tbm 114 (by decide +kernel) rfl, ⟨by decide +kernel, by decide +kernel⟩, Nat.le_of_ble_eq_true rfl⟩
theorem bX12_set : CVB uX12_set 3 12 62 := ⟨mX12_set, tbm 1424 (by decide +kernel) rfl, tbm 1425 (by decide +kernel) rfl, by decide +kernel, by decide, TX12, rfl⟩
theorem mX9_hasSaid : MOK uX9_hasSaid := ⟨by decide +kernel, rfl, tbm 592 (by decide +kernel) rfl, tbm 103 (by decide +kernel) rfl, ⟨by decide +kernel, by decide +kernel⟩, Nat.le_of_ble_eq_true rfl⟩
theorem bX9_hasSaid : CVB uX9_hasSaid 2 9 15 := ⟨mX9_hasSaid, tbm 590 (by decide +kernel) rfl, tbm 591 (by decide +kernel) rfl, by decide +kernel, by decide, TX9, rfl⟩
theorem mX9_canClear : MOK uX9_canClear := ⟨by decide +kernel, rfl, tbm 596 (by decide +kernel) rfl, tbm 103 (by decide +kernel) rfl, ⟨by decide +kernel, by decide +kernel⟩, Nat.le_of_ble_eq_true rfl⟩
theorem bX9_canClear : CVB uX9_canClear 1 9 15 := ⟨mX9_canClear, tbm 594 (by decide +kernel) rfl, tbm 595 (by decide +kernel) rfl, by decide +kernel, by decide, TX9, rfl⟩
theorem mX11_canAct : MOK uX11_canAct := ⟨by decide +kernel, rfl, tbm 588 (by decide +kernel) rfl, tbm 101 (by decide +kernel) rfl, ⟨by decide +kernel, by decide +kernel⟩, Nat.le_of_ble_eq_true rfl⟩
theorem bX11_canAct : CVB uX11_canAct 2 11 9 := ⟨mX11_canAct, tbm 587 (by decide +kernel) rfl, tbm 0 (by decide +kernel) rfl, by decide +kernel, by decide, TX11, rfl⟩
theorem mX9_copyFrom : MOK uX9_copyFrom := ⟨by decide +kernel, rfl, tbm 604 (by decide +kernel) rfl, tbm 103 (by decide +kernel) rfl, ⟨by decide +kernel, by decide +kernel⟩, Nat.le_of_ble_eq_true rfl⟩
theorem bX9_copyFrom : CVB uX9_copyFrom 1 9 15 := ⟨mX9_copyFrom, tbm 602 (by decide +kernel) rfl, tbm 603 (by decide +kernel) rfl, by decide +kernel, by decide, TX9, rfl⟩
theorem mX6_keep : MOK uX6_keep := ⟨by decide +kernel, rfl, tbm 600 (by decide +kernel) rfl, tbm 109 (by decide +kernel) rfl, ⟨by decide +kernel, by decide +kernel⟩, Nat.le_of_ble_eq_true rfl⟩
theorem bX6_keep : CVB uX6_keep 2 6 4 := ⟨mX6_keep, tbm 598 (by decide +kernel) rfl, tbm 599 (by decide +kernel) rfl, by decide +kernel, by decide, TX6, rfl⟩
theorem mX9_whoIs : MOK uX9_whoIs := ⟨by decide +kernel, rfl, tbm 618 (by decide +kernel) rfl, tbm 103 (by decide +kernel) rfl, ⟨by decide +kernel, by decide +kernel⟩, Nat.le_of_ble_eq_true rfl⟩
theorem bX9_whoIs : CVB uX9_whoIs 2 9 15 := ⟨mX9_whoIs, tbm 616 (by decide +kernel) rfl, tbm 617 (by decide +kernel) rfl, by decide +kernel, by decide, TX9, rfl⟩
theorem mX0_hearersOf : MOK uX0_hearersOf := ⟨by decide +kernel, rfl, tbm 631 (by decide +kernel) rfl, tbm 102 (by decide +kernel) rfl, ⟨by decide +kernel, by decide +kernel⟩, Nat.le_of_ble_eq_true rfl⟩
theorem bX0_hearersOf : CVB uX0_hearersOf 1 0 7 := ⟨mX0_hearersOf, tbm 629 (by decide +kernel) rfl, tbm 630 (by decide +kernel) rfl, by decide +kernel, by decide, TX0, rfl⟩
theorem mJ6_bitCount_0f7a4 : MOK uJ6_bitCount_0f7a4 := ⟨by decide +kernel, rfl, tbm 634 (by decide +kernel) rfl, tbm 116 (by decide +kernel) rfl, ⟨by decide +kernel, by decide +kernel⟩, Nat.le_of_ble_eq_true rfl⟩
theorem bJ6_bitCount_0f7a4 : CSB uJ6_bitCount_0f7a4 1 := ⟨mJ6_bitCount_0f7a4, tbm 633 (by decide +kernel) rfl, by decide +kernel⟩
theorem mX1_named : MOK uX1_named := ⟨by decide +kernel, rfl, tbm 649 (by decide +kernel) rfl, tbm 106 (by decide +kernel) rfl, ⟨by decide +kernel, by decide +kernel⟩, Nat.le_of_ble_eq_true rfl⟩
theorem bX1_named : CVB uX1_named 1 1 9 := ⟨mX1_named, tbm 648 (by decide +kernel) rfl, tbm 2 (by decide +kernel) rfl, by decide +kernel, by decide, TX1, rfl⟩
theorem mX1_joined : MOK uX1_joined := ⟨by decide +kernel, rfl, tbm 652 (by decide +kernel) rfl, tbm 106 (by decide +kernel) rfl, ⟨by decide +kernel, by decide +kernel⟩, Nat.le_of_ble_eq_true rfl⟩
theorem bX1_joined : CSB uX1_joined 3 := ⟨mX1_joined, tbm 651 (by decide +kernel) rfl, by decide +kernel⟩
theorem mX1_worked : MOK uX1_worked := ⟨by decide +kernel, rfl, tbm 645 (by decide +kernel) rfl, tbm 106 (by decide +kernel) rfl, ⟨by decide +kernel, by decide +kernel⟩, Nat.le_of_ble_eq_true rfl⟩
theorem bX1_worked : CVB uX1_worked 2 1 9 := ⟨mX1_worked, tbm 644 (by decide +kernel) rfl, tbm 1 (by decide +kernel) rfl, by decide +kernel, by decide, TX1, rfl⟩
theorem mX1_lineFor : MOK uX1_lineFor := ⟨by decide +kernel, rfl, tbm 641 (by decide +kernel) rfl, tbm 106 (by decide +kernel) rfl, ⟨by decide +kernel, by decide +kernel⟩, Nat.le_of_ble_eq_true rfl⟩
theorem bX1_lineFor : CVB uX1_lineFor 1 1 9 := ⟨mX1_lineFor, tbm 639 (by decide +kernel) rfl, tbm 640 (by decide +kernel) rfl, by decide +kernel, by decide, TX1, rfl⟩
theorem mX0_withoutLaw : MOK uX0_withoutLaw := ⟨by decide +kernel, rfl, tbm 656 (by decide +kernel) rfl, tbm 102 (by decide +kernel) rfl, ⟨by decide +kernel, by decide +kernel⟩, Nat.le_of_ble_eq_true rfl⟩
theorem bX0_withoutLaw : CVB uX0_withoutLaw 1 0 7 := ⟨mX0_withoutLaw, tbm 655 (by decide +kernel) rfl, tbm 3 (by decide +kernel) rfl, by decide +kernel, by decide, TX0, rfl⟩
theorem mX1_valueOf : MOK uX1_valueOf := ⟨by decide +kernel, rfl, tbm 660 (by decide +kernel) rfl, tbm 106 (by decide +kernel) rfl, ⟨by decide +kernel, by decide +kernel⟩, Nat.le_of_ble_eq_true rfl⟩
theorem bX1_valueOf : CVB uX1_valueOf 1 1 9 := ⟨mX1_valueOf, tbm 658 (by decide +kernel) rfl, tbm 659 (by decide +kernel) rfl, by decide +kernel, by decide, TX1, rfl⟩
theorem mX0_asked : MOK uX0_asked := ⟨by decide +kernel, rfl, tbm 626 (by decide +kernel) rfl, tbm 102 (by decide +kernel) rfl, ⟨by decide +kernel, by decide +kernel⟩, Nat.le_of_ble_eq_true rfl⟩
theorem bX0_asked : CVB uX0_asked 5 0 7 := ⟨mX0_asked, tbm 624 (by decide +kernel) rfl, tbm 625 (by decide +kernel) rfl, by decide +kernel, by decide, TX0, rfl⟩
theorem mX9_drawn : MOK uX9_drawn := ⟨by decide +kernel, rfl, tbm 666 (by decide +kernel) rfl, tbm 103 (by decide +kernel) rfl, ⟨by decide +kernel, by decide +kernel⟩, Nat.le_of_ble_eq_true rfl⟩
theorem bX9_drawn : CVB uX9_drawn 1 9 15 := ⟨mX9_drawn, tbm 664 (by decide +kernel) rfl, tbm 665 (by decide +kernel) rfl, by decide +kernel, by decide, TX9, rfl⟩
theorem mX3_append : MOK uX3_append := ⟨by decide +kernel, rfl, tbm 676 (by decide +kernel) rfl, tbm 104 (by decide +kernel) rfl, ⟨by decide +kernel, by decide +kernel⟩, Nat.le_of_ble_eq_true rfl⟩
theorem bX3_append : CVB uX3_append 4 3 6 := ⟨mX3_append, tbm 674 (by decide +kernel) rfl, tbm 675 (by decide +kernel) rfl, by decide +kernel, by decide, TX3, rfl⟩
theorem mX0_note : MOK uX0_note := ⟨by decide +kernel, rfl, tbm 672 (by decide +kernel) rfl, tbm 102 (by decide +kernel) rfl, ⟨by decide +kernel, by decide +kernel⟩, Nat.le_of_ble_eq_true rfl⟩
theorem bX0_note : CVB uX0_note 5 0 7 := ⟨mX0_note, tbm 671 (by decide +kernel) rfl, tbm 4 (by decide +kernel) rfl, by decide +kernel, by decide, TX0, rfl⟩
theorem mX0_twist : MOK uX0_twist := ⟨by decide +kernel, rfl, tbm 614 (by decide +kernel) rfl, tbm 102 (by decide +kernel) rfl, ⟨by decide +kernel, by decide +kernel⟩, Nat.le_of_ble_eq_true rfl⟩
theorem bX0_twist : CVB uX0_twist 4 0 7 := ⟨mX0_twist, tbm 612 (by decide +kernel) rfl, tbm 613 (by decide +kernel) rfl, by decide +kernel, by decide, TX0, rfl⟩
theorem mX9_makeClear : MOK uX9_makeClear := ⟨by decide +kernel, rfl, tbm 680 (by decide +kernel) rfl, tbm 103 (by decide +kernel) rfl, ⟨by decide +kernel, by decide +kernel⟩, Nat.le_of_ble_eq_true rfl⟩
theorem bX9_makeClear : CVB uX9_makeClear 1 9 15 := ⟨mX9_makeClear, tbm 678 (by decide +kernel) rfl, tbm 679 (by decide +kernel) rfl, by decide +kernel, by decide, TX9, rfl⟩
theorem mX0_blurAway : MOK uX0_blurAway := ⟨by decide +kernel, rfl, tbm 685 (by decide +kernel) rfl, tbm 102 (by decide +kernel) rfl, ⟨by decide +kernel, by decide +kernel⟩, Nat.le_of_ble_eq_true rfl⟩
theorem bX0_blurAway : CVB uX0_blurAway 3 0 7 := ⟨mX0_blurAway, tbm 683 (by decide +kernel) rfl, tbm 684 (by decide +kernel) rfl, by decide +kernel, by decide, TX0, rfl⟩
theorem mX11_act : MOK uX11_act := ⟨by decide +kernel, rfl, tbm 584 (by decide +kernel) rfl, tbm 101 (by decide +kernel) rfl, ⟨by decide +kernel, by decide +kernel⟩, Nat.le_of_ble_eq_true rfl⟩
theorem bX11_act : CVB uX11_act 2 11 9 := ⟨mX11_act, tbm 582 (by decide +kernel) rfl, tbm 583 (by decide +kernel) rfl, by decide +kernel, by decide, TX11, rfl⟩
theorem mX12_has : MOK uX12_has := ⟨by decide +kernel, rfl, tbm 1598 (by decide +kernel) rfl, tbm 114 (by decide +kernel) rfl, ⟨by decide +kernel, by decide +kernel⟩, Nat.le_of_ble_eq_true rfl⟩
theorem bX12_has : CVB uX12_has 2 12 62 := ⟨mX12_has, tbm 1597 (by decide +kernel) rfl, tbm 60 (by decide +kernel) rfl, by decide +kernel, by decide, TX12, rfl⟩
theorem mX12_canHop : MOK uX12_canHop := ⟨by decide +kernel, rfl, tbm 1594 (by decide +kernel) rfl, tbm 114 (by decide +kernel) rfl, ⟨by decide +kernel, by decide +kernel⟩, Nat.le_of_ble_eq_true rfl⟩
theorem bX12_canHop : CVB uX12_canHop 2 12 62 := ⟨mX12_canHop, tbm 1593 (by decide +kernel) rfl, tbm 59 (by decide +kernel) rfl, by decide +kernel, by decide, TX12, rfl⟩
theorem mX12_canAct : MOK uX12_canAct := ⟨by decide +kernel, rfl, tbm 1590 (by decide +kernel) rfl, tbm 114 (by decide +kernel) rfl, ⟨by decide +kernel, by decide +kernel⟩, Nat.le_of_ble_eq_true rfl⟩
theorem bX12_canAct : CVB uX12_canAct 2 12 62 := ⟨mX12_canAct, tbm 1589 (by decide +kernel) rfl, tbm 58 (by decide +kernel) rfl, by decide +kernel, by decide, TX12, rfl⟩
theorem mX12_keepsAhead : MOK uX12_keepsAhead := ⟨by decide +kernel, rfl, tbm 1602 (by decide +kernel) rfl, tbm 114 (by decide +kernel) rfl, ⟨by decide +kernel, by decide +kernel⟩, Nat.le_of_ble_eq_true rfl⟩
theorem bX12_keepsAhead : CVB uX12_keepsAhead 0 12 62 := ⟨mX12_keepsAhead, tbm 1601 (by decide +kernel) rfl, tbm 61 (by decide +kernel) rfl, by decide +kernel, by decide, TX12, rfl⟩
theorem mX12_hopperOf : MOK uX12_hopperOf := ⟨by decide +kernel, rfl, tbm 1610 (by decide +kernel) rfl, tbm 114 (by decide +kernel) rfl, ⟨by decide +kernel, by decide +kernel⟩, Nat.le_of_ble_eq_true rfl⟩
theorem bX12_hopperOf : CVB uX12_hopperOf 2 12 62 := ⟨mX12_hopperOf, tbm 1609 (by decide +kernel) rfl, tbm 63 (by decide +kernel) rfl, by decide +kernel, by decide, TX12, rfl⟩
theorem mX12_onesOf : MOK uX12_onesOf := ⟨by decide +kernel, rfl, tbm 1622 (by decide +kernel) rfl, tbm 114 (by decide +kernel) rfl, ⟨by decide +kernel, by decide +kernel⟩, Nat.le_of_ble_eq_true rfl⟩
theorem bX12_onesOf : CVB uX12_onesOf 1 12 62 := ⟨mX12_onesOf, tbm 1621 (by decide +kernel) rfl, tbm 66 (by decide +kernel) rfl, by decide +kernel, by decide, TX12, rfl⟩
theorem mX12_asks : MOK uX12_asks := ⟨by decide +kernel, rfl, tbm 1618 (by decide +kernel) rfl, tbm 114 (by decide +kernel) rfl, ⟨by decide +kernel, by decide +kernel⟩, Nat.le_of_ble_eq_true rfl⟩
theorem bX12_asks : CVB uX12_asks 3 12 62 := ⟨mX12_asks, tbm 1617 (by decide +kernel) rfl, tbm 65 (by decide +kernel) rfl, by decide +kernel, by decide, TX12, rfl⟩
theorem mX12_twoOf : MOK uX12_twoOf := ⟨by decide +kernel, rfl, tbm 1638 (by decide +kernel) rfl, tbm 114 (by decide +kernel) rfl, ⟨by decide +kernel, by decide +kernel⟩, Nat.le_of_ble_eq_true rfl⟩
theorem bX12_twoOf : CVB uX12_twoOf 3 12 62 := ⟨mX12_twoOf, tbm 1637 (by decide +kernel) rfl, tbm 70 (by decide +kernel) rfl, by decide +kernel, by decide, TX12, rfl⟩
theorem mX12_runs : MOK uX12_runs := ⟨by decide +kernel, rfl, tbm 1634 (by decide +kernel) rfl, tbm 114 (by decide +kernel) rfl, ⟨by decide +kernel, by decide +kernel⟩, Nat.le_of_ble_eq_true rfl⟩
theorem bX12_runs : CVB uX12_runs 3 12 62 := ⟨mX12_runs, tbm 1633 (by decide +kernel) rfl, tbm 69 (by decide +kernel) rfl, by decide +kernel, by decide, TX12, rfl⟩
theorem mX12_lineOf : MOK uX12_lineOf := ⟨by decide +kernel, rfl, tbm 1630 (by decide +kernel) rfl, tbm 114 (by decide +kernel) rfl, ⟨by decide +kernel, by decide +kernel⟩, Nat.le_of_ble_eq_true rfl⟩
theorem bX12_lineOf : CVB uX12_lineOf 1 12 62 := ⟨mX12_lineOf, tbm 1629 (by decide +kernel) rfl, tbm 68 (by decide +kernel) rfl, by decide +kernel, by decide, TX12, rfl⟩
theorem mX12_held : MOK uX12_held := ⟨by decide +kernel, rfl, tbm 1642 (by decide +kernel) rfl, tbm 114 (by decide +kernel) rfl, ⟨by decide +kernel, by decide +kernel⟩, Nat.le_of_ble_eq_true rfl⟩
theorem bX12_held : CVB uX12_held 3 12 62 := ⟨mX12_held, tbm 1641 (by decide +kernel) rfl, tbm 71 (by decide +kernel) rfl, by decide +kernel, by decide, TX12, rfl⟩
theorem mX12_lawTells : MOK uX12_lawTells := ⟨by decide +kernel, rfl, tbm 1626 (by decide +kernel) rfl, tbm 114 (by decide +kernel) rfl, ⟨by decide +kernel, by decide +kernel⟩, Nat.le_of_ble_eq_true rfl⟩
theorem bX12_lawTells : CVB uX12_lawTells 3 12 62 := ⟨mX12_lawTells, tbm 1625 (by decide +kernel) rfl, tbm 67 (by decide +kernel) rfl, by decide +kernel, by decide, TX12, rfl⟩
theorem mX12_landsOn : MOK uX12_landsOn := ⟨by decide +kernel, rfl, tbm 1614 (by decide +kernel) rfl, tbm 114 (by decide +kernel) rfl, ⟨by decide +kernel, by decide +kernel⟩, Nat.le_of_ble_eq_true rfl⟩
theorem bX12_landsOn : CVB uX12_landsOn 3 12 62 := ⟨mX12_landsOn, tbm 1613 (by decide +kernel) rfl, tbm 64 (by decide +kernel) rfl, by decide +kernel, by decide, TX12, rfl⟩
theorem mX12_draw : MOK uX12_draw := ⟨by decide +kernel, rfl, tbm 1650 (by decide +kernel) rfl, tbm 114 (by decide +kernel) rfl, ⟨by decide +kernel, by decide +kernel⟩, Nat.le_of_ble_eq_true rfl⟩
theorem bX12_draw : CVB uX12_draw 1 12 62 := ⟨mX12_draw, tbm 1649 (by decide +kernel) rfl, tbm 73 (by decide +kernel) rfl, by decide +kernel, by decide, TX12, rfl⟩
theorem mX12_happens : MOK uX12_happens := ⟨by decide +kernel, rfl, tbm 1646 (by decide +kernel) rfl, tbm 114 (by decide +kernel) rfl, ⟨by decide +kernel, by decide +kernel⟩, Nat.le_of_ble_eq_true rfl⟩
theorem bX12_happens : CVB uX12_happens 1 12 62 := ⟨mX12_happens, tbm 1645 (by decide +kernel) rfl, tbm 72 (by decide +kernel) rfl, by decide +kernel, by decide, TX12, rfl⟩
theorem mX12_costsOn : MOK uX12_costsOn := ⟨by decide +kernel, rfl, tbm 1656 (by decide +kernel) rfl, tbm 114 (by decide +kernel) rfl, ⟨by decide +kernel, by decide +kernel⟩, Nat.le_of_ble_eq_true rfl⟩
theorem bX12_costsOn : CVB uX12_costsOn 3 12 62 := ⟨mX12_costsOn, tbm 1655 (by decide +kernel) rfl, tbm 74 (by decide +kernel) rfl, by decide +kernel, by decide, TX12, rfl⟩
theorem mX12_notes : MOK uX12_notes := ⟨by decide +kernel, rfl, tbm 1660 (by decide +kernel) rfl, tbm 114 (by decide +kernel) rfl, ⟨by decide +kernel, by decide +kernel⟩, Nat.le_of_ble_eq_true rfl⟩
theorem bX12_notes : CVB uX12_notes 3 12 62 := ⟨mX12_notes, tbm 1659 (by decide +kernel) rfl, tbm 75 (by decide +kernel) rfl, by decide +kernel, by decide, TX12, rfl⟩
theorem mX12_hopsOver : MOK uX12_hopsOver := ⟨by decide +kernel, rfl, tbm 1606 (by decide +kernel) rfl, tbm 114 (by decide +kernel) rfl, ⟨by decide +kernel, by decide +kernel⟩, Nat.le_of_ble_eq_true rfl⟩
theorem bX12_hopsOver : CVB uX12_hopsOver 2 12 62 := ⟨mX12_hopsOver, tbm 1605 (by decide +kernel) rfl, tbm 62 (by decide +kernel) rfl, by decide +kernel, by decide, TX12, rfl⟩
theorem mX12_isCleared : MOK uX12_isCleared := ⟨by decide +kernel, rfl, tbm 1664 (by decide +kernel) rfl, tbm 114 (by decide +kernel) rfl, ⟨by decide +kernel, by decide +kernel⟩, Nat.le_of_ble_eq_true rfl⟩
theorem bX12_isCleared : CVB uX12_isCleared 1 12 62 := ⟨mX12_isCleared, tbm 1663 (by decide +kernel) rfl, tbm 76 (by decide +kernel) rfl, by decide +kernel, by decide, TX12, rfl⟩
theorem mX12_isBlurred : MOK uX12_isBlurred := ⟨by decide +kernel, rfl, tbm 1668 (by decide +kernel) rfl, tbm 114 (by decide +kernel) rfl, ⟨by decide +kernel, by decide +kernel⟩, Nat.le_of_ble_eq_true rfl⟩
theorem bX12_isBlurred : CVB uX12_isBlurred 1 12 62 := ⟨mX12_isBlurred, tbm 1667 (by decide +kernel) rfl, tbm 77 (by decide +kernel) rfl, by decide +kernel, by decide, TX12, rfl⟩
theorem mX12_act : MOK uX12_act := ⟨by decide +kernel, rfl, tbm 1586 (by decide +kernel) rfl, tbm 114 (by decide +kernel) rfl, ⟨by decide +kernel, by decide +kernel⟩, Nat.le_of_ble_eq_true rfl⟩
theorem bX12_act : CVB uX12_act 2 12 62 := ⟨mX12_act, tbm 1584 (by decide +kernel) rfl, tbm 1585 (by decide +kernel) rfl, by decide +kernel, by decide, TX12, rfl⟩
theorem mX0_tellEvening : MOK uX0_tellEvening := ⟨by decide +kernel, rfl, tbm 697 (by decide +kernel) rfl, tbm 102 (by decide +kernel) rfl, ⟨by decide +kernel, by decide +kernel⟩, Nat.le_of_ble_eq_true rfl⟩
theorem bX0_tellEvening : CVB uX0_tellEvening 2 0 7 := ⟨mX0_tellEvening, tbm 696 (by decide +kernel) rfl, tbm 5 (by decide +kernel) rfl, by decide +kernel, by decide, TX0, rfl⟩
theorem mX0_blurSome : MOK uX0_blurSome := ⟨by decide +kernel, rfl, tbm 703 (by decide +kernel) rfl, tbm 102 (by decide +kernel) rfl, ⟨by decide +kernel, by decide +kernel⟩, Nat.le_of_ble_eq_true rfl⟩
theorem bX0_blurSome : CVB uX0_blurSome 3 0 7 := ⟨mX0_blurSome, tbm 702 (by decide +kernel) rfl, tbm 6 (by decide +kernel) rfl, by decide +kernel, by decide, TX0, rfl⟩
theorem mX0_goDay : MOK uX0_goDay := ⟨by decide +kernel, rfl, tbm 693 (by decide +kernel) rfl, tbm 102 (by decide +kernel) rfl, ⟨by decide +kernel, by decide +kernel⟩, Nat.le_of_ble_eq_true rfl⟩
theorem bX0_goDay : CVB uX0_goDay 2 0 7 := ⟨mX0_goDay, tbm 691 (by decide +kernel) rfl, tbm 692 (by decide +kernel) rfl, by decide +kernel, by decide, TX0, rfl⟩
theorem mX11_days : MOK uX11_days := ⟨by decide +kernel, rfl, tbm 689 (by decide +kernel) rfl, tbm 101 (by decide +kernel) rfl, ⟨by decide +kernel, by decide +kernel⟩, Nat.le_of_ble_eq_true rfl⟩
theorem bX11_days : CVB uX11_days 1 11 9 := ⟨mX11_days, tbm 687 (by decide +kernel) rfl, tbm 688 (by decide +kernel) rfl, by decide +kernel, by decide, TX11, rfl⟩
theorem mX12_comes : MOK uX12_comes := ⟨by decide +kernel, rfl, tbm 1680 (by decide +kernel) rfl, tbm 114 (by decide +kernel) rfl, ⟨by decide +kernel, by decide +kernel⟩, Nat.le_of_ble_eq_true rfl⟩
theorem bX12_comes : CVB uX12_comes 1 12 62 := ⟨mX12_comes, tbm 1679 (by decide +kernel) rfl, tbm 79 (by decide +kernel) rfl, by decide +kernel, by decide, TX12, rfl⟩
theorem mX12_wipesOf : MOK uX12_wipesOf := ⟨by decide +kernel, rfl, tbm 1684 (by decide +kernel) rfl, tbm 114 (by decide +kernel) rfl, ⟨by decide +kernel, by decide +kernel⟩, Nat.le_of_ble_eq_true rfl⟩
theorem bX12_wipesOf : CVB uX12_wipesOf 1 12 62 := ⟨mX12_wipesOf, tbm 1683 (by decide +kernel) rfl, tbm 80 (by decide +kernel) rfl, by decide +kernel, by decide, TX12, rfl⟩
theorem mX12_greater : MOK uX12_greater := ⟨by decide +kernel, rfl, tbm 1688 (by decide +kernel) rfl, tbm 114 (by decide +kernel) rfl, ⟨by decide +kernel, by decide +kernel⟩, Nat.le_of_ble_eq_true rfl⟩
theorem bX12_greater : CVB uX12_greater 2 12 62 := ⟨mX12_greater, tbm 1687 (by decide +kernel) rfl, tbm 81 (by decide +kernel) rfl, by decide +kernel, by decide, TX12, rfl⟩
theorem mX12_goesBy : MOK uX12_goesBy := ⟨by decide +kernel, rfl, tbm 1676 (by decide +kernel) rfl, tbm 114 (by decide +kernel) rfl, ⟨by decide +kernel, by decide +kernel⟩, Nat.le_of_ble_eq_true rfl⟩
theorem bX12_goesBy : CVB uX12_goesBy 0 12 62 := ⟨mX12_goesBy, tbm 1675 (by decide +kernel) rfl, tbm 78 (by decide +kernel) rfl, by decide +kernel, by decide, TX12, rfl⟩
theorem mX12_days : MOK uX12_days := ⟨by decide +kernel, rfl, tbm 1672 (by decide +kernel) rfl, tbm 114 (by decide +kernel) rfl, ⟨by decide +kernel, by decide +kernel⟩, Nat.le_of_ble_eq_true rfl⟩
theorem bX12_days : CVB uX12_days 1 12 62 := ⟨mX12_days, tbm 1670 (by decide +kernel) rfl, tbm 1671 (by decide +kernel) rfl, by decide +kernel, by decide, TX12, rfl⟩
theorem mX8_append : MOK uX8_append := ⟨by decide +kernel, rfl, tbm 712 (by decide +kernel) rfl, tbm 110 (by decide +kernel) rfl, ⟨by decide +kernel, by decide +kernel⟩, Nat.le_of_ble_eq_true rfl⟩
theorem bX8_append : CVB uX8_append 1 8 9 := ⟨mX8_append, tbm 710 (by decide +kernel) rfl, tbm 711 (by decide +kernel) rfl, by decide +kernel, by decide, TX8, rfl⟩
theorem mX11_feed : MOK uX11_feed := ⟨by decide +kernel, rfl, tbm 708 (by decide +kernel) rfl, tbm 101 (by decide +kernel) rfl, ⟨by decide +kernel, by decide +kernel⟩, Nat.le_of_ble_eq_true rfl⟩
theorem bX11_feed : CVB uX11_feed 5 11 9 := ⟨mX11_feed, tbm 706 (by decide +kernel) rfl, tbm 707 (by decide +kernel) rfl, by decide +kernel, by decide, TX11, rfl⟩
theorem mX12_types : MOK uX12_types := ⟨by decide +kernel, rfl, tbm 1438 (by decide +kernel) rfl, tbm 114 (by decide +kernel) rfl, ⟨by decide +kernel, by decide +kernel⟩, Nat.le_of_ble_eq_true rfl⟩
theorem bX12_types : CVB uX12_types 1 12 62 := ⟨mX12_types, tbm 1437 (by decide +kernel) rfl, tbm 24 (by decide +kernel) rfl, by decide +kernel, by decide, TX12, rfl⟩
theorem mX12_feed : MOK uX12_feed := ⟨by decide +kernel, rfl, tbm 1434 (by decide +kernel) rfl, tbm 114 (by decide +kernel) rfl, ⟨by decide +kernel, by decide +kernel⟩, Nat.le_of_ble_eq_true rfl⟩
theorem bX12_feed : CVB uX12_feed 5 12 62 := ⟨mX12_feed, tbm 1432 (by decide +kernel) rfl, tbm 1433 (by decide +kernel) rfl, by decide +kernel, by decide, TX12, rfl⟩
theorem mX11_end : MOK uX11_end := ⟨by decide +kernel, rfl, tbm 716 (by decide +kernel) rfl, tbm 101 (by decide +kernel) rfl, ⟨by decide +kernel, by decide +kernel⟩, Nat.le_of_ble_eq_true rfl⟩
theorem bX11_end : CVB uX11_end 1 11 9 := ⟨mX11_end, tbm 714 (by decide +kernel) rfl, tbm 715 (by decide +kernel) rfl, by decide +kernel, by decide, TX11, rfl⟩
theorem mX12_end : MOK uX12_end := ⟨by decide +kernel, rfl, tbm 1442 (by decide +kernel) rfl, tbm 114 (by decide +kernel) rfl, ⟨by decide +kernel, by decide +kernel⟩, Nat.le_of_ble_eq_true rfl⟩
theorem bX12_end : CVB uX12_end 1 12 62 := ⟨mX12_end, tbm 1440 (by decide +kernel) rfl, tbm 1441 (by decide +kernel) rfl, by decide +kernel, by decide, TX12, rfl⟩
theorem mX8_kindAt : MOK uX8_kindAt := ⟨by decide +kernel, rfl, tbm 732 (by decide +kernel) rfl, tbm 110 (by decide +kernel) rfl, ⟨by decide +kernel, by decide +kernel⟩, Nat.le_of_ble_eq_true rfl⟩
theorem bX8_kindAt : CVB uX8_kindAt 1 8 9 := ⟨mX8_kindAt, tbm 731 (by decide +kernel) rfl, tbm 7 (by decide +kernel) rfl, by decide +kernel, by decide, TX8, rfl⟩
theorem mX8_advance : MOK uX8_advance := ⟨by decide +kernel, rfl, tbm 728 (by decide +kernel) rfl, tbm 110 (by decide +kernel) rfl, ⟨by decide +kernel, by decide +kernel⟩, Nat.le_of_ble_eq_true rfl⟩
theorem bX8_advance : CVB uX8_advance 0 8 9 := ⟨mX8_advance, tbm 726 (by decide +kernel) rfl, tbm 727 (by decide +kernel) rfl, by decide +kernel, by decide, TX8, rfl⟩
theorem mX8_begin : MOK uX8_begin := ⟨by decide +kernel, rfl, tbm 724 (by decide +kernel) rfl, tbm 110 (by decide +kernel) rfl, ⟨by decide +kernel, by decide +kernel⟩, Nat.le_of_ble_eq_true rfl⟩
theorem bX8_begin : CVB uX8_begin 0 8 9 := ⟨mX8_begin, tbm 722 (by decide +kernel) rfl, tbm 723 (by decide +kernel) rfl, by decide +kernel, by decide, TX8, rfl⟩
theorem mX1_clear : MOK uX1_clear := ⟨by decide +kernel, rfl, tbm 740 (by decide +kernel) rfl, tbm 106 (by decide +kernel) rfl, ⟨by decide +kernel, by decide +kernel⟩, Nat.le_of_ble_eq_true rfl⟩
theorem bX1_clear : CVB uX1_clear 0 1 9 := ⟨mX1_clear, tbm 738 (by decide +kernel) rfl, tbm 739 (by decide +kernel) rfl, by decide +kernel, by decide, TX1, rfl⟩
theorem mX8_isWord : MOK uX8_isWord := ⟨by decide +kernel, rfl, tbm 748 (by decide +kernel) rfl, tbm 110 (by decide +kernel) rfl, ⟨by decide +kernel, by decide +kernel⟩, Nat.le_of_ble_eq_true rfl⟩
theorem bX8_isWord : CVB uX8_isWord 1 8 9 := ⟨mX8_isWord, tbm 746 (by decide +kernel) rfl, tbm 747 (by decide +kernel) rfl, by decide +kernel, by decide, TX8, rfl⟩
theorem mX2_wordAtHand : MOK uX2_wordAtHand := ⟨by decide +kernel, rfl, tbm 743 (by decide +kernel) rfl, tbm 111 (by decide +kernel) rfl, ⟨by decide +kernel, by decide +kernel⟩, Nat.le_of_ble_eq_true rfl⟩
theorem bX2_wordAtHand : CSB uX2_wordAtHand 1 := ⟨mX2_wordAtHand, tbm 742 (by decide +kernel) rfl, by decide +kernel⟩
theorem mX8_refuse : MOK uX8_refuse := ⟨by decide +kernel, rfl, tbm 802 (by decide +kernel) rfl, tbm 110 (by decide +kernel) rfl, ⟨by decide +kernel, by decide +kernel⟩, Nat.le_of_ble_eq_true rfl⟩
theorem bX8_refuse : CVB uX8_refuse 1 8 9 := ⟨mX8_refuse, tbm 800 (by decide +kernel) rfl, tbm 801 (by decide +kernel) rfl, by decide +kernel, by decide, TX8, rfl⟩
theorem mX1_put : MOK uX1_put := ⟨by decide +kernel, rfl, tbm 815 (by decide +kernel) rfl, tbm 106 (by decide +kernel) rfl, ⟨by decide +kernel, by decide +kernel⟩, Nat.le_of_ble_eq_true rfl⟩
theorem bX1_put : CVB uX1_put 1 1 9 := ⟨mX1_put, tbm 813 (by decide +kernel) rfl, tbm 814 (by decide +kernel) rfl, by decide +kernel, by decide, TX1, rfl⟩
theorem mX2_nameAtHand : MOK uX2_nameAtHand := ⟨by decide +kernel, rfl, tbm 818 (by decide +kernel) rfl, tbm 111 (by decide +kernel) rfl, ⟨by decide +kernel, by decide +kernel⟩, Nat.le_of_ble_eq_true rfl⟩
theorem bX2_nameAtHand : CSB uX2_nameAtHand 1 := ⟨mX2_nameAtHand, tbm 817 (by decide +kernel) rfl, by decide +kernel⟩
theorem mX2_readUnit : MOK uX2_readUnit := ⟨by decide +kernel, rfl, tbm 811 (by decide +kernel) rfl, tbm 111 (by decide +kernel) rfl, ⟨by decide +kernel, by decide +kernel⟩, Nat.le_of_ble_eq_true rfl⟩
theorem bX2_readUnit : CVB uX2_readUnit 2 2 1 := ⟨mX2_readUnit, tbm 810 (by decide +kernel) rfl, tbm 9 (by decide +kernel) rfl, by decide +kernel, by decide, TX2, rfl⟩
theorem mX8_isSign : MOK uX8_isSign := ⟨by decide +kernel, rfl, tbm 836 (by decide +kernel) rfl, tbm 110 (by decide +kernel) rfl, ⟨by decide +kernel, by decide +kernel⟩, Nat.le_of_ble_eq_true rfl⟩
theorem bX8_isSign : CVB uX8_isSign 1 8 9 := ⟨mX8_isSign, tbm 834 (by decide +kernel) rfl, tbm 835 (by decide +kernel) rfl, by decide +kernel, by decide, TX8, rfl⟩
theorem mX8_passSign : MOK uX8_passSign := ⟨by decide +kernel, rfl, tbm 832 (by decide +kernel) rfl, tbm 110 (by decide +kernel) rfl, ⟨by decide +kernel, by decide +kernel⟩, Nat.le_of_ble_eq_true rfl⟩
theorem bX8_passSign : CVB uX8_passSign 2 8 9 := ⟨mX8_passSign, tbm 830 (by decide +kernel) rfl, tbm 831 (by decide +kernel) rfl, by decide +kernel, by decide, TX8, rfl⟩
theorem mX2_readSum : MOK uX2_readSum := ⟨by decide +kernel, rfl, tbm 807 (by decide +kernel) rfl, tbm 111 (by decide +kernel) rfl, ⟨by decide +kernel, by decide +kernel⟩, Nat.le_of_ble_eq_true rfl⟩
theorem bX2_readSum : CVB uX2_readSum 1 2 1 := ⟨mX2_readSum, tbm 806 (by decide +kernel) rfl, tbm 8 (by decide +kernel) rfl, by decide +kernel, by decide, TX2, rfl⟩
theorem mX8_passWord : MOK uX8_passWord := ⟨by decide +kernel, rfl, tbm 841 (by decide +kernel) rfl, tbm 110 (by decide +kernel) rfl, ⟨by decide +kernel, by decide +kernel⟩, Nat.le_of_ble_eq_true rfl⟩
theorem bX8_passWord : CVB uX8_passWord 1 8 9 := ⟨mX8_passWord, tbm 839 (by decide +kernel) rfl, tbm 840 (by decide +kernel) rfl, by decide +kernel, by decide, TX8, rfl⟩
theorem mX8_takeSign : MOK uX8_takeSign := ⟨by decide +kernel, rfl, tbm 856 (by decide +kernel) rfl, tbm 110 (by decide +kernel) rfl, ⟨by decide +kernel, by decide +kernel⟩, Nat.le_of_ble_eq_true rfl⟩
theorem bX8_takeSign : CVB uX8_takeSign 1 8 9 := ⟨mX8_takeSign, tbm 854 (by decide +kernel) rfl, tbm 855 (by decide +kernel) rfl, by decide +kernel, by decide, TX8, rfl⟩
theorem mX2_readTest : MOK uX2_readTest := ⟨by decide +kernel, rfl, tbm 850 (by decide +kernel) rfl, tbm 111 (by decide +kernel) rfl, ⟨by decide +kernel, by decide +kernel⟩, Nat.le_of_ble_eq_true rfl⟩
theorem bX2_readTest : CVB uX2_readTest 2 2 1 := ⟨mX2_readTest, tbm 849 (by decide +kernel) rfl, tbm 11 (by decide +kernel) rfl, by decide +kernel, by decide, TX2, rfl⟩
theorem mX2_readEither : MOK uX2_readEither := ⟨by decide +kernel, rfl, tbm 846 (by decide +kernel) rfl, tbm 111 (by decide +kernel) rfl, ⟨by decide +kernel, by decide +kernel⟩, Nat.le_of_ble_eq_true rfl⟩
theorem bX2_readEither : CVB uX2_readEither 2 2 1 := ⟨mX2_readEither, tbm 845 (by decide +kernel) rfl, tbm 10 (by decide +kernel) rfl, by decide +kernel, by decide, TX2, rfl⟩
theorem mX1_appendLine : MOK uX1_appendLine := ⟨by decide +kernel, rfl, tbm 863 (by decide +kernel) rfl, tbm 106 (by decide +kernel) rfl, ⟨by decide +kernel, by decide +kernel⟩, Nat.le_of_ble_eq_true rfl⟩
theorem bX1_appendLine : CVB uX1_appendLine 3 1 9 := ⟨mX1_appendLine, tbm 861 (by decide +kernel) rfl, tbm 862 (by decide +kernel) rfl, by decide +kernel, by decide, TX1, rfl⟩
theorem mX2_read : MOK uX2_read := ⟨by decide +kernel, rfl, tbm 736 (by decide +kernel) rfl, tbm 111 (by decide +kernel) rfl, ⟨by decide +kernel, by decide +kernel⟩, Nat.le_of_ble_eq_true rfl⟩
theorem bX2_read : CVB uX2_read 1 2 1 := ⟨mX2_read, tbm 734 (by decide +kernel) rfl, tbm 735 (by decide +kernel) rfl, by decide +kernel, by decide, TX2, rfl⟩
theorem mX1_copyFrom : MOK uX1_copyFrom := ⟨by decide +kernel, rfl, tbm 867 (by decide +kernel) rfl, tbm 106 (by decide +kernel) rfl, ⟨by decide +kernel, by decide +kernel⟩, Nat.le_of_ble_eq_true rfl⟩
theorem bX1_copyFrom : CVB uX1_copyFrom 1 1 9 := ⟨mX1_copyFrom, tbm 865 (by decide +kernel) rfl, tbm 866 (by decide +kernel) rfl, by decide +kernel, by decide, TX1, rfl⟩
theorem mX8_takeNumber : MOK uX8_takeNumber := ⟨by decide +kernel, rfl, tbm 889 (by decide +kernel) rfl, tbm 110 (by decide +kernel) rfl, ⟨by decide +kernel, by decide +kernel⟩, Nat.le_of_ble_eq_true rfl⟩
theorem bX8_takeNumber : CVB uX8_takeNumber 1 8 9 := ⟨mX8_takeNumber, tbm 887 (by decide +kernel) rfl, tbm 888 (by decide +kernel) rfl, by decide +kernel, by decide, TX8, rfl⟩
theorem mX8_takeWord : MOK uX8_takeWord := ⟨by decide +kernel, rfl, tbm 894 (by decide +kernel) rfl, tbm 110 (by decide +kernel) rfl, ⟨by decide +kernel, by decide +kernel⟩, Nat.le_of_ble_eq_true rfl⟩
theorem bX8_takeWord : CVB uX8_takeWord 1 8 9 := ⟨mX8_takeWord, tbm 892 (by decide +kernel) rfl, tbm 893 (by decide +kernel) rfl, by decide +kernel, by decide, TX8, rfl⟩
theorem mX9_isOneOf : MOK uX9_isOneOf := ⟨by decide +kernel, rfl, tbm 898 (by decide +kernel) rfl, tbm 103 (by decide +kernel) rfl, ⟨by decide +kernel, by decide +kernel⟩, Nat.le_of_ble_eq_true rfl⟩
theorem bX9_isOneOf : CVB uX9_isOneOf 2 9 15 := ⟨mX9_isOneOf, tbm 896 (by decide +kernel) rfl, tbm 897 (by decide +kernel) rfl, by decide +kernel, by decide, TX9, rfl⟩
theorem mX4_readHearing : MOK uX4_readHearing := ⟨by decide +kernel, rfl, tbm 885 (by decide +kernel) rfl, tbm 112 (by decide +kernel) rfl, ⟨by decide +kernel, by decide +kernel⟩, Nat.le_of_ble_eq_true rfl⟩
theorem bX4_readHearing : CVB uX4_readHearing 2 4 5 := ⟨mX4_readHearing, tbm 884 (by decide +kernel) rfl, tbm 13 (by decide +kernel) rfl, by decide +kernel, by decide, TX4, rfl⟩
theorem mX4_readTwist : MOK uX4_readTwist := ⟨by decide +kernel, rfl, tbm 902 (by decide +kernel) rfl, tbm 112 (by decide +kernel) rfl, ⟨by decide +kernel, by decide +kernel⟩, Nat.le_of_ble_eq_true rfl⟩
theorem bX4_readTwist : CVB uX4_readTwist 2 4 5 := ⟨mX4_readTwist, tbm 901 (by decide +kernel) rfl, tbm 14 (by decide +kernel) rfl, by decide +kernel, by decide, TX4, rfl⟩
theorem mX4_kindAtHand : MOK uX4_kindAtHand := ⟨by decide +kernel, rfl, tbm 911 (by decide +kernel) rfl, tbm 112 (by decide +kernel) rfl, ⟨by decide +kernel, by decide +kernel⟩, Nat.le_of_ble_eq_true rfl⟩
theorem bX4_kindAtHand : CSB uX4_kindAtHand 1 := ⟨mX4_kindAtHand, tbm 910 (by decide +kernel) rfl, by decide +kernel⟩
theorem mX4_readEvening : MOK uX4_readEvening := ⟨by decide +kernel, rfl, tbm 908 (by decide +kernel) rfl, tbm 112 (by decide +kernel) rfl, ⟨by decide +kernel, by decide +kernel⟩, Nat.le_of_ble_eq_true rfl⟩
theorem bX4_readEvening : CVB uX4_readEvening 2 4 5 := ⟨mX4_readEvening, tbm 907 (by decide +kernel) rfl, tbm 15 (by decide +kernel) rfl, by decide +kernel, by decide, TX4, rfl⟩
theorem mX4_readLine : MOK uX4_readLine := ⟨by decide +kernel, rfl, tbm 881 (by decide +kernel) rfl, tbm 112 (by decide +kernel) rfl, ⟨by decide +kernel, by decide +kernel⟩, Nat.le_of_ble_eq_true rfl⟩
theorem bX4_readLine : CVB uX4_readLine 3 4 5 := ⟨mX4_readLine, tbm 880 (by decide +kernel) rfl, tbm 12 (by decide +kernel) rfl, by decide +kernel, by decide, TX4, rfl⟩
theorem mX4_read : MOK uX4_read := ⟨by decide +kernel, rfl, tbm 872 (by decide +kernel) rfl, tbm 112 (by decide +kernel) rfl, ⟨by decide +kernel, by decide +kernel⟩, Nat.le_of_ble_eq_true rfl⟩
theorem bX4_read : CVB uX4_read 3 4 5 := ⟨mX4_read, tbm 870 (by decide +kernel) rfl, tbm 871 (by decide +kernel) rfl, by decide +kernel, by decide, TX4, rfl⟩
theorem mX0_linesOf : MOK uX0_linesOf := ⟨by decide +kernel, rfl, tbm 921 (by decide +kernel) rfl, tbm 102 (by decide +kernel) rfl, ⟨by decide +kernel, by decide +kernel⟩, Nat.le_of_ble_eq_true rfl⟩
theorem bX0_linesOf : CVB uX0_linesOf 1 0 7 := ⟨mX0_linesOf, tbm 919 (by decide +kernel) rfl, tbm 920 (by decide +kernel) rfl, by decide +kernel, by decide, TX0, rfl⟩
theorem mX3_copyFrom : MOK uX3_copyFrom := ⟨by decide +kernel, rfl, tbm 925 (by decide +kernel) rfl, tbm 104 (by decide +kernel) rfl, ⟨by decide +kernel, by decide +kernel⟩, Nat.le_of_ble_eq_true rfl⟩
theorem bX3_copyFrom : CVB uX3_copyFrom 1 3 6 := ⟨mX3_copyFrom, tbm 923 (by decide +kernel) rfl, tbm 924 (by decide +kernel) rfl, by decide +kernel, by decide, TX3, rfl⟩
theorem mX11_text : MOK uX11_text := ⟨by decide +kernel, rfl, tbm 720 (by decide +kernel) rfl, tbm 101 (by decide +kernel) rfl, ⟨by decide +kernel, by decide +kernel⟩, Nat.le_of_ble_eq_true rfl⟩
theorem bX11_text : CVB uX11_text 1 11 9 := ⟨mX11_text, tbm 718 (by decide +kernel) rfl, tbm 719 (by decide +kernel) rfl, by decide +kernel, by decide, TX11, rfl⟩
theorem mX12_raw : MOK uX12_raw := ⟨by decide +kernel, rfl, tbm 1458 (by decide +kernel) rfl, tbm 114 (by decide +kernel) rfl, ⟨by decide +kernel, by decide +kernel⟩, Nat.le_of_ble_eq_true rfl⟩
theorem bX12_raw : CVB uX12_raw 1 12 62 := ⟨mX12_raw, tbm 1457 (by decide +kernel) rfl, tbm 27 (by decide +kernel) rfl, by decide +kernel, by decide, TX12, rfl⟩
theorem mX12_isLetter : MOK uX12_isLetter := ⟨by decide +kernel, rfl, tbm 1462 (by decide +kernel) rfl, tbm 114 (by decide +kernel) rfl, ⟨by decide +kernel, by decide +kernel⟩, Nat.le_of_ble_eq_true rfl⟩
theorem bX12_isLetter : CVB uX12_isLetter 1 12 62 := ⟨mX12_isLetter, tbm 1461 (by decide +kernel) rfl, tbm 28 (by decide +kernel) rfl, by decide +kernel, by decide, TX12, rfl⟩
theorem mX12_wordAt : MOK uX12_wordAt := ⟨by decide +kernel, rfl, tbm 1466 (by decide +kernel) rfl, tbm 114 (by decide +kernel) rfl, ⟨by decide +kernel, by decide +kernel⟩, Nat.le_of_ble_eq_true rfl⟩
theorem bX12_wordAt : CVB uX12_wordAt 2 12 62 := ⟨mX12_wordAt, tbm 1465 (by decide +kernel) rfl, tbm 29 (by decide +kernel) rfl, by decide +kernel, by decide, TX12, rfl⟩
theorem mX12_isDigit : MOK uX12_isDigit := ⟨by decide +kernel, rfl, tbm 1470 (by decide +kernel) rfl, tbm 114 (by decide +kernel) rfl, ⟨by decide +kernel, by decide +kernel⟩, Nat.le_of_ble_eq_true rfl⟩
theorem bX12_isDigit : CVB uX12_isDigit 1 12 62 := ⟨mX12_isDigit, tbm 1469 (by decide +kernel) rfl, tbm 30 (by decide +kernel) rfl, by decide +kernel, by decide, TX12, rfl⟩
theorem mX12_isMarkSign : MOK uX12_isMarkSign := ⟨by decide +kernel, rfl, tbm 1474 (by decide +kernel) rfl, tbm 114 (by decide +kernel) rfl, ⟨by decide +kernel, by decide +kernel⟩, Nat.le_of_ble_eq_true rfl⟩
theorem bX12_isMarkSign : CVB uX12_isMarkSign 1 12 62 := ⟨mX12_isMarkSign, tbm 1473 (by decide +kernel) rfl, tbm 31 (by decide +kernel) rfl, by decide +kernel, by decide, TX12, rfl⟩
theorem mX12_reads : MOK uX12_reads := ⟨by decide +kernel, rfl, tbm 1454 (by decide +kernel) rfl, tbm 114 (by decide +kernel) rfl, ⟨by decide +kernel, by decide +kernel⟩, Nat.le_of_ble_eq_true rfl⟩
theorem bX12_reads : CVB uX12_reads 0 12 62 := ⟨mX12_reads, tbm 1453 (by decide +kernel) rfl, tbm 26 (by decide +kernel) rfl, by decide +kernel, by decide, TX12, rfl⟩
theorem mX12_isWord : MOK uX12_isWord := ⟨by decide +kernel, rfl, tbm 1482 (by decide +kernel) rfl, tbm 114 (by decide +kernel) rfl, ⟨by decide +kernel, by decide +kernel⟩, Nat.le_of_ble_eq_true rfl⟩
theorem bX12_isWord : CVB uX12_isWord 1 12 62 := ⟨mX12_isWord, tbm 1481 (by decide +kernel) rfl, tbm 33 (by decide +kernel) rfl, by decide +kernel, by decide, TX12, rfl⟩
theorem mX12_errs : MOK uX12_errs := ⟨by decide +kernel, rfl, tbm 1486 (by decide +kernel) rfl, tbm 114 (by decide +kernel) rfl, ⟨by decide +kernel, by decide +kernel⟩, Nat.le_of_ble_eq_true rfl⟩
theorem bX12_errs : CVB uX12_errs 1 12 62 := ⟨mX12_errs, tbm 1485 (by decide +kernel) rfl, tbm 34 (by decide +kernel) rfl, by decide +kernel, by decide, TX12, rfl⟩
theorem mX12_readNumber : MOK uX12_readNumber := ⟨by decide +kernel, rfl, tbm 1498 (by decide +kernel) rfl, tbm 114 (by decide +kernel) rfl, ⟨by decide +kernel, by decide +kernel⟩, Nat.le_of_ble_eq_true rfl⟩
theorem bX12_readNumber : CVB uX12_readNumber 2 12 62 := ⟨mX12_readNumber, tbm 1497 (by decide +kernel) rfl, tbm 37 (by decide +kernel) rfl, by decide +kernel, by decide, TX12, rfl⟩
theorem mX12_readTold : MOK uX12_readTold := ⟨by decide +kernel, rfl, tbm 1494 (by decide +kernel) rfl, tbm 114 (by decide +kernel) rfl, ⟨by decide +kernel, by decide +kernel⟩, Nat.le_of_ble_eq_true rfl⟩
theorem bX12_readTold : CVB uX12_readTold 3 12 62 := ⟨mX12_readTold, tbm 1493 (by decide +kernel) rfl, tbm 36 (by decide +kernel) rfl, by decide +kernel, by decide, TX12, rfl⟩
theorem mX12_isSign : MOK uX12_isSign := ⟨by decide +kernel, rfl, tbm 1506 (by decide +kernel) rfl, tbm 114 (by decide +kernel) rfl, ⟨by decide +kernel, by decide +kernel⟩, Nat.le_of_ble_eq_true rfl⟩
theorem bX12_isSign : CVB uX12_isSign 1 12 62 := ⟨mX12_isSign, tbm 1505 (by decide +kernel) rfl, tbm 39 (by decide +kernel) rfl, by decide +kernel, by decide, TX12, rfl⟩
theorem mX12_readMark : MOK uX12_readMark := ⟨by decide +kernel, rfl, tbm 1502 (by decide +kernel) rfl, tbm 114 (by decide +kernel) rfl, ⟨by decide +kernel, by decide +kernel⟩, Nat.le_of_ble_eq_true rfl⟩
theorem bX12_readMark : CVB uX12_readMark 1 12 62 := ⟨mX12_readMark, tbm 1501 (by decide +kernel) rfl, tbm 38 (by decide +kernel) rfl, by decide +kernel, by decide, TX12, rfl⟩
theorem mX12_readHop : MOK uX12_readHop := ⟨by decide +kernel, rfl, tbm 1490 (by decide +kernel) rfl, tbm 114 (by decide +kernel) rfl, ⟨by decide +kernel, by decide +kernel⟩, Nat.le_of_ble_eq_true rfl⟩
theorem bX12_readHop : CVB uX12_readHop 1 12 62 := ⟨mX12_readHop, tbm 1489 (by decide +kernel) rfl, tbm 35 (by decide +kernel) rfl, by decide +kernel, by decide, TX12, rfl⟩
theorem mX12_readHops : MOK uX12_readHops := ⟨by decide +kernel, rfl, tbm 1478 (by decide +kernel) rfl, tbm 114 (by decide +kernel) rfl, ⟨by decide +kernel, by decide +kernel⟩, Nat.le_of_ble_eq_true rfl⟩
theorem bX12_readHops : CVB uX12_readHops 0 12 62 := ⟨mX12_readHops, tbm 1477 (by decide +kernel) rfl, tbm 32 (by decide +kernel) rfl, by decide +kernel, by decide, TX12, rfl⟩
theorem mX12_kindOfStreet : MOK uX12_kindOfStreet := ⟨by decide +kernel, rfl, tbm 1518 (by decide +kernel) rfl, tbm 114 (by decide +kernel) rfl, ⟨by decide +kernel, by decide +kernel⟩, Nat.le_of_ble_eq_true rfl⟩
theorem bX12_kindOfStreet : CVB uX12_kindOfStreet 0 12 62 := ⟨mX12_kindOfStreet, tbm 1517 (by decide +kernel) rfl, tbm 42 (by decide +kernel) rfl, by decide +kernel, by decide, TX12, rfl⟩
theorem mX12_readStreetLine : MOK uX12_readStreetLine := ⟨by decide +kernel, rfl, tbm 1514 (by decide +kernel) rfl, tbm 114 (by decide +kernel) rfl, ⟨by decide +kernel, by decide +kernel⟩, Nat.le_of_ble_eq_true rfl⟩
theorem bX12_readStreetLine : CVB uX12_readStreetLine 1 12 62 := ⟨mX12_readStreetLine, tbm 1513 (by decide +kernel) rfl, tbm 41 (by decide +kernel) rfl, by decide +kernel, by decide, TX12, rfl⟩
theorem mX12_readStreet : MOK uX12_readStreet := ⟨by decide +kernel, rfl, tbm 1510 (by decide +kernel) rfl, tbm 114 (by decide +kernel) rfl, ⟨by decide +kernel, by decide +kernel⟩, Nat.le_of_ble_eq_true rfl⟩
theorem bX12_readStreet : CVB uX12_readStreet 0 12 62 := ⟨mX12_readStreet, tbm 1509 (by decide +kernel) rfl, tbm 40 (by decide +kernel) rfl, by decide +kernel, by decide, TX12, rfl⟩
theorem mX12_readLean : MOK uX12_readLean := ⟨by decide +kernel, rfl, tbm 1526 (by decide +kernel) rfl, tbm 114 (by decide +kernel) rfl, ⟨by decide +kernel, by decide +kernel⟩, Nat.le_of_ble_eq_true rfl⟩
theorem bX12_readLean : CVB uX12_readLean 0 12 62 := ⟨mX12_readLean, tbm 1525 (by decide +kernel) rfl, tbm 44 (by decide +kernel) rfl, by decide +kernel, by decide, TX12, rfl⟩
theorem mX12_readLeans : MOK uX12_readLeans := ⟨by decide +kernel, rfl, tbm 1522 (by decide +kernel) rfl, tbm 114 (by decide +kernel) rfl, ⟨by decide +kernel, by decide +kernel⟩, Nat.le_of_ble_eq_true rfl⟩
theorem bX12_readLeans : CVB uX12_readLeans 0 12 62 := ⟨mX12_readLeans, tbm 1521 (by decide +kernel) rfl, tbm 43 (by decide +kernel) rfl, by decide +kernel, by decide, TX12, rfl⟩
theorem mX12_isLineWord : MOK uX12_isLineWord := ⟨by decide +kernel, rfl, tbm 1534 (by decide +kernel) rfl, tbm 114 (by decide +kernel) rfl, ⟨by decide +kernel, by decide +kernel⟩, Nat.le_of_ble_eq_true rfl⟩
theorem bX12_isLineWord : CVB uX12_isLineWord 0 12 62 := ⟨mX12_isLineWord, tbm 1533 (by decide +kernel) rfl, tbm 46 (by decide +kernel) rfl, by decide +kernel, by decide, TX12, rfl⟩
theorem mX12_canAsk : MOK uX12_canAsk := ⟨by decide +kernel, rfl, tbm 1550 (by decide +kernel) rfl, tbm 114 (by decide +kernel) rfl, ⟨by decide +kernel, by decide +kernel⟩, Nat.le_of_ble_eq_true rfl⟩
theorem bX12_canAsk : CVB uX12_canAsk 1 12 62 := ⟨mX12_canAsk, tbm 1549 (by decide +kernel) rfl, tbm 50 (by decide +kernel) rfl, by decide +kernel, by decide, TX12, rfl⟩
theorem mX12_emits : MOK uX12_emits := ⟨by decide +kernel, rfl, tbm 1554 (by decide +kernel) rfl, tbm 114 (by decide +kernel) rfl, ⟨by decide +kernel, by decide +kernel⟩, Nat.le_of_ble_eq_true rfl⟩
theorem bX12_emits : CVB uX12_emits 2 12 62 := ⟨mX12_emits, tbm 1553 (by decide +kernel) rfl, tbm 51 (by decide +kernel) rfl, by decide +kernel, by decide, TX12, rfl⟩
theorem mX12_readUnit : MOK uX12_readUnit := ⟨by decide +kernel, rfl, tbm 1546 (by decide +kernel) rfl, tbm 114 (by decide +kernel) rfl, ⟨by decide +kernel, by decide +kernel⟩, Nat.le_of_ble_eq_true rfl⟩
theorem bX12_readUnit : CVB uX12_readUnit 0 12 62 := ⟨mX12_readUnit, tbm 1545 (by decide +kernel) rfl, tbm 49 (by decide +kernel) rfl, by decide +kernel, by decide, TX12, rfl⟩
theorem mX12_readProduct : MOK uX12_readProduct := ⟨by decide +kernel, rfl, tbm 1542 (by decide +kernel) rfl, tbm 114 (by decide +kernel) rfl, ⟨by decide +kernel, by decide +kernel⟩, Nat.le_of_ble_eq_true rfl⟩
theorem bX12_readProduct : CVB uX12_readProduct 0 12 62 := ⟨mX12_readProduct, tbm 1541 (by decide +kernel) rfl, tbm 48 (by decide +kernel) rfl, by decide +kernel, by decide, TX12, rfl⟩
theorem mX12_readSum : MOK uX12_readSum := ⟨by decide +kernel, rfl, tbm 1538 (by decide +kernel) rfl, tbm 114 (by decide +kernel) rfl, ⟨by decide +kernel, by decide +kernel⟩, Nat.le_of_ble_eq_true rfl⟩
theorem bX12_readSum : CVB uX12_readSum 0 12 62 := ⟨mX12_readSum, tbm 1537 (by decide +kernel) rfl, tbm 47 (by decide +kernel) rfl, by decide +kernel, by decide, TX12, rfl⟩
theorem mX12_waits : MOK uX12_waits := ⟨by decide +kernel, rfl, tbm 1562 (by decide +kernel) rfl, tbm 114 (by decide +kernel) rfl, ⟨by decide +kernel, by decide +kernel⟩, Nat.le_of_ble_eq_true rfl⟩
theorem bX12_waits : CVB uX12_waits 1 12 62 := ⟨mX12_waits, tbm 1561 (by decide +kernel) rfl, tbm 53 (by decide +kernel) rfl, by decide +kernel, by decide, TX12, rfl⟩
theorem mX12_readCompared : MOK uX12_readCompared := ⟨by decide +kernel, rfl, tbm 1566 (by decide +kernel) rfl, tbm 114 (by decide +kernel) rfl, ⟨by decide +kernel, by decide +kernel⟩, Nat.le_of_ble_eq_true rfl⟩
theorem bX12_readCompared : CVB uX12_readCompared 0 12 62 := ⟨mX12_readCompared, tbm 1565 (by decide +kernel) rfl, tbm 54 (by decide +kernel) rfl, by decide +kernel, by decide, TX12, rfl⟩
theorem mX12_settles : MOK uX12_settles := ⟨by decide +kernel, rfl, tbm 1570 (by decide +kernel) rfl, tbm 114 (by decide +kernel) rfl, ⟨by decide +kernel, by decide +kernel⟩, Nat.le_of_ble_eq_true rfl⟩
theorem bX12_settles : CVB uX12_settles 1 12 62 := ⟨mX12_settles, tbm 1569 (by decide +kernel) rfl, tbm 55 (by decide +kernel) rfl, by decide +kernel, by decide, TX12, rfl⟩
theorem mX12_readAny : MOK uX12_readAny := ⟨by decide +kernel, rfl, tbm 1558 (by decide +kernel) rfl, tbm 114 (by decide +kernel) rfl, ⟨by decide +kernel, by decide +kernel⟩, Nat.le_of_ble_eq_true rfl⟩
theorem bX12_readAny : CVB uX12_readAny 0 12 62 := ⟨mX12_readAny, tbm 1557 (by decide +kernel) rfl, tbm 52 (by decide +kernel) rfl, by decide +kernel, by decide, TX12, rfl⟩
theorem mX12_readLaw : MOK uX12_readLaw := ⟨by decide +kernel, rfl, tbm 1530 (by decide +kernel) rfl, tbm 114 (by decide +kernel) rfl, ⟨by decide +kernel, by decide +kernel⟩, Nat.le_of_ble_eq_true rfl⟩
theorem bX12_readLaw : CVB uX12_readLaw 0 12 62 := ⟨mX12_readLaw, tbm 1529 (by decide +kernel) rfl, tbm 45 (by decide +kernel) rfl, by decide +kernel, by decide, TX12, rfl⟩
theorem mX12_readsText : MOK uX12_readsText := ⟨by decide +kernel, rfl, tbm 1450 (by decide +kernel) rfl, tbm 114 (by decide +kernel) rfl, ⟨by decide +kernel, by decide +kernel⟩, Nat.le_of_ble_eq_true rfl⟩
theorem bX12_readsText : CVB uX12_readsText 1 12 62 := ⟨mX12_readsText, tbm 1449 (by decide +kernel) rfl, tbm 25 (by decide +kernel) rfl, by decide +kernel, by decide, TX12, rfl⟩
theorem mX12_takesLaw : MOK uX12_takesLaw := ⟨by decide +kernel, rfl, tbm 1574 (by decide +kernel) rfl, tbm 114 (by decide +kernel) rfl, ⟨by decide +kernel, by decide +kernel⟩, Nat.le_of_ble_eq_true rfl⟩
theorem bX12_takesLaw : CVB uX12_takesLaw 1 12 62 := ⟨mX12_takesLaw, tbm 1573 (by decide +kernel) rfl, tbm 56 (by decide +kernel) rfl, by decide +kernel, by decide, TX12, rfl⟩
theorem mX12_takesOther : MOK uX12_takesOther := ⟨by decide +kernel, rfl, tbm 1578 (by decide +kernel) rfl, tbm 114 (by decide +kernel) rfl, ⟨by decide +kernel, by decide +kernel⟩, Nat.le_of_ble_eq_true rfl⟩
theorem bX12_takesOther : CVB uX12_takesOther 2 12 62 := ⟨mX12_takesOther, tbm 1577 (by decide +kernel) rfl, tbm 57 (by decide +kernel) rfl, by decide +kernel, by decide, TX12, rfl⟩
theorem mX12_text : MOK uX12_text := ⟨by decide +kernel, rfl, tbm 1446 (by decide +kernel) rfl, tbm 114 (by decide +kernel) rfl, ⟨by decide +kernel, by decide +kernel⟩, Nat.le_of_ble_eq_true rfl⟩
theorem bX12_text : CVB uX12_text 1 12 62 := ⟨mX12_text, tbm 1444 (by decide +kernel) rfl, tbm 1445 (by decide +kernel) rfl, by decide +kernel, by decide, TX12, rfl⟩
theorem mX11_fault : MOK uX11_fault := ⟨by decide +kernel, rfl, tbm 931 (by decide +kernel) rfl, tbm 101 (by decide +kernel) rfl, ⟨by decide +kernel, by decide +kernel⟩, Nat.le_of_ble_eq_true rfl⟩
theorem bX11_fault : CVB uX11_fault 1 11 9 := ⟨mX11_fault, tbm 929 (by decide +kernel) rfl, tbm 930 (by decide +kernel) rfl, by decide +kernel, by decide, TX11, rfl⟩
theorem mX12_fault : MOK uX12_fault := ⟨by decide +kernel, rfl, tbm 1582 (by decide +kernel) rfl, tbm 114 (by decide +kernel) rfl, ⟨by decide +kernel, by decide +kernel⟩, Nat.le_of_ble_eq_true rfl⟩
theorem bX12_fault : CVB uX12_fault 1 12 62 := ⟨mX12_fault, tbm 1580 (by decide +kernel) rfl, tbm 1581 (by decide +kernel) rfl, by decide +kernel, by decide, TX12, rfl⟩
theorem mX9_bargainsOf : MOK uX9_bargainsOf := ⟨by decide +kernel, rfl, tbm 939 (by decide +kernel) rfl, tbm 103 (by decide +kernel) rfl, ⟨by decide +kernel, by decide +kernel⟩, Nat.le_of_ble_eq_true rfl⟩
theorem bX9_bargainsOf : CVB uX9_bargainsOf 1 9 15 := ⟨mX9_bargainsOf, tbm 937 (by decide +kernel) rfl, tbm 938 (by decide +kernel) rfl, by decide +kernel, by decide, TX9, rfl⟩
theorem mX0_heardBy : MOK uX0_heardBy := ⟨by decide +kernel, rfl, tbm 944 (by decide +kernel) rfl, tbm 102 (by decide +kernel) rfl, ⟨by decide +kernel, by decide +kernel⟩, Nat.le_of_ble_eq_true rfl⟩
theorem bX0_heardBy : CVB uX0_heardBy 1 0 7 := ⟨mX0_heardBy, tbm 942 (by decide +kernel) rfl, tbm 943 (by decide +kernel) rfl, by decide +kernel, by decide, TX0, rfl⟩
theorem mX11_of : MOK uX11_of := ⟨by decide +kernel, rfl, tbm 935 (by decide +kernel) rfl, tbm 101 (by decide +kernel) rfl, ⟨by decide +kernel, by decide +kernel⟩, Nat.le_of_ble_eq_true rfl⟩
theorem bX11_of : CVB uX11_of 2 11 9 := ⟨mX11_of, tbm 933 (by decide +kernel) rfl, tbm 934 (by decide +kernel) rfl, by decide +kernel, by decide, TX11, rfl⟩
theorem mX12_bargainsOf : MOK uX12_bargainsOf := ⟨by decide +kernel, rfl, tbm 1696 (by decide +kernel) rfl, tbm 114 (by decide +kernel) rfl, ⟨by decide +kernel, by decide +kernel⟩, Nat.le_of_ble_eq_true rfl⟩
theorem bX12_bargainsOf : CVB uX12_bargainsOf 1 12 62 := ⟨mX12_bargainsOf, tbm 1695 (by decide +kernel) rfl, tbm 82 (by decide +kernel) rfl, by decide +kernel, by decide, TX12, rfl⟩
theorem mX12_of : MOK uX12_of := ⟨by decide +kernel, rfl, tbm 1692 (by decide +kernel) rfl, tbm 114 (by decide +kernel) rfl, ⟨by decide +kernel, by decide +kernel⟩, Nat.le_of_ble_eq_true rfl⟩
theorem bX12_of : CVB uX12_of 2 12 62 := ⟨mX12_of, tbm 1690 (by decide +kernel) rfl, tbm 1691 (by decide +kernel) rfl, by decide +kernel, by decide, TX12, rfl⟩
theorem mX11_phraseTold : MOK uX11_phraseTold := ⟨by decide +kernel, rfl, tbm 956 (by decide +kernel) rfl, tbm 101 (by decide +kernel) rfl, ⟨by decide +kernel, by decide +kernel⟩, Nat.le_of_ble_eq_true rfl⟩
theorem bX11_phraseTold : CVB uX11_phraseTold 2 11 9 := ⟨mX11_phraseTold, tbm 955 (by decide +kernel) rfl, tbm 16 (by decide +kernel) rfl, by decide +kernel, by decide, TX11, rfl⟩
theorem mX11_deal : MOK uX11_deal := ⟨by decide +kernel, rfl, tbm 948 (by decide +kernel) rfl, tbm 101 (by decide +kernel) rfl, ⟨by decide +kernel, by decide +kernel⟩, Nat.le_of_ble_eq_true rfl⟩
theorem bX11_deal : CVB uX11_deal 2 11 9 := ⟨mX11_deal, tbm 946 (by decide +kernel) rfl, tbm 947 (by decide +kernel) rfl, by decide +kernel, by decide, TX11, rfl⟩
theorem mX12_deal : MOK uX12_deal := ⟨by decide +kernel, rfl, tbm 1700 (by decide +kernel) rfl, tbm 114 (by decide +kernel) rfl, ⟨by decide +kernel, by decide +kernel⟩, Nat.le_of_ble_eq_true rfl⟩
theorem bX12_deal : CVB uX12_deal 2 12 62 := ⟨mX12_deal, tbm 1698 (by decide +kernel) rfl, tbm 1699 (by decide +kernel) rfl, by decide +kernel, by decide, TX12, rfl⟩
theorem mX11_book : MOK uX11_book := ⟨by decide +kernel, rfl, tbm 960 (by decide +kernel) rfl, tbm 101 (by decide +kernel) rfl, ⟨by decide +kernel, by decide +kernel⟩, Nat.le_of_ble_eq_true rfl⟩
theorem bX11_book : CVB uX11_book 2 11 9 := ⟨mX11_book, tbm 958 (by decide +kernel) rfl, tbm 959 (by decide +kernel) rfl, by decide +kernel, by decide, TX11, rfl⟩
theorem mX12_book : MOK uX12_book := ⟨by decide +kernel, rfl, tbm 1704 (by decide +kernel) rfl, tbm 114 (by decide +kernel) rfl, ⟨by decide +kernel, by decide +kernel⟩, Nat.le_of_ble_eq_true rfl⟩
theorem bX12_book : CVB uX12_book 2 12 62 := ⟨mX12_book, tbm 1702 (by decide +kernel) rfl, tbm 1703 (by decide +kernel) rfl, by decide +kernel, by decide, TX12, rfl⟩
theorem mX9_thoseThatAre : MOK uX9_thoseThatAre := ⟨by decide +kernel, rfl, tbm 969 (by decide +kernel) rfl, tbm 103 (by decide +kernel) rfl, ⟨by decide +kernel, by decide +kernel⟩, Nat.le_of_ble_eq_true rfl⟩
theorem bX9_thoseThatAre : CVB uX9_thoseThatAre 1 9 15 := ⟨mX9_thoseThatAre, tbm 967 (by decide +kernel) rfl, tbm 968 (by decide +kernel) rfl, by decide +kernel, by decide, TX9, rfl⟩
theorem mX9_owesOfAll : MOK uX9_owesOfAll := ⟨by decide +kernel, rfl, tbm 973 (by decide +kernel) rfl, tbm 103 (by decide +kernel) rfl, ⟨by decide +kernel, by decide +kernel⟩, Nat.le_of_ble_eq_true rfl⟩
theorem bX9_owesOfAll : CVB uX9_owesOfAll 0 9 15 := ⟨mX9_owesOfAll, tbm 971 (by decide +kernel) rfl, tbm 972 (by decide +kernel) rfl, by decide +kernel, by decide, TX9, rfl⟩
theorem mX9_clearOfAll : MOK uX9_clearOfAll := ⟨by decide +kernel, rfl, tbm 977 (by decide +kernel) rfl, tbm 103 (by decide +kernel) rfl, ⟨by decide +kernel, by decide +kernel⟩, Nat.le_of_ble_eq_true rfl⟩
theorem bX9_clearOfAll : CVB uX9_clearOfAll 0 9 15 := ⟨mX9_clearOfAll, tbm 975 (by decide +kernel) rfl, tbm 976 (by decide +kernel) rfl, by decide +kernel, by decide, TX9, rfl⟩
theorem mX11_goes : MOK uX11_goes := ⟨by decide +kernel, rfl, tbm 964 (by decide +kernel) rfl, tbm 101 (by decide +kernel) rfl, ⟨by decide +kernel, by decide +kernel⟩, Nat.le_of_ble_eq_true rfl⟩
theorem bX11_goes : CVB uX11_goes 2 11 9 := ⟨mX11_goes, tbm 962 (by decide +kernel) rfl, tbm 963 (by decide +kernel) rfl, by decide +kernel, by decide, TX11, rfl⟩
theorem mX12_thinks : MOK uX12_thinks := ⟨by decide +kernel, rfl, tbm 1712 (by decide +kernel) rfl, tbm 114 (by decide +kernel) rfl, ⟨by decide +kernel, by decide +kernel⟩, Nat.le_of_ble_eq_true rfl⟩
theorem bX12_thinks : CVB uX12_thinks 0 12 62 := ⟨mX12_thinks, tbm 1711 (by decide +kernel) rfl, tbm 83 (by decide +kernel) rfl, by decide +kernel, by decide, TX12, rfl⟩
theorem mX12_setThatIs : MOK uX12_setThatIs := ⟨by decide +kernel, rfl, tbm 1716 (by decide +kernel) rfl, tbm 114 (by decide +kernel) rfl, ⟨by decide +kernel, by decide +kernel⟩, Nat.le_of_ble_eq_true rfl⟩
theorem bX12_setThatIs : CVB uX12_setThatIs 1 12 62 := ⟨mX12_setThatIs, tbm 1715 (by decide +kernel) rfl, tbm 84 (by decide +kernel) rfl, by decide +kernel, by decide, TX12, rfl⟩
theorem mX12_sumOf : MOK uX12_sumOf := ⟨by decide +kernel, rfl, tbm 1720 (by decide +kernel) rfl, tbm 114 (by decide +kernel) rfl, ⟨by decide +kernel, by decide +kernel⟩, Nat.le_of_ble_eq_true rfl⟩
theorem bX12_sumOf : CVB uX12_sumOf 2 12 62 := ⟨mX12_sumOf, tbm 1719 (by decide +kernel) rfl, tbm 85 (by decide +kernel) rfl, by decide +kernel, by decide, TX12, rfl⟩
theorem mX12_endsThought : MOK uX12_endsThought := ⟨by decide +kernel, rfl, tbm 1724 (by decide +kernel) rfl, tbm 114 (by decide +kernel) rfl, ⟨by decide +kernel, by decide +kernel⟩, Nat.le_of_ble_eq_true rfl⟩
theorem bX12_endsThought : CVB uX12_endsThought 0 12 62 := ⟨mX12_endsThought, tbm 1723 (by decide +kernel) rfl, tbm 86 (by decide +kernel) rfl, by decide +kernel, by decide, TX12, rfl⟩
theorem mX12_goes : MOK uX12_goes := ⟨by decide +kernel, rfl, tbm 1708 (by decide +kernel) rfl, tbm 114 (by decide +kernel) rfl, ⟨by decide +kernel, by decide +kernel⟩, Nat.le_of_ble_eq_true rfl⟩
theorem bX12_goes : CVB uX12_goes 2 12 62 := ⟨mX12_goes, tbm 1706 (by decide +kernel) rfl, tbm 1707 (by decide +kernel) rfl, by decide +kernel, by decide, TX12, rfl⟩
theorem mX11_holds : MOK uX11_holds := ⟨by decide +kernel, rfl, tbm 981 (by decide +kernel) rfl, tbm 101 (by decide +kernel) rfl, ⟨by decide +kernel, by decide +kernel⟩, Nat.le_of_ble_eq_true rfl⟩
theorem bX11_holds : CVB uX11_holds 1 11 9 := ⟨mX11_holds, tbm 979 (by decide +kernel) rfl, tbm 980 (by decide +kernel) rfl, by decide +kernel, by decide, TX11, rfl⟩
theorem mX12_holds : MOK uX12_holds := ⟨by decide +kernel, rfl, tbm 1728 (by decide +kernel) rfl, tbm 114 (by decide +kernel) rfl, ⟨by decide +kernel, by decide +kernel⟩, Nat.le_of_ble_eq_true rfl⟩
theorem bX12_holds : CVB uX12_holds 1 12 62 := ⟨mX12_holds, tbm 1726 (by decide +kernel) rfl, tbm 1727 (by decide +kernel) rfl, by decide +kernel, by decide, TX12, rfl⟩
theorem mX11_deals : MOK uX11_deals := ⟨by decide +kernel, rfl, tbm 985 (by decide +kernel) rfl, tbm 101 (by decide +kernel) rfl, ⟨by decide +kernel, by decide +kernel⟩, Nat.le_of_ble_eq_true rfl⟩
theorem bX11_deals : CVB uX11_deals 2 11 9 := ⟨mX11_deals, tbm 983 (by decide +kernel) rfl, tbm 984 (by decide +kernel) rfl, by decide +kernel, by decide, TX11, rfl⟩
theorem mX12_deals : MOK uX12_deals := ⟨by decide +kernel, rfl, tbm 1732 (by decide +kernel) rfl, tbm 114 (by decide +kernel) rfl, ⟨by decide +kernel, by decide +kernel⟩, Nat.le_of_ble_eq_true rfl⟩
theorem bX12_deals : CVB uX12_deals 2 12 62 := ⟨mX12_deals, tbm 1730 (by decide +kernel) rfl, tbm 1731 (by decide +kernel) rfl, by decide +kernel, by decide, TX12, rfl⟩
theorem mX7_has : MOK uX7_has := ⟨by decide +kernel, rfl, tbm 998 (by decide +kernel) rfl, tbm 108 (by decide +kernel) rfl, ⟨by decide +kernel, by decide +kernel⟩, Nat.le_of_ble_eq_true rfl⟩
theorem bX7_has : CVB uX7_has 1 7 5 := ⟨mX7_has, tbm 996 (by decide +kernel) rfl, tbm 997 (by decide +kernel) rfl, by decide +kernel, by decide, TX7, rfl⟩
theorem mX7_tell : MOK uX7_tell := ⟨by decide +kernel, rfl, tbm 993 (by decide +kernel) rfl, tbm 108 (by decide +kernel) rfl, ⟨by decide +kernel, by decide +kernel⟩, Nat.le_of_ble_eq_true rfl⟩
theorem bX7_tell : CVB uX7_tell 1 7 5 := ⟨mX7_tell, tbm 991 (by decide +kernel) rfl, tbm 992 (by decide +kernel) rfl, by decide +kernel, by decide, TX7, rfl⟩
theorem mX11_jump : MOK uX11_jump := ⟨by decide +kernel, rfl, tbm 989 (by decide +kernel) rfl, tbm 101 (by decide +kernel) rfl, ⟨by decide +kernel, by decide +kernel⟩, Nat.le_of_ble_eq_true rfl⟩
theorem bX11_jump : CVB uX11_jump 1 11 9 := ⟨mX11_jump, tbm 987 (by decide +kernel) rfl, tbm 988 (by decide +kernel) rfl, by decide +kernel, by decide, TX11, rfl⟩
theorem mX12_jump : MOK uX12_jump := ⟨by decide +kernel, rfl, tbm 1736 (by decide +kernel) rfl, tbm 114 (by decide +kernel) rfl, ⟨by decide +kernel, by decide +kernel⟩, Nat.le_of_ble_eq_true rfl⟩
theorem bX12_jump : CVB uX12_jump 1 12 62 := ⟨mX12_jump, tbm 1734 (by decide +kernel) rfl, tbm 1735 (by decide +kernel) rfl, by decide +kernel, by decide, TX12, rfl⟩
theorem mX10_fewestJumps : MOK uX10_fewestJumps := ⟨by decide +kernel, rfl, tbm 1006 (by decide +kernel) rfl, tbm 107 (by decide +kernel) rfl, ⟨by decide +kernel, by decide +kernel⟩, Nat.le_of_ble_eq_true rfl⟩
theorem bX10_fewestJumps : CVB uX10_fewestJumps 0 10 8 := ⟨mX10_fewestJumps, tbm 1004 (by decide +kernel) rfl, tbm 1005 (by decide +kernel) rfl, by decide +kernel, by decide, TX10, rfl⟩
theorem mX10_furthestPlace : MOK uX10_furthestPlace := ⟨by decide +kernel, rfl, tbm 1011 (by decide +kernel) rfl, tbm 107 (by decide +kernel) rfl, ⟨by decide +kernel, by decide +kernel⟩, Nat.le_of_ble_eq_true rfl⟩
theorem bX10_furthestPlace : CVB uX10_furthestPlace 0 10 8 := ⟨mX10_furthestPlace, tbm 1009 (by decide +kernel) rfl, tbm 1010 (by decide +kernel) rfl, by decide +kernel, by decide, TX10, rfl⟩
theorem mX11_jumps : MOK uX11_jumps := ⟨by decide +kernel, rfl, tbm 1002 (by decide +kernel) rfl, tbm 101 (by decide +kernel) rfl, ⟨by decide +kernel, by decide +kernel⟩, Nat.le_of_ble_eq_true rfl⟩
theorem bX11_jumps : CVB uX11_jumps 1 11 9 := ⟨mX11_jumps, tbm 1000 (by decide +kernel) rfl, tbm 1001 (by decide +kernel) rfl, by decide +kernel, by decide, TX11, rfl⟩
theorem mX12_lesser : MOK uX12_lesser := ⟨by decide +kernel, rfl, tbm 1745 (by decide +kernel) rfl, tbm 114 (by decide +kernel) rfl, ⟨by decide +kernel, by decide +kernel⟩, Nat.le_of_ble_eq_true rfl⟩
theorem bX12_lesser : CVB uX12_lesser 2 12 62 := ⟨mX12_lesser, tbm 1744 (by decide +kernel) rfl, tbm 87 (by decide +kernel) rfl, by decide +kernel, by decide, TX12, rfl⟩
theorem mX12_jumps : MOK uX12_jumps := ⟨by decide +kernel, rfl, tbm 1740 (by decide +kernel) rfl, tbm 114 (by decide +kernel) rfl, ⟨by decide +kernel, by decide +kernel⟩, Nat.le_of_ble_eq_true rfl⟩
theorem bX12_jumps : CVB uX12_jumps 1 12 62 := ⟨mX12_jumps, tbm 1738 (by decide +kernel) rfl, tbm 1739 (by decide +kernel) rfl, by decide +kernel, by decide, TX12, rfl⟩
theorem mX5_walksFrom : MOK uX5_walksFrom := ⟨by decide +kernel, rfl, tbm 1023 (by decide +kernel) rfl, tbm 113 (by decide +kernel) rfl, ⟨by decide +kernel, by decide +kernel⟩, Nat.le_of_ble_eq_true rfl⟩
theorem bX5_walksFrom : CSB uX5_walksFrom 4 := ⟨mX5_walksFrom, tbm 1022 (by decide +kernel) rfl, by decide +kernel⟩
theorem mX5_walksTo : MOK uX5_walksTo := ⟨by decide +kernel, rfl, tbm 1020 (by decide +kernel) rfl, tbm 113 (by decide +kernel) rfl, ⟨by decide +kernel, by decide +kernel⟩, Nat.le_of_ble_eq_true rfl⟩
theorem bX5_walksTo : CVB uX5_walksTo 2 5 2 := ⟨mX5_walksTo, tbm 1018 (by decide +kernel) rfl, tbm 1019 (by decide +kernel) rfl, by decide +kernel, by decide, TX5, rfl⟩
theorem mX11_walks : MOK uX11_walks := ⟨by decide +kernel, rfl, tbm 1016 (by decide +kernel) rfl, tbm 101 (by decide +kernel) rfl, ⟨by decide +kernel, by decide +kernel⟩, Nat.le_of_ble_eq_true rfl⟩
theorem bX11_walks : CVB uX11_walks 3 11 9 := ⟨mX11_walks, tbm 1014 (by decide +kernel) rfl, tbm 1015 (by decide +kernel) rfl, by decide +kernel, by decide, TX11, rfl⟩
theorem mX12_walkEnds : MOK uX12_walkEnds := ⟨by decide +kernel, rfl, tbm 1753 (by decide +kernel) rfl, tbm 114 (by decide +kernel) rfl, ⟨by decide +kernel, by decide +kernel⟩, Nat.le_of_ble_eq_true rfl⟩
theorem bX12_walkEnds : CVB uX12_walkEnds 2 12 62 := ⟨mX12_walkEnds, tbm 1752 (by decide +kernel) rfl, tbm 88 (by decide +kernel) rfl, by decide +kernel, by decide, TX12, rfl⟩
theorem mX12_walks : MOK uX12_walks := ⟨by decide +kernel, rfl, tbm 1749 (by decide +kernel) rfl, tbm 114 (by decide +kernel) rfl, ⟨by decide +kernel, by decide +kernel⟩, Nat.le_of_ble_eq_true rfl⟩
theorem bX12_walks : CVB uX12_walks 3 12 62 := ⟨mX12_walks, tbm 1747 (by decide +kernel) rfl, tbm 1748 (by decide +kernel) rfl, by decide +kernel, by decide, TX12, rfl⟩
theorem mX5_leastApart : MOK uX5_leastApart := ⟨by decide +kernel, rfl, tbm 1030 (by decide +kernel) rfl, tbm 113 (by decide +kernel) rfl, ⟨by decide +kernel, by decide +kernel⟩, Nat.le_of_ble_eq_true rfl⟩
theorem bX5_leastApart : CSB uX5_leastApart 2 := ⟨mX5_leastApart, tbm 1029 (by decide +kernel) rfl, by decide +kernel⟩
theorem mX11_apart : MOK uX11_apart := ⟨by decide +kernel, rfl, tbm 1027 (by decide +kernel) rfl, tbm 101 (by decide +kernel) rfl, ⟨by decide +kernel, by decide +kernel⟩, Nat.le_of_ble_eq_true rfl⟩
theorem bX11_apart : CVB uX11_apart 2 11 9 := ⟨mX11_apart, tbm 1025 (by decide +kernel) rfl, tbm 1026 (by decide +kernel) rfl, by decide +kernel, by decide, TX11, rfl⟩
theorem mX12_apart : MOK uX12_apart := ⟨by decide +kernel, rfl, tbm 1757 (by decide +kernel) rfl, tbm 114 (by decide +kernel) rfl, ⟨by decide +kernel, by decide +kernel⟩, Nat.le_of_ble_eq_true rfl⟩
theorem bX12_apart : CVB uX12_apart 2 12 62 := ⟨mX12_apart, tbm 1755 (by decide +kernel) rfl, tbm 1756 (by decide +kernel) rfl, by decide +kernel, by decide, TX12, rfl⟩
theorem mX5_cornersUpTo : MOK uX5_cornersUpTo := ⟨by decide +kernel, rfl, tbm 1037 (by decide +kernel) rfl, tbm 113 (by decide +kernel) rfl, ⟨by decide +kernel, by decide +kernel⟩, Nat.le_of_ble_eq_true rfl⟩
theorem bX5_cornersUpTo : CSB uX5_cornersUpTo 1 := ⟨mX5_cornersUpTo, tbm 1036 (by decide +kernel) rfl, by decide +kernel⟩
theorem mX5_cornersAround : MOK uX5_cornersAround := ⟨by decide +kernel, rfl, tbm 1040 (by decide +kernel) rfl, tbm 113 (by decide +kernel) rfl, ⟨by decide +kernel, by decide +kernel⟩, Nat.le_of_ble_eq_true rfl⟩
theorem bX5_cornersAround : CSB uX5_cornersAround 1 := ⟨mX5_cornersAround, tbm 1039 (by decide +kernel) rfl, by decide +kernel⟩
theorem mX11_corners : MOK uX11_corners := ⟨by decide +kernel, rfl, tbm 1034 (by decide +kernel) rfl, tbm 101 (by decide +kernel) rfl, ⟨by decide +kernel, by decide +kernel⟩, Nat.le_of_ble_eq_true rfl⟩
theorem bX11_corners : CVB uX11_corners 2 11 9 := ⟨mX11_corners, tbm 1032 (by decide +kernel) rfl, tbm 1033 (by decide +kernel) rfl, by decide +kernel, by decide, TX11, rfl⟩
theorem mX12_corners : MOK uX12_corners := ⟨by decide +kernel, rfl, tbm 1761 (by decide +kernel) rfl, tbm 114 (by decide +kernel) rfl, ⟨by decide +kernel, by decide +kernel⟩, Nat.le_of_ble_eq_true rfl⟩
theorem bX12_corners : CVB uX12_corners 2 12 62 := ⟨mX12_corners, tbm 1759 (by decide +kernel) rfl, tbm 1760 (by decide +kernel) rfl, by decide +kernel, by decide, TX12, rfl⟩
theorem mX5_sumOfParts : MOK uX5_sumOfParts := ⟨by decide +kernel, rfl, tbm 1051 (by decide +kernel) rfl, tbm 113 (by decide +kernel) rfl, ⟨by decide +kernel, by decide +kernel⟩, Nat.le_of_ble_eq_true rfl⟩
theorem bX5_sumOfParts : CSB uX5_sumOfParts 1 := ⟨mX5_sumOfParts, tbm 1050 (by decide +kernel) rfl, by decide +kernel⟩
theorem mX5_chainOfParts : MOK uX5_chainOfParts := ⟨by decide +kernel, rfl, tbm 1048 (by decide +kernel) rfl, tbm 113 (by decide +kernel) rfl, ⟨by decide +kernel, by decide +kernel⟩, Nat.le_of_ble_eq_true rfl⟩
theorem bX5_chainOfParts : CVB uX5_chainOfParts 2 5 2 := ⟨mX5_chainOfParts, tbm 1046 (by decide +kernel) rfl, tbm 1047 (by decide +kernel) rfl, by decide +kernel, by decide, TX5, rfl⟩
theorem mX11_parts : MOK uX11_parts := ⟨by decide +kernel, rfl, tbm 1044 (by decide +kernel) rfl, tbm 101 (by decide +kernel) rfl, ⟨by decide +kernel, by decide +kernel⟩, Nat.le_of_ble_eq_true rfl⟩
theorem bX11_parts : CVB uX11_parts 2 11 9 := ⟨mX11_parts, tbm 1042 (by decide +kernel) rfl, tbm 1043 (by decide +kernel) rfl, by decide +kernel, by decide, TX11, rfl⟩
theorem mX12_partsTogether : MOK uX12_partsTogether := ⟨by decide +kernel, rfl, tbm 1769 (by decide +kernel) rfl, tbm 114 (by decide +kernel) rfl, ⟨by decide +kernel, by decide +kernel⟩, Nat.le_of_ble_eq_true rfl⟩
theorem bX12_partsTogether : CVB uX12_partsTogether 1 12 62 := ⟨mX12_partsTogether, tbm 1768 (by decide +kernel) rfl, tbm 89 (by decide +kernel) rfl, by decide +kernel, by decide, TX12, rfl⟩
theorem mX12_parts : MOK uX12_parts := ⟨by decide +kernel, rfl, tbm 1765 (by decide +kernel) rfl, tbm 114 (by decide +kernel) rfl, ⟨by decide +kernel, by decide +kernel⟩, Nat.le_of_ble_eq_true rfl⟩
theorem bX12_parts : CVB uX12_parts 2 12 62 := ⟨mX12_parts, tbm 1763 (by decide +kernel) rfl, tbm 1764 (by decide +kernel) rfl, by decide +kernel, by decide, TX12, rfl⟩
theorem mX5_ofDigits : MOK uX5_ofDigits := ⟨by decide +kernel, rfl, tbm 1062 (by decide +kernel) rfl, tbm 113 (by decide +kernel) rfl, ⟨by decide +kernel, by decide +kernel⟩, Nat.le_of_ble_eq_true rfl⟩
theorem bX5_ofDigits : CSB uX5_ofDigits 2 := ⟨mX5_ofDigits, tbm 1061 (by decide +kernel) rfl, by decide +kernel⟩
theorem mX5_lasting : MOK uX5_lasting := ⟨by decide +kernel, rfl, tbm 1059 (by decide +kernel) rfl, tbm 113 (by decide +kernel) rfl, ⟨by decide +kernel, by decide +kernel⟩, Nat.le_of_ble_eq_true rfl⟩
theorem bX5_lasting : CSB uX5_lasting 3 := ⟨mX5_lasting, tbm 1058 (by decide +kernel) rfl, by decide +kernel⟩
theorem mX11_lasts : MOK uX11_lasts := ⟨by decide +kernel, rfl, tbm 1055 (by decide +kernel) rfl, tbm 101 (by decide +kernel) rfl, ⟨by decide +kernel, by decide +kernel⟩, Nat.le_of_ble_eq_true rfl⟩
theorem bX11_lasts : CVB uX11_lasts 2 11 9 := ⟨mX11_lasts, tbm 1053 (by decide +kernel) rfl, tbm 1054 (by decide +kernel) rfl, by decide +kernel, by decide, TX11, rfl⟩
theorem mX12_digitsOf : MOK uX12_digitsOf := ⟨by decide +kernel, rfl, tbm 1778 (by decide +kernel) rfl, tbm 114 (by decide +kernel) rfl, ⟨by decide +kernel, by decide +kernel⟩, Nat.le_of_ble_eq_true rfl⟩
theorem bX12_digitsOf : CVB uX12_digitsOf 2 12 62 := ⟨mX12_digitsOf, tbm 1777 (by decide +kernel) rfl, tbm 90 (by decide +kernel) rfl, by decide +kernel, by decide, TX12, rfl⟩
theorem mX12_lasts : MOK uX12_lasts := ⟨by decide +kernel, rfl, tbm 1773 (by decide +kernel) rfl, tbm 114 (by decide +kernel) rfl, ⟨by decide +kernel, by decide +kernel⟩, Nat.le_of_ble_eq_true rfl⟩
theorem bX12_lasts : CVB uX12_lasts 2 12 62 := ⟨mX12_lasts, tbm 1771 (by decide +kernel) rfl, tbm 1772 (by decide +kernel) rfl, by decide +kernel, by decide, TX12, rfl⟩
theorem mX11_turn : MOK uX11_turn := ⟨by decide +kernel, rfl, tbm 1066 (by decide +kernel) rfl, tbm 101 (by decide +kernel) rfl, ⟨by decide +kernel, by decide +kernel⟩, Nat.le_of_ble_eq_true rfl⟩
theorem bX11_turn : CVB uX11_turn 1 11 9 := ⟨mX11_turn, tbm 1064 (by decide +kernel) rfl, tbm 1065 (by decide +kernel) rfl, by decide +kernel, by decide, TX11, rfl⟩
theorem mX12_turn : MOK uX12_turn := ⟨by decide +kernel, rfl, tbm 1782 (by decide +kernel) rfl, tbm 114 (by decide +kernel) rfl, ⟨by decide +kernel, by decide +kernel⟩, Nat.le_of_ble_eq_true rfl⟩
theorem bX12_turn : CVB uX12_turn 1 12 62 := ⟨mX12_turn, tbm 1780 (by decide +kernel) rfl, tbm 1781 (by decide +kernel) rfl, by decide +kernel, by decide, TX12, rfl⟩
theorem mX10_stand : MOK uX10_stand := ⟨by decide +kernel, rfl, tbm 1078 (by decide +kernel) rfl, tbm 107 (by decide +kernel) rfl, ⟨by decide +kernel, by decide +kernel⟩, Nat.le_of_ble_eq_true rfl⟩
theorem bX10_stand : CVB uX10_stand 3 10 8 := ⟨mX10_stand, tbm 1077 (by decide +kernel) rfl, tbm 17 (by decide +kernel) rfl, by decide +kernel, by decide, TX10, rfl⟩
theorem mX10_turned : MOK uX10_turned := ⟨by decide +kernel, rfl, tbm 1074 (by decide +kernel) rfl, tbm 107 (by decide +kernel) rfl, ⟨by decide +kernel, by decide +kernel⟩, Nat.le_of_ble_eq_true rfl⟩
theorem bX10_turned : CVB uX10_turned 1 10 8 := ⟨mX10_turned, tbm 1072 (by decide +kernel) rfl, tbm 1073 (by decide +kernel) rfl, by decide +kernel, by decide, TX10, rfl⟩
theorem mX11_turning : MOK uX11_turning := ⟨by decide +kernel, rfl, tbm 1070 (by decide +kernel) rfl, tbm 101 (by decide +kernel) rfl, ⟨by decide +kernel, by decide +kernel⟩, Nat.le_of_ble_eq_true rfl⟩
theorem bX11_turning : CVB uX11_turning 1 11 9 := ⟨mX11_turning, tbm 1068 (by decide +kernel) rfl, tbm 1069 (by decide +kernel) rfl, by decide +kernel, by decide, TX11, rfl⟩
theorem mX12_turning : MOK uX12_turning := ⟨by decide +kernel, rfl, tbm 1786 (by decide +kernel) rfl, tbm 114 (by decide +kernel) rfl, ⟨by decide +kernel, by decide +kernel⟩, Nat.le_of_ble_eq_true rfl⟩
theorem bX12_turning : CVB uX12_turning 1 12 62 := ⟨mX12_turning, tbm 1784 (by decide +kernel) rfl, tbm 1785 (by decide +kernel) rfl, by decide +kernel, by decide, TX12, rfl⟩
theorem mJ13_bitCount_95d88 : MOK uJ13_bitCount_95d88 := ⟨by decide +kernel, rfl, tbm 1088 (by decide +kernel) rfl, tbm 121 (by decide +kernel) rfl, ⟨by decide +kernel, by decide +kernel⟩, Nat.le_of_ble_eq_true rfl⟩
theorem bJ13_bitCount_95d88 : CSB uJ13_bitCount_95d88 1 := ⟨mJ13_bitCount_95d88, tbm 1087 (by decide +kernel) rfl, by decide +kernel⟩
theorem mX5_antWalk : MOK uX5_antWalk := ⟨by decide +kernel, rfl, tbm 1085 (by decide +kernel) rfl, tbm 113 (by decide +kernel) rfl, ⟨by decide +kernel, by decide +kernel⟩, Nat.le_of_ble_eq_true rfl⟩
theorem bX5_antWalk : CSB uX5_antWalk 2 := ⟨mX5_antWalk, tbm 1084 (by decide +kernel) rfl, by decide +kernel⟩
theorem mX11_ant : MOK uX11_ant := ⟨by decide +kernel, rfl, tbm 1082 (by decide +kernel) rfl, tbm 101 (by decide +kernel) rfl, ⟨by decide +kernel, by decide +kernel⟩, Nat.le_of_ble_eq_true rfl⟩
theorem bX11_ant : CVB uX11_ant 2 11 9 := ⟨mX11_ant, tbm 1080 (by decide +kernel) rfl, tbm 1081 (by decide +kernel) rfl, by decide +kernel, by decide, TX11, rfl⟩
theorem mX12_ant : MOK uX12_ant := ⟨by decide +kernel, rfl, tbm 1790 (by decide +kernel) rfl, tbm 114 (by decide +kernel) rfl, ⟨by decide +kernel, by decide +kernel⟩, Nat.le_of_ble_eq_true rfl⟩
theorem bX12_ant : CVB uX12_ant 2 12 62 := ⟨mX12_ant, tbm 1788 (by decide +kernel) rfl, tbm 1789 (by decide +kernel) rfl, by decide +kernel, by decide, TX12, rfl⟩
theorem mX5_nextRow : MOK uX5_nextRow := ⟨by decide +kernel, rfl, tbm 1099 (by decide +kernel) rfl, tbm 113 (by decide +kernel) rfl, ⟨by decide +kernel, by decide +kernel⟩, Nat.le_of_ble_eq_true rfl⟩
theorem bX5_nextRow : CSB uX5_nextRow 2 := ⟨mX5_nextRow, tbm 1098 (by decide +kernel) rfl, by decide +kernel⟩
theorem mX11_row : MOK uX11_row := ⟨by decide +kernel, rfl, tbm 1095 (by decide +kernel) rfl, tbm 101 (by decide +kernel) rfl, ⟨by decide +kernel, by decide +kernel⟩, Nat.le_of_ble_eq_true rfl⟩
theorem bX11_row : CVB uX11_row 3 11 9 := ⟨mX11_row, tbm 1093 (by decide +kernel) rfl, tbm 1094 (by decide +kernel) rfl, by decide +kernel, by decide, TX11, rfl⟩
theorem mX12_row : MOK uX12_row := ⟨by decide +kernel, rfl, tbm 1794 (by decide +kernel) rfl, tbm 114 (by decide +kernel) rfl, ⟨by decide +kernel, by decide +kernel⟩, Nat.le_of_ble_eq_true rfl⟩
theorem bX12_row : CVB uX12_row 3 12 62 := ⟨mX12_row, tbm 1792 (by decide +kernel) rfl, tbm 1793 (by decide +kernel) rfl, by decide +kernel, by decide, TX12, rfl⟩
theorem mX5_ownDifference : MOK uX5_ownDifference := ⟨by decide +kernel, rfl, tbm 1110 (by decide +kernel) rfl, tbm 113 (by decide +kernel) rfl, ⟨by decide +kernel, by decide +kernel⟩, Nat.le_of_ble_eq_true rfl⟩
theorem bX5_ownDifference : CSB uX5_ownDifference 1 := ⟨mX5_ownDifference, tbm 1109 (by decide +kernel) rfl, by decide +kernel⟩
theorem mX5_ownDifferences : MOK uX5_ownDifferences := ⟨by decide +kernel, rfl, tbm 1106 (by decide +kernel) rfl, tbm 113 (by decide +kernel) rfl, ⟨by decide +kernel, by decide +kernel⟩, Nat.le_of_ble_eq_true rfl⟩
theorem bX5_ownDifferences : CSB uX5_ownDifferences 2 := ⟨mX5_ownDifferences, tbm 1105 (by decide +kernel) rfl, by decide +kernel⟩
theorem mX11_own : MOK uX11_own := ⟨by decide +kernel, rfl, tbm 1103 (by decide +kernel) rfl, tbm 101 (by decide +kernel) rfl, ⟨by decide +kernel, by decide +kernel⟩, Nat.le_of_ble_eq_true rfl⟩
theorem bX11_own : CVB uX11_own 2 11 9 := ⟨mX11_own, tbm 1101 (by decide +kernel) rfl, tbm 1102 (by decide +kernel) rfl, by decide +kernel, by decide, TX11, rfl⟩
theorem mX12_ownOf : MOK uX12_ownOf := ⟨by decide +kernel, rfl, tbm 1803 (by decide +kernel) rfl, tbm 114 (by decide +kernel) rfl, ⟨by decide +kernel, by decide +kernel⟩, Nat.le_of_ble_eq_true rfl⟩
theorem bX12_ownOf : CVB uX12_ownOf 1 12 62 := ⟨mX12_ownOf, tbm 1802 (by decide +kernel) rfl, tbm 91 (by decide +kernel) rfl, by decide +kernel, by decide, TX12, rfl⟩
theorem mX12_own : MOK uX12_own := ⟨by decide +kernel, rfl, tbm 1799 (by decide +kernel) rfl, tbm 114 (by decide +kernel) rfl, ⟨by decide +kernel, by decide +kernel⟩, Nat.le_of_ble_eq_true rfl⟩
theorem bX12_own : CVB uX12_own 2 12 62 := ⟨mX12_own, tbm 1797 (by decide +kernel) rfl, tbm 1798 (by decide +kernel) rfl, by decide +kernel, by decide, TX12, rfl⟩
theorem mX5_shifted : MOK uX5_shifted := ⟨by decide +kernel, rfl, tbm 1120 (by decide +kernel) rfl, tbm 113 (by decide +kernel) rfl, ⟨by decide +kernel, by decide +kernel⟩, Nat.le_of_ble_eq_true rfl⟩
theorem bX5_shifted : CSB uX5_shifted 4 := ⟨mX5_shifted, tbm 1119 (by decide +kernel) rfl, by decide +kernel⟩
theorem mX5_timesRound : MOK uX5_timesRound := ⟨by decide +kernel, rfl, tbm 1117 (by decide +kernel) rfl, tbm 113 (by decide +kernel) rfl, ⟨by decide +kernel, by decide +kernel⟩, Nat.le_of_ble_eq_true rfl⟩
theorem bX5_timesRound : CSB uX5_timesRound 3 := ⟨mX5_timesRound, tbm 1116 (by decide +kernel) rfl, by decide +kernel⟩
theorem mX11_round : MOK uX11_round := ⟨by decide +kernel, rfl, tbm 1114 (by decide +kernel) rfl, tbm 101 (by decide +kernel) rfl, ⟨by decide +kernel, by decide +kernel⟩, Nat.le_of_ble_eq_true rfl⟩
theorem bX11_round : CVB uX11_round 4 11 9 := ⟨mX11_round, tbm 1112 (by decide +kernel) rfl, tbm 1113 (by decide +kernel) rfl, by decide +kernel, by decide, TX11, rfl⟩
theorem mX12_roundOf : MOK uX12_roundOf := ⟨by decide +kernel, rfl, tbm 1811 (by decide +kernel) rfl, tbm 114 (by decide +kernel) rfl, ⟨by decide +kernel, by decide +kernel⟩, Nat.le_of_ble_eq_true rfl⟩
theorem bX12_roundOf : CVB uX12_roundOf 3 12 62 := ⟨mX12_roundOf, tbm 1810 (by decide +kernel) rfl, tbm 92 (by decide +kernel) rfl, by decide +kernel, by decide, TX12, rfl⟩
theorem mX12_round : MOK uX12_round := ⟨by decide +kernel, rfl, tbm 1807 (by decide +kernel) rfl, tbm 114 (by decide +kernel) rfl, ⟨by decide +kernel, by decide +kernel⟩, Nat.le_of_ble_eq_true rfl⟩
theorem bX12_round : CVB uX12_round 4 12 62 := ⟨mX12_round, tbm 1805 (by decide +kernel) rfl, tbm 1806 (by decide +kernel) rfl, by decide +kernel, by decide, TX12, rfl⟩
theorem mX11_nine : MOK uX11_nine := ⟨by decide +kernel, rfl, tbm 1126 (by decide +kernel) rfl, tbm 101 (by decide +kernel) rfl, ⟨by decide +kernel, by decide +kernel⟩, Nat.le_of_ble_eq_true rfl⟩
theorem bX11_nine : CVB uX11_nine 2 11 9 := ⟨mX11_nine, tbm 1124 (by decide +kernel) rfl, tbm 1125 (by decide +kernel) rfl, by decide +kernel, by decide, TX11, rfl⟩
theorem mX12_nine : MOK uX12_nine := ⟨by decide +kernel, rfl, tbm 1815 (by decide +kernel) rfl, tbm 114 (by decide +kernel) rfl, ⟨by decide +kernel, by decide +kernel⟩, Nat.le_of_ble_eq_true rfl⟩
theorem bX12_nine : CVB uX12_nine 2 12 62 := ⟨mX12_nine, tbm 1813 (by decide +kernel) rfl, tbm 1814 (by decide +kernel) rfl, by decide +kernel, by decide, TX12, rfl⟩
theorem mX10_sumOf : MOK uX10_sumOf := ⟨by decide +kernel, rfl, tbm 1138 (by decide +kernel) rfl, tbm 107 (by decide +kernel) rfl, ⟨by decide +kernel, by decide +kernel⟩, Nat.le_of_ble_eq_true rfl⟩
theorem bX10_sumOf : CVB uX10_sumOf 1 10 8 := ⟨mX10_sumOf, tbm 1137 (by decide +kernel) rfl, tbm 18 (by decide +kernel) rfl, by decide +kernel, by decide, TX10, rfl⟩
theorem mX10_linesOfSum : MOK uX10_linesOfSum := ⟨by decide +kernel, rfl, tbm 1144 (by decide +kernel) rfl, tbm 107 (by decide +kernel) rfl, ⟨by decide +kernel, by decide +kernel⟩, Nat.le_of_ble_eq_true rfl⟩
theorem bX10_linesOfSum : CVB uX10_linesOfSum 1 10 8 := ⟨mX10_linesOfSum, tbm 1142 (by decide +kernel) rfl, tbm 1143 (by decide +kernel) rfl, by decide +kernel, by decide, TX10, rfl⟩
theorem mX10_waysToEven : MOK uX10_waysToEven := ⟨by decide +kernel, rfl, tbm 1134 (by decide +kernel) rfl, tbm 107 (by decide +kernel) rfl, ⟨by decide +kernel, by decide +kernel⟩, Nat.le_of_ble_eq_true rfl⟩
theorem bX10_waysToEven : CVB uX10_waysToEven 0 10 8 := ⟨mX10_waysToEven, tbm 1132 (by decide +kernel) rfl, tbm 1133 (by decide +kernel) rfl, by decide +kernel, by decide, TX10, rfl⟩
theorem mX11_even : MOK uX11_even := ⟨by decide +kernel, rfl, tbm 1130 (by decide +kernel) rfl, tbm 101 (by decide +kernel) rfl, ⟨by decide +kernel, by decide +kernel⟩, Nat.le_of_ble_eq_true rfl⟩
theorem bX11_even : CVB uX11_even 1 11 9 := ⟨mX11_even, tbm 1128 (by decide +kernel) rfl, tbm 1129 (by decide +kernel) rfl, by decide +kernel, by decide, TX11, rfl⟩
theorem mX12_lineSum : MOK uX12_lineSum := ⟨by decide +kernel, rfl, tbm 1827 (by decide +kernel) rfl, tbm 114 (by decide +kernel) rfl, ⟨by decide +kernel, by decide +kernel⟩, Nat.le_of_ble_eq_true rfl⟩
theorem bX12_lineSum : CVB uX12_lineSum 1 12 62 := ⟨mX12_lineSum, tbm 1826 (by decide +kernel) rfl, tbm 94 (by decide +kernel) rfl, by decide +kernel, by decide, TX12, rfl⟩
theorem mX12_linesThatCome : MOK uX12_linesThatCome := ⟨by decide +kernel, rfl, tbm 1823 (by decide +kernel) rfl, tbm 114 (by decide +kernel) rfl, ⟨by decide +kernel, by decide +kernel⟩, Nat.le_of_ble_eq_true rfl⟩
theorem bX12_linesThatCome : CVB uX12_linesThatCome 1 12 62 := ⟨mX12_linesThatCome, tbm 1822 (by decide +kernel) rfl, tbm 93 (by decide +kernel) rfl, by decide +kernel, by decide, TX12, rfl⟩
theorem mX12_even : MOK uX12_even := ⟨by decide +kernel, rfl, tbm 1819 (by decide +kernel) rfl, tbm 114 (by decide +kernel) rfl, ⟨by decide +kernel, by decide +kernel⟩, Nat.le_of_ble_eq_true rfl⟩
theorem bX12_even : CVB uX12_even 1 12 62 := ⟨mX12_even, tbm 1817 (by decide +kernel) rfl, tbm 1818 (by decide +kernel) rfl, by decide +kernel, by decide, TX12, rfl⟩
theorem mX11_rule : MOK uX11_rule := ⟨by decide +kernel, rfl, tbm 1149 (by decide +kernel) rfl, tbm 101 (by decide +kernel) rfl, ⟨by decide +kernel, by decide +kernel⟩, Nat.le_of_ble_eq_true rfl⟩
theorem bX11_rule : CVB uX11_rule 2 11 9 := ⟨mX11_rule, tbm 1147 (by decide +kernel) rfl, tbm 1148 (by decide +kernel) rfl, by decide +kernel, by decide, TX11, rfl⟩
theorem mX12_rule : MOK uX12_rule := ⟨by decide +kernel, rfl, tbm 1831 (by decide +kernel) rfl, tbm 114 (by decide +kernel) rfl, ⟨by decide +kernel, by decide +kernel⟩, Nat.le_of_ble_eq_true rfl⟩
theorem bX12_rule : CVB uX12_rule 2 12 62 := ⟨mX12_rule, tbm 1829 (by decide +kernel) rfl, tbm 1830 (by decide +kernel) rfl, by decide +kernel, by decide, TX12, rfl⟩
theorem mX10_leastStep : MOK uX10_leastStep := ⟨by decide +kernel, rfl, tbm 1166 (by decide +kernel) rfl, tbm 107 (by decide +kernel) rfl, ⟨by decide +kernel, by decide +kernel⟩, Nat.le_of_ble_eq_true rfl⟩
theorem bX10_leastStep : CVB uX10_leastStep 1 10 8 := ⟨mX10_leastStep, tbm 1165 (by decide +kernel) rfl, tbm 20 (by decide +kernel) rfl, by decide +kernel, by decide, TX10, rfl⟩
theorem mX10_workWins : MOK uX10_workWins := ⟨by decide +kernel, rfl, tbm 1161 (by decide +kernel) rfl, tbm 107 (by decide +kernel) rfl, ⟨by decide +kernel, by decide +kernel⟩, Nat.le_of_ble_eq_true rfl⟩
theorem bX10_workWins : CVB uX10_workWins 1 10 8 := ⟨mX10_workWins, tbm 1160 (by decide +kernel) rfl, tbm 19 (by decide +kernel) rfl, by decide +kernel, by decide, TX10, rfl⟩
theorem mX10_winningStep : MOK uX10_winningStep := ⟨by decide +kernel, rfl, tbm 1157 (by decide +kernel) rfl, tbm 107 (by decide +kernel) rfl, ⟨by decide +kernel, by decide +kernel⟩, Nat.le_of_ble_eq_true rfl⟩
theorem bX10_winningStep : CVB uX10_winningStep 1 10 8 := ⟨mX10_winningStep, tbm 1155 (by decide +kernel) rfl, tbm 1156 (by decide +kernel) rfl, by decide +kernel, by decide, TX10, rfl⟩
theorem mX10_winningSquares : MOK uX10_winningSquares := ⟨by decide +kernel, rfl, tbm 1170 (by decide +kernel) rfl, tbm 107 (by decide +kernel) rfl, ⟨by decide +kernel, by decide +kernel⟩, Nat.le_of_ble_eq_true rfl⟩
theorem bX10_winningSquares : CVB uX10_winningSquares 1 10 8 := ⟨mX10_winningSquares, tbm 1168 (by decide +kernel) rfl, tbm 1169 (by decide +kernel) rfl, by decide +kernel, by decide, TX10, rfl⟩
theorem mX11_game : MOK uX11_game := ⟨by decide +kernel, rfl, tbm 1153 (by decide +kernel) rfl, tbm 101 (by decide +kernel) rfl, ⟨by decide +kernel, by decide +kernel⟩, Nat.le_of_ble_eq_true rfl⟩
theorem bX11_game : CVB uX11_game 2 11 9 := ⟨mX11_game, tbm 1151 (by decide +kernel) rfl, tbm 1152 (by decide +kernel) rfl, by decide +kernel, by decide, TX11, rfl⟩
theorem mX12_isBarred : MOK uX12_isBarred := ⟨by decide +kernel, rfl, tbm 1843 (by decide +kernel) rfl, tbm 114 (by decide +kernel) rfl, ⟨by decide +kernel, by decide +kernel⟩, Nat.le_of_ble_eq_true rfl⟩
theorem bX12_isBarred : CVB uX12_isBarred 1 12 62 := ⟨mX12_isBarred, tbm 1842 (by decide +kernel) rfl, tbm 96 (by decide +kernel) rfl, by decide +kernel, by decide, TX12, rfl⟩
theorem mX12_goodStep : MOK uX12_goodStep := ⟨by decide +kernel, rfl, tbm 1839 (by decide +kernel) rfl, tbm 114 (by decide +kernel) rfl, ⟨by decide +kernel, by decide +kernel⟩, Nat.le_of_ble_eq_true rfl⟩
theorem bX12_goodStep : CVB uX12_goodStep 1 12 62 := ⟨mX12_goodStep, tbm 1838 (by decide +kernel) rfl, tbm 95 (by decide +kernel) rfl, by decide +kernel, by decide, TX12, rfl⟩
theorem mX12_game : MOK uX12_game := ⟨by decide +kernel, rfl, tbm 1835 (by decide +kernel) rfl, tbm 114 (by decide +kernel) rfl, ⟨by decide +kernel, by decide +kernel⟩, Nat.le_of_ble_eq_true rfl⟩
theorem bX12_game : CVB uX12_game 2 12 62 := ⟨mX12_game, tbm 1833 (by decide +kernel) rfl, tbm 1834 (by decide +kernel) rfl, by decide +kernel, by decide, TX12, rfl⟩
theorem mX6_goBack : MOK uX6_goBack := ⟨by decide +kernel, rfl, tbm 1178 (by decide +kernel) rfl, tbm 109 (by decide +kernel) rfl, ⟨by decide +kernel, by decide +kernel⟩, Nat.le_of_ble_eq_true rfl⟩
theorem bX6_goBack : CVB uX6_goBack 1 6 4 := ⟨mX6_goBack, tbm 1176 (by decide +kernel) rfl, tbm 1177 (by decide +kernel) rfl, by decide +kernel, by decide, TX6, rfl⟩
theorem mX11_undo : MOK uX11_undo := ⟨by decide +kernel, rfl, tbm 1174 (by decide +kernel) rfl, tbm 101 (by decide +kernel) rfl, ⟨by decide +kernel, by decide +kernel⟩, Nat.le_of_ble_eq_true rfl⟩
theorem bX11_undo : CVB uX11_undo 0 11 9 := ⟨mX11_undo, tbm 1172 (by decide +kernel) rfl, tbm 1173 (by decide +kernel) rfl, by decide +kernel, by decide, TX11, rfl⟩
theorem mX12_undo : MOK uX12_undo := ⟨by decide +kernel, rfl, tbm 1402 (by decide +kernel) rfl, tbm 114 (by decide +kernel) rfl, ⟨by decide +kernel, by decide +kernel⟩, Nat.le_of_ble_eq_true rfl⟩
theorem bX12_undo : CVB uX12_undo 0 12 62 := ⟨mX12_undo, tbm 1400 (by decide +kernel) rfl, tbm 1401 (by decide +kernel) rfl, by decide +kernel, by decide, TX12, rfl⟩
theorem mX7_copyFrom : MOK uX7_copyFrom := ⟨by decide +kernel, rfl, tbm 1197 (by decide +kernel) rfl, tbm 108 (by decide +kernel) rfl, ⟨by decide +kernel, by decide +kernel⟩, Nat.le_of_ble_eq_true rfl⟩
theorem bX7_copyFrom : CVB uX7_copyFrom 1 7 5 := ⟨mX7_copyFrom, tbm 1195 (by decide +kernel) rfl, tbm 1196 (by decide +kernel) rfl, by decide +kernel, by decide, TX7, rfl⟩
theorem mX10_copyFrom : MOK uX10_copyFrom := ⟨by decide +kernel, rfl, tbm 1193 (by decide +kernel) rfl, tbm 107 (by decide +kernel) rfl, ⟨by decide +kernel, by decide +kernel⟩, Nat.le_of_ble_eq_true rfl⟩
theorem bX10_copyFrom : CVB uX10_copyFrom 1 10 8 := ⟨mX10_copyFrom, tbm 1191 (by decide +kernel) rfl, tbm 1192 (by decide +kernel) rfl, by decide +kernel, by decide, TX10, rfl⟩
theorem mX0_copyFrom : MOK uX0_copyFrom := ⟨by decide +kernel, rfl, tbm 1186 (by decide +kernel) rfl, tbm 102 (by decide +kernel) rfl, ⟨by decide +kernel, by decide +kernel⟩, Nat.le_of_ble_eq_true rfl⟩
theorem bX0_copyFrom : CVB uX0_copyFrom 1 0 7 := ⟨mX0_copyFrom, tbm 1184 (by decide +kernel) rfl, tbm 1185 (by decide +kernel) rfl, by decide +kernel, by decide, TX0, rfl⟩
theorem mX11_image : MOK uX11_image := ⟨by decide +kernel, rfl, tbm 1182 (by decide +kernel) rfl, tbm 101 (by decide +kernel) rfl, ⟨by decide +kernel, by decide +kernel⟩, Nat.le_of_ble_eq_true rfl⟩
theorem bX11_image : CVB uX11_image 1 11 9 := ⟨mX11_image, tbm 1180 (by decide +kernel) rfl, tbm 1181 (by decide +kernel) rfl, by decide +kernel, by decide, TX11, rfl⟩
theorem mX12_keeps : MOK uX12_keeps := ⟨by decide +kernel, rfl, tbm 1851 (by decide +kernel) rfl, tbm 114 (by decide +kernel) rfl, ⟨by decide +kernel, by decide +kernel⟩, Nat.le_of_ble_eq_true rfl⟩
theorem bX12_keeps : CVB uX12_keeps 1 12 62 := ⟨mX12_keeps, tbm 1850 (by decide +kernel) rfl, tbm 97 (by decide +kernel) rfl, by decide +kernel, by decide, TX12, rfl⟩
theorem mX12_keepsTold : MOK uX12_keepsTold := ⟨by decide +kernel, rfl, tbm 1855 (by decide +kernel) rfl, tbm 114 (by decide +kernel) rfl, ⟨by decide +kernel, by decide +kernel⟩, Nat.le_of_ble_eq_true rfl⟩
theorem bX12_keepsTold : CVB uX12_keepsTold 0 12 62 := ⟨mX12_keepsTold, tbm 1854 (by decide +kernel) rfl, tbm 98 (by decide +kernel) rfl, by decide +kernel, by decide, TX12, rfl⟩
theorem mX12_keepsLaw : MOK uX12_keepsLaw := ⟨by decide +kernel, rfl, tbm 1859 (by decide +kernel) rfl, tbm 114 (by decide +kernel) rfl, ⟨by decide +kernel, by decide +kernel⟩, Nat.le_of_ble_eq_true rfl⟩
theorem bX12_keepsLaw : CVB uX12_keepsLaw 0 12 62 := ⟨mX12_keepsLaw, tbm 1858 (by decide +kernel) rfl, tbm 99 (by decide +kernel) rfl, by decide +kernel, by decide, TX12, rfl⟩
theorem mX12_image : MOK uX12_image := ⟨by decide +kernel, rfl, tbm 1847 (by decide +kernel) rfl, tbm 114 (by decide +kernel) rfl, ⟨by decide +kernel, by decide +kernel⟩, Nat.le_of_ble_eq_true rfl⟩
theorem bX12_image : CVB uX12_image 1 12 62 := ⟨mX12_image, tbm 1845 (by decide +kernel) rfl, tbm 1846 (by decide +kernel) rfl, by decide +kernel, by decide, TX12, rfl⟩
theorem mX11_look : MOK uX11_look := ⟨by decide +kernel, rfl, tbm 1204 (by decide +kernel) rfl, tbm 101 (by decide +kernel) rfl, ⟨by decide +kernel, by decide +kernel⟩, Nat.le_of_ble_eq_true rfl⟩
theorem bX11_look : CVB uX11_look 1 11 9 := ⟨mX11_look, tbm 1202 (by decide +kernel) rfl, tbm 1203 (by decide +kernel) rfl, by decide +kernel, by decide, TX11, rfl⟩
theorem mX12_look : MOK uX12_look := ⟨by decide +kernel, rfl, tbm 1863 (by decide +kernel) rfl, tbm 114 (by decide +kernel) rfl, ⟨by decide +kernel, by decide +kernel⟩, Nat.le_of_ble_eq_true rfl⟩
theorem bX12_look : CVB uX12_look 1 12 62 := ⟨mX12_look, tbm 1861 (by decide +kernel) rfl, tbm 1862 (by decide +kernel) rfl, by decide +kernel, by decide, TX12, rfl⟩
theorem mJ0_length_8abf5 : MOK uJ0_length_8abf5 := ⟨by decide +kernel, rfl, tbm 752 (by decide +kernel) rfl, tbm 117 (by decide +kernel) rfl, ⟨by decide +kernel, by decide +kernel⟩, Nat.le_of_ble_eq_true rfl⟩
theorem inJ0_length_8abf5 : Cond.instanceMethod (my uJ0_length_8abf5) ∈ tb := tbm 750 (by decide +kernel) rfl
theorem slJ0_length_8abf5 : Cond.selects "java/lang/String" (my uJ0_length_8abf5) (my uJ0_length_8abf5) ∈ tb := tbm 751 (by decide +kernel) rfl
theorem parJ0_length_8abf5 : (parseMethodDescriptor (my uJ0_length_8abf5).desc).map (fun d => d.parameters.length) = some 0 := by decide +kernel
theorem mJ0_charAt_5068e : MOK uJ0_charAt_5068e := ⟨by decide +kernel, rfl, tbm 762 (by decide +kernel) rfl, tbm 117 (by decide +kernel) rfl, ⟨by decide +kernel, by decide +kernel⟩, Nat.le_of_ble_eq_true rfl⟩
theorem inJ0_charAt_5068e : Cond.instanceMethod (my uJ0_charAt_5068e) ∈ tb := tbm 760 (by decide +kernel) rfl
theorem slJ0_charAt_5068e : Cond.selects "java/lang/String" (my uJ0_charAt_5068e) (my uJ0_charAt_5068e) ∈ tb := tbm 761 (by decide +kernel) rfl
theorem parJ0_charAt_5068e : (parseMethodDescriptor (my uJ0_charAt_5068e).desc).map (fun d => d.parameters.length) = some 1 := by decide +kernel
theorem mJ0_coder_7d493 : MOK uJ0_coder_7d493 := ⟨by decide +kernel, rfl, tbm 756 (by decide +kernel) rfl, tbm 117 (by decide +kernel) rfl, ⟨by decide +kernel, by decide +kernel⟩, Nat.le_of_ble_eq_true rfl⟩
theorem inJ0_coder_7d493 : Cond.instanceMethod (my uJ0_coder_7d493) ∈ tb := tbm 754 (by decide +kernel) rfl
theorem slJ0_coder_7d493 : Cond.selects "java/lang/String" (my uJ0_coder_7d493) (my uJ0_coder_7d493) ∈ tb := tbm 755 (by decide +kernel) rfl
theorem parJ0_coder_7d493 : (parseMethodDescriptor (my uJ0_coder_7d493).desc).map (fun d => d.parameters.length) = some 0 := by decide +kernel
theorem mJ0_isLatin1_aae02 : MOK uJ0_isLatin1_aae02 := ⟨by decide +kernel, rfl, tbm 766 (by decide +kernel) rfl, tbm 117 (by decide +kernel) rfl, ⟨by decide +kernel, by decide +kernel⟩, Nat.le_of_ble_eq_true rfl⟩
theorem inJ0_isLatin1_aae02 : Cond.instanceMethod (my uJ0_isLatin1_aae02) ∈ tb := tbm 764 (by decide +kernel) rfl
theorem slJ0_isLatin1_aae02 : Cond.selects "java/lang/String" (my uJ0_isLatin1_aae02) (my uJ0_isLatin1_aae02) ∈ tb := tbm 765 (by decide +kernel) rfl
theorem parJ0_isLatin1_aae02 : (parseMethodDescriptor (my uJ0_isLatin1_aae02).desc).map (fun d => d.parameters.length) = some 0 := by decide +kernel
theorem mJ0_checkIndex_df160 : MOK uJ0_checkIndex_df160 := ⟨by decide +kernel, rfl, tbm 772 (by decide +kernel) rfl, tbm 117 (by decide +kernel) rfl, ⟨by decide +kernel, by decide +kernel⟩, Nat.le_of_ble_eq_true rfl⟩
theorem bJ0_checkIndex_df160 : CSB uJ0_checkIndex_df160 2 := ⟨mJ0_checkIndex_df160, tbm 771 (by decide +kernel) rfl, by decide +kernel⟩
theorem mJ1_charAt_3b067 : MOK uJ1_charAt_3b067 := ⟨by decide +kernel, rfl, tbm 769 (by decide +kernel) rfl, tbm 118 (by decide +kernel) rfl, ⟨by decide +kernel, by decide +kernel⟩, Nat.le_of_ble_eq_true rfl⟩
theorem bJ1_charAt_3b067 : CSB uJ1_charAt_3b067 2 := ⟨mJ1_charAt_3b067, tbm 768 (by decide +kernel) rfl, by decide +kernel⟩
theorem mJ3_checkIndex_8e157 : MOK uJ3_checkIndex_8e157 := ⟨by decide +kernel, rfl, tbm 777 (by decide +kernel) rfl, tbm 119 (by decide +kernel) rfl, ⟨by decide +kernel, by decide +kernel⟩, Nat.le_of_ble_eq_true rfl⟩
theorem bJ3_checkIndex_8e157 : CSB uJ3_checkIndex_8e157 3 := ⟨mJ3_checkIndex_8e157, tbm 776 (by decide +kernel) rfl, by decide +kernel⟩
theorem fl_X0_12 : FLR RX0 12 0 7 0 1 := ⟨RX0, TX0, rfl, iX0, by decide, by decide, tbm 355 (by decide +kernel) rfl, rfl⟩
theorem fl_X0_23 : FLR RX0 23 0 7 1 11 := ⟨RX0, TX0, rfl, iX0, by decide, by decide, tbm 358 (by decide +kernel) rfl, rfl⟩
theorem fl_X0_30 : FLR RX0 30 0 7 2 16 := ⟨RX0, TX0, rfl, iX0, by decide, by decide, tbm 361 (by decide +kernel) rfl, rfl⟩
theorem fl_X0_34 : FLR RX0 34 0 7 3 24 := ⟨RX0, TX0, rfl, iX0, by decide, by decide, tbm 363 (by decide +kernel) rfl, rfl⟩
theorem fl_X0_37 : FLR RX0 37 0 7 4 29 := ⟨RX0, TX0, rfl, iX0, by decide, by decide, tbm 365 (by decide +kernel) rfl, rfl⟩
theorem fl_X0_40 : FLR RX0 40 0 7 5 34 := ⟨RX0, TX0, rfl, iX0, by decide, by decide, tbm 367 (by decide +kernel) rfl, rfl⟩
theorem fl_X0_46 : FLR RX0 46 0 7 6 39 := ⟨RX0, TX0, rfl, iX0, by decide, by decide, tbm 369 (by decide +kernel) rfl, rfl⟩
theorem fl_X0_63 : FLI RX0 63 3 6 0 := ⟨RX3, TX3, rfl, iX3, by decide, by decide, tbm 227 (by decide +kernel) rfl, rfl⟩
theorem fl_X0_67 : FLR RX0 67 3 6 4 3 := ⟨RX3, TX3, rfl, iX3, by decide, by decide, tbm 238 (by decide +kernel) rfl, rfl⟩
theorem fl_X0_71 : FLR RX0 71 3 6 5 4 := ⟨RX3, TX3, rfl, iX3, by decide, by decide, tbm 241 (by decide +kernel) rfl, rfl⟩
theorem fl_X0_78 : FLR RX0 78 1 9 7 6 := ⟨RX1, TX1, rfl, iX1, by decide, by decide, tbm 272 (by decide +kernel) rfl, rfl⟩
theorem fl_X0_88 : FLR RX0 88 9 15 6 1 := ⟨RX9, TX9, rfl, iX9, by decide, by decide, tbm 162 (by decide +kernel) rfl, rfl⟩
theorem fl_X0_91 : FLR RX0 91 9 15 8 3 := ⟨RX9, TX9, rfl, iX9, by decide, by decide, tbm 167 (by decide +kernel) rfl, rfl⟩
theorem fl_X0_94 : FLR RX0 94 9 15 7 2 := ⟨RX9, TX9, rfl, iX9, by decide, by decide, tbm 164 (by decide +kernel) rfl, rfl⟩
theorem fl_X0_97 : FLR RX0 97 9 15 11 6 := ⟨RX9, TX9, rfl, iX9, by decide, by decide, tbm 174 (by decide +kernel) rfl, rfl⟩
theorem fl_X0_100 : FLR RX0 100 9 15 12 7 := ⟨RX9, TX9, rfl, iX9, by decide, by decide, tbm 178 (by decide +kernel) rfl, rfl⟩
theorem fl_X0_103 : FLI RX0 103 9 15 1 := ⟨RX9, TX9, rfl, iX9, by decide, by decide, tbm 146 (by decide +kernel) rfl, rfl⟩
theorem fl_X0_106 : FLI RX0 106 9 15 2 := ⟨RX9, TX9, rfl, iX9, by decide, by decide, tbm 149 (by decide +kernel) rfl, rfl⟩
theorem fl_X0_118 : FLI RX0 118 9 15 3 := ⟨RX9, TX9, rfl, iX9, by decide, by decide, tbm 151 (by decide +kernel) rfl, rfl⟩
theorem fl_X0_138 : FLR RX0 138 3 6 2 1 := ⟨RX3, TX3, rfl, iX3, by decide, by decide, tbm 232 (by decide +kernel) rfl, rfl⟩
theorem fl_X0_144 : FLR RX0 144 3 6 3 2 := ⟨RX3, TX3, rfl, iX3, by decide, by decide, tbm 235 (by decide +kernel) rfl, rfl⟩
theorem fl_X0_151 : FLI RX0 151 9 15 5 := ⟨RX9, TX9, rfl, iX9, by decide, by decide, tbm 159 (by decide +kernel) rfl, rfl⟩
theorem fl_X0_179 : FLR RX0 179 9 15 13 8 := ⟨RX9, TX9, rfl, iX9, by decide, by decide, tbm 180 (by decide +kernel) rfl, rfl⟩
theorem fl_X0_182 : FLR RX0 182 9 15 14 9 := ⟨RX9, TX9, rfl, iX9, by decide, by decide, tbm 182 (by decide +kernel) rfl, rfl⟩
theorem fl_X1_9 : FLR RX1 9 1 9 2 1 := ⟨RX1, TX1, rfl, iX1, by decide, by decide, tbm 266 (by decide +kernel) rfl, rfl⟩
theorem fl_X1_15 : FLR RX1 15 1 9 3 2 := ⟨RX1, TX1, rfl, iX1, by decide, by decide, tbm 267 (by decide +kernel) rfl, rfl⟩
theorem fl_X1_18 : FLR RX1 18 1 9 4 3 := ⟨RX1, TX1, rfl, iX1, by decide, by decide, tbm 268 (by decide +kernel) rfl, rfl⟩
theorem fl_X1_21 : FLR RX1 21 1 9 5 4 := ⟨RX1, TX1, rfl, iX1, by decide, by decide, tbm 269 (by decide +kernel) rfl, rfl⟩
theorem fl_X1_24 : FLR RX1 24 1 9 6 5 := ⟨RX1, TX1, rfl, iX1, by decide, by decide, tbm 270 (by decide +kernel) rfl, rfl⟩
theorem fl_X1_27 : FLR RX1 27 1 9 7 6 := ⟨RX1, TX1, rfl, iX1, by decide, by decide, tbm 271 (by decide +kernel) rfl, rfl⟩
theorem fl_X1_30 : FLR RX1 30 1 9 8 7 := ⟨RX1, TX1, rfl, iX1, by decide, by decide, tbm 273 (by decide +kernel) rfl, rfl⟩
theorem fl_X1_33 : FLI RX1 33 1 9 0 := ⟨RX1, TX1, rfl, iX1, by decide, by decide, tbm 262 (by decide +kernel) rfl, rfl⟩
theorem fl_X1_37 : FLI RX1 37 1 9 1 := ⟨RX1, TX1, rfl, iX1, by decide, by decide, tbm 264 (by decide +kernel) rfl, rfl⟩
theorem fl_X10_14 : FLR RX10 14 10 8 0 1 := ⟨RX10, TX10, rfl, iX10, by decide, by decide, tbm 324 (by decide +kernel) rfl, rfl⟩
theorem fl_X10_20 : FLR RX10 20 10 8 1 3 := ⟨RX10, TX10, rfl, iX10, by decide, by decide, tbm 326 (by decide +kernel) rfl, rfl⟩
theorem fl_X10_23 : FLR RX10 23 10 8 2 5 := ⟨RX10, TX10, rfl, iX10, by decide, by decide, tbm 328 (by decide +kernel) rfl, rfl⟩
theorem fl_X10_26 : FLR RX10 26 10 8 3 7 := ⟨RX10, TX10, rfl, iX10, by decide, by decide, tbm 330 (by decide +kernel) rfl, rfl⟩
theorem fl_X10_29 : FLR RX10 29 10 8 4 9 := ⟨RX10, TX10, rfl, iX10, by decide, by decide, tbm 332 (by decide +kernel) rfl, rfl⟩
theorem fl_X10_33 : FLR RX10 33 10 8 5 10 := ⟨RX10, TX10, rfl, iX10, by decide, by decide, tbm 334 (by decide +kernel) rfl, rfl⟩
theorem fl_X10_36 : FLR RX10 36 10 8 6 11 := ⟨RX10, TX10, rfl, iX10, by decide, by decide, tbm 335 (by decide +kernel) rfl, rfl⟩
theorem fl_X10_39 : FLR RX10 39 10 8 7 12 := ⟨RX10, TX10, rfl, iX10, by decide, by decide, tbm 336 (by decide +kernel) rfl, rfl⟩
theorem fl_X10_53 : FLI RX10 53 7 5 0 := ⟨RX7, TX7, rfl, iX7, by decide, by decide, tbm 307 (by decide +kernel) rfl, rfl⟩
theorem fl_X10_57 : FLR RX10 57 7 5 1 1 := ⟨RX7, TX7, rfl, iX7, by decide, by decide, tbm 309 (by decide +kernel) rfl, rfl⟩
theorem fl_X11_12 : FLR RX11 12 11 9 0 1 := ⟨RX11, TX11, rfl, iX11, by decide, by decide, tbm 505 (by decide +kernel) rfl, rfl⟩
theorem fl_X11_16 : FLR RX11 16 11 9 1 53 := ⟨RX11, TX11, rfl, iX11, by decide, by decide, tbm 506 (by decide +kernel) rfl, rfl⟩
theorem fl_X11_22 : FLR RX11 22 11 9 3 105 := ⟨RX11, TX11, rfl, iX11, by decide, by decide, tbm 508 (by decide +kernel) rfl, rfl⟩
theorem fl_X11_29 : FLR RX11 29 11 9 4 168 := ⟨RX11, TX11, rfl, iX11, by decide, by decide, tbm 509 (by decide +kernel) rfl, rfl⟩
theorem fl_X11_36 : FLR RX11 36 11 9 5 178 := ⟨RX11, TX11, rfl, iX11, by decide, by decide, tbm 510 (by decide +kernel) rfl, rfl⟩
theorem fl_X11_43 : FLR RX11 43 11 9 6 180 := ⟨RX11, TX11, rfl, iX11, by decide, by decide, tbm 511 (by decide +kernel) rfl, rfl⟩
theorem fl_X11_50 : FLR RX11 50 11 9 7 189 := ⟨RX11, TX11, rfl, iX11, by decide, by decide, tbm 512 (by decide +kernel) rfl, rfl⟩
theorem fl_X11_57 : FLR RX11 57 11 9 8 195 := ⟨RX11, TX11, rfl, iX11, by decide, by decide, tbm 513 (by decide +kernel) rfl, rfl⟩
theorem fl_X11_61 : FLR RX11 61 0 7 0 1 := ⟨RX0, TX0, rfl, iX0, by decide, by decide, tbm 356 (by decide +kernel) rfl, rfl⟩
theorem fl_X11_64 : FLI RX11 64 9 15 0 := ⟨RX9, TX9, rfl, iX9, by decide, by decide, tbm 143 (by decide +kernel) rfl, rfl⟩
theorem fl_X11_75 : FLI RX11 75 9 15 4 := ⟨RX9, TX9, rfl, iX9, by decide, by decide, tbm 154 (by decide +kernel) rfl, rfl⟩
theorem fl_X11_86 : FLI RX11 86 9 15 5 := ⟨RX9, TX9, rfl, iX9, by decide, by decide, tbm 158 (by decide +kernel) rfl, rfl⟩
theorem fl_X11_97 : FLR RX11 97 9 15 6 1 := ⟨RX9, TX9, rfl, iX9, by decide, by decide, tbm 161 (by decide +kernel) rfl, rfl⟩
theorem fl_X11_104 : FLR RX11 104 9 15 12 7 := ⟨RX9, TX9, rfl, iX9, by decide, by decide, tbm 177 (by decide +kernel) rfl, rfl⟩
theorem fl_X11_107 : FLI RX11 107 9 15 1 := ⟨RX9, TX9, rfl, iX9, by decide, by decide, tbm 145 (by decide +kernel) rfl, rfl⟩
theorem fl_X11_110 : FLI RX11 110 9 15 2 := ⟨RX9, TX9, rfl, iX9, by decide, by decide, tbm 148 (by decide +kernel) rfl, rfl⟩
theorem fl_X11_116 : FLR RX11 116 0 7 1 11 := ⟨RX0, TX0, rfl, iX0, by decide, by decide, tbm 360 (by decide +kernel) rfl, rfl⟩
theorem fl_X11_120 : FLI RX11 120 3 6 0 := ⟨RX3, TX3, rfl, iX3, by decide, by decide, tbm 229 (by decide +kernel) rfl, rfl⟩
theorem fl_X11_140 : FLR RX11 140 9 15 8 3 := ⟨RX9, TX9, rfl, iX9, by decide, by decide, tbm 168 (by decide +kernel) rfl, rfl⟩
theorem fl_X11_143 : FLI RX11 143 9 15 3 := ⟨RX9, TX9, rfl, iX9, by decide, by decide, tbm 152 (by decide +kernel) rfl, rfl⟩
theorem fl_X11_150 : FLI RX11 150 8 9 1 := ⟨RX8, TX8, rfl, iX8, by decide, by decide, tbm 419 (by decide +kernel) rfl, rfl⟩
theorem fl_X11_163 : FLR RX11 163 0 7 2 16 := ⟨RX0, TX0, rfl, iX0, by decide, by decide, tbm 362 (by decide +kernel) rfl, rfl⟩
theorem fl_X11_167 : FLR RX11 167 2 1 0 1 := ⟨RX2, TX2, rfl, iX2, by decide, by decide, tbm 463 (by decide +kernel) rfl, rfl⟩
theorem fl_X11_174 : FLI RX11 174 1 9 0 := ⟨RX1, TX1, rfl, iX1, by decide, by decide, tbm 263 (by decide +kernel) rfl, rfl⟩
theorem fl_X11_182 : FLR RX11 182 4 5 0 1 := ⟨RX4, TX4, rfl, iX4, by decide, by decide, tbm 476 (by decide +kernel) rfl, rfl⟩
theorem fl_X11_188 : FLI RX11 188 8 9 2 := ⟨RX8, TX8, rfl, iX8, by decide, by decide, tbm 421 (by decide +kernel) rfl, rfl⟩
theorem fl_X11_191 : FLI RX11 191 8 9 3 := ⟨RX8, TX8, rfl, iX8, by decide, by decide, tbm 423 (by decide +kernel) rfl, rfl⟩
theorem fl_X11_194 : FLR RX11 194 9 15 7 2 := ⟨RX9, TX9, rfl, iX9, by decide, by decide, tbm 165 (by decide +kernel) rfl, rfl⟩
theorem fl_X11_207 : FLR RX11 207 9 15 9 4 := ⟨RX9, TX9, rfl, iX9, by decide, by decide, tbm 170 (by decide +kernel) rfl, rfl⟩
theorem fl_X11_210 : FLR RX11 210 9 15 10 5 := ⟨RX9, TX9, rfl, iX9, by decide, by decide, tbm 172 (by decide +kernel) rfl, rfl⟩
theorem fl_X11_213 : FLR RX11 213 9 15 11 6 := ⟨RX9, TX9, rfl, iX9, by decide, by decide, tbm 175 (by decide +kernel) rfl, rfl⟩
theorem fl_X11_219 : FLR RX11 219 9 15 14 9 := ⟨RX9, TX9, rfl, iX9, by decide, by decide, tbm 183 (by decide +kernel) rfl, rfl⟩
theorem fl_X11_238 : FLR RX11 238 3 6 2 1 := ⟨RX3, TX3, rfl, iX3, by decide, by decide, tbm 233 (by decide +kernel) rfl, rfl⟩
theorem fl_X11_240 : FLR RX11 240 3 6 3 2 := ⟨RX3, TX3, rfl, iX3, by decide, by decide, tbm 236 (by decide +kernel) rfl, rfl⟩
theorem fl_X11_243 : FLR RX11 243 3 6 4 3 := ⟨RX3, TX3, rfl, iX3, by decide, by decide, tbm 239 (by decide +kernel) rfl, rfl⟩
theorem fl_X11_246 : FLR RX11 246 3 6 5 4 := ⟨RX3, TX3, rfl, iX3, by decide, by decide, tbm 242 (by decide +kernel) rfl, rfl⟩
theorem fl_X11_262 : FLR RX11 262 0 7 6 39 := ⟨RX0, TX0, rfl, iX0, by decide, by decide, tbm 370 (by decide +kernel) rfl, rfl⟩
theorem fl_X11_266 : FLR RX11 266 10 8 0 1 := ⟨RX10, TX10, rfl, iX10, by decide, by decide, tbm 325 (by decide +kernel) rfl, rfl⟩
theorem fl_X11_304 : FLR RX11 304 10 8 1 3 := ⟨RX10, TX10, rfl, iX10, by decide, by decide, tbm 327 (by decide +kernel) rfl, rfl⟩
theorem fl_X11_328 : FLR RX11 328 10 8 4 9 := ⟨RX10, TX10, rfl, iX10, by decide, by decide, tbm 333 (by decide +kernel) rfl, rfl⟩
theorem fl_X11_337 : FLR RX11 337 10 8 2 5 := ⟨RX10, TX10, rfl, iX10, by decide, by decide, tbm 329 (by decide +kernel) rfl, rfl⟩
theorem fl_X11_340 : FLR RX11 340 10 8 3 7 := ⟨RX10, TX10, rfl, iX10, by decide, by decide, tbm 331 (by decide +kernel) rfl, rfl⟩
theorem fl_X11_356 : FLI RX11 356 11 9 2 := ⟨RX11, TX11, rfl, iX11, by decide, by decide, tbm 507 (by decide +kernel) rfl, rfl⟩
theorem fl_X11_360 : FLR RX11 360 0 7 3 24 := ⟨RX0, TX0, rfl, iX0, by decide, by decide, tbm 364 (by decide +kernel) rfl, rfl⟩
theorem fl_X11_363 : FLR RX11 363 0 7 4 29 := ⟨RX0, TX0, rfl, iX0, by decide, by decide, tbm 366 (by decide +kernel) rfl, rfl⟩
theorem fl_X11_366 : FLR RX11 366 0 7 5 34 := ⟨RX0, TX0, rfl, iX0, by decide, by decide, tbm 368 (by decide +kernel) rfl, rfl⟩
theorem fl_X11_369 : FLI RX11 369 6 4 0 := ⟨RX6, TX6, rfl, iX6, by decide, by decide, tbm 396 (by decide +kernel) rfl, rfl⟩
theorem fl_X12_7 : FLR RX12 7 12 62 1 1 := ⟨RX12, TX12, rfl, iX12, by decide, by decide, tbm 1213 (by decide +kernel) rfl, rfl⟩
theorem fl_X12_13 : FLR RX12 13 12 62 2 2 := ⟨RX12, TX12, rfl, iX12, by decide, by decide, tbm 1214 (by decide +kernel) rfl, rfl⟩
theorem fl_X12_16 : FLR RX12 16 12 62 4 3 := ⟨RX12, TX12, rfl, iX12, by decide, by decide, tbm 1216 (by decide +kernel) rfl, rfl⟩
theorem fl_X12_19 : FLR RX12 19 12 62 8 4 := ⟨RX12, TX12, rfl, iX12, by decide, by decide, tbm 1220 (by decide +kernel) rfl, rfl⟩
theorem fl_X12_22 : FLR RX12 22 12 62 9 5 := ⟨RX12, TX12, rfl, iX12, by decide, by decide, tbm 1221 (by decide +kernel) rfl, rfl⟩
theorem fl_X12_25 : FLR RX12 25 12 62 10 6 := ⟨RX12, TX12, rfl, iX12, by decide, by decide, tbm 1222 (by decide +kernel) rfl, rfl⟩
theorem fl_X12_28 : FLR RX12 28 12 62 11 7 := ⟨RX12, TX12, rfl, iX12, by decide, by decide, tbm 1223 (by decide +kernel) rfl, rfl⟩
theorem fl_X12_31 : FLR RX12 31 12 62 12 8 := ⟨RX12, TX12, rfl, iX12, by decide, by decide, tbm 1224 (by decide +kernel) rfl, rfl⟩
theorem fl_X12_34 : FLR RX12 34 12 62 18 9 := ⟨RX12, TX12, rfl, iX12, by decide, by decide, tbm 1230 (by decide +kernel) rfl, rfl⟩
theorem fl_X12_37 : FLR RX12 37 12 62 19 10 := ⟨RX12, TX12, rfl, iX12, by decide, by decide, tbm 1231 (by decide +kernel) rfl, rfl⟩
theorem fl_X12_40 : FLR RX12 40 12 62 20 11 := ⟨RX12, TX12, rfl, iX12, by decide, by decide, tbm 1232 (by decide +kernel) rfl, rfl⟩
theorem fl_X12_43 : FLR RX12 43 12 62 21 12 := ⟨RX12, TX12, rfl, iX12, by decide, by decide, tbm 1233 (by decide +kernel) rfl, rfl⟩
theorem fl_X12_46 : FLR RX12 46 12 62 22 13 := ⟨RX12, TX12, rfl, iX12, by decide, by decide, tbm 1234 (by decide +kernel) rfl, rfl⟩
theorem fl_X12_49 : FLR RX12 49 12 62 23 14 := ⟨RX12, TX12, rfl, iX12, by decide, by decide, tbm 1235 (by decide +kernel) rfl, rfl⟩
theorem fl_X12_52 : FLR RX12 52 12 62 24 15 := ⟨RX12, TX12, rfl, iX12, by decide, by decide, tbm 1236 (by decide +kernel) rfl, rfl⟩
theorem fl_X12_55 : FLR RX12 55 12 62 25 16 := ⟨RX12, TX12, rfl, iX12, by decide, by decide, tbm 1237 (by decide +kernel) rfl, rfl⟩
theorem fl_X12_58 : FLR RX12 58 12 62 29 17 := ⟨RX12, TX12, rfl, iX12, by decide, by decide, tbm 1241 (by decide +kernel) rfl, rfl⟩
theorem fl_X12_61 : FLI RX12 61 12 62 34 := ⟨RX12, TX12, rfl, iX12, by decide, by decide, tbm 1246 (by decide +kernel) rfl, rfl⟩
theorem fl_X12_65 : FLR RX12 65 12 62 36 18 := ⟨RX12, TX12, rfl, iX12, by decide, by decide, tbm 1248 (by decide +kernel) rfl, rfl⟩
theorem fl_X12_68 : FLR RX12 68 12 62 38 19 := ⟨RX12, TX12, rfl, iX12, by decide, by decide, tbm 1250 (by decide +kernel) rfl, rfl⟩
theorem fl_X12_71 : FLR RX12 71 12 62 40 20 := ⟨RX12, TX12, rfl, iX12, by decide, by decide, tbm 1252 (by decide +kernel) rfl, rfl⟩
theorem fl_X12_74 : FLR RX12 74 12 62 41 21 := ⟨RX12, TX12, rfl, iX12, by decide, by decide, tbm 1253 (by decide +kernel) rfl, rfl⟩
theorem fl_X12_77 : FLR RX12 77 12 62 42 22 := ⟨RX12, TX12, rfl, iX12, by decide, by decide, tbm 1254 (by decide +kernel) rfl, rfl⟩
theorem fl_X12_80 : FLR RX12 80 12 62 44 23 := ⟨RX12, TX12, rfl, iX12, by decide, by decide, tbm 1256 (by decide +kernel) rfl, rfl⟩
theorem fl_X12_83 : FLR RX12 83 12 62 45 24 := ⟨RX12, TX12, rfl, iX12, by decide, by decide, tbm 1257 (by decide +kernel) rfl, rfl⟩
theorem fl_X12_86 : FLR RX12 86 12 62 46 25 := ⟨RX12, TX12, rfl, iX12, by decide, by decide, tbm 1258 (by decide +kernel) rfl, rfl⟩
theorem fl_X12_89 : FLR RX12 89 12 62 47 26 := ⟨RX12, TX12, rfl, iX12, by decide, by decide, tbm 1259 (by decide +kernel) rfl, rfl⟩
theorem fl_X12_92 : FLR RX12 92 12 62 49 27 := ⟨RX12, TX12, rfl, iX12, by decide, by decide, tbm 1261 (by decide +kernel) rfl, rfl⟩
theorem fl_X12_95 : FLR RX12 95 12 62 50 28 := ⟨RX12, TX12, rfl, iX12, by decide, by decide, tbm 1262 (by decide +kernel) rfl, rfl⟩
theorem fl_X12_98 : FLR RX12 98 12 62 51 29 := ⟨RX12, TX12, rfl, iX12, by decide, by decide, tbm 1263 (by decide +kernel) rfl, rfl⟩
theorem fl_X12_101 : FLR RX12 101 12 62 52 30 := ⟨RX12, TX12, rfl, iX12, by decide, by decide, tbm 1264 (by decide +kernel) rfl, rfl⟩
theorem fl_X12_104 : FLR RX12 104 12 62 53 31 := ⟨RX12, TX12, rfl, iX12, by decide, by decide, tbm 1265 (by decide +kernel) rfl, rfl⟩
theorem fl_X12_107 : FLR RX12 107 12 62 54 32 := ⟨RX12, TX12, rfl, iX12, by decide, by decide, tbm 1266 (by decide +kernel) rfl, rfl⟩
theorem fl_X12_110 : FLR RX12 110 12 62 55 33 := ⟨RX12, TX12, rfl, iX12, by decide, by decide, tbm 1267 (by decide +kernel) rfl, rfl⟩
theorem fl_X12_113 : FLR RX12 113 12 62 56 34 := ⟨RX12, TX12, rfl, iX12, by decide, by decide, tbm 1268 (by decide +kernel) rfl, rfl⟩
theorem fl_X12_116 : FLR RX12 116 12 62 57 35 := ⟨RX12, TX12, rfl, iX12, by decide, by decide, tbm 1269 (by decide +kernel) rfl, rfl⟩
theorem fl_X12_119 : FLR RX12 119 12 62 61 36 := ⟨RX12, TX12, rfl, iX12, by decide, by decide, tbm 1273 (by decide +kernel) rfl, rfl⟩
theorem fl_X12_125 : FLI RX12 125 12 62 3 := ⟨RX12, TX12, rfl, iX12, by decide, by decide, tbm 1215 (by decide +kernel) rfl, rfl⟩
theorem fl_X12_128 : FLI RX12 128 12 62 5 := ⟨RX12, TX12, rfl, iX12, by decide, by decide, tbm 1217 (by decide +kernel) rfl, rfl⟩
theorem fl_X12_134 : FLI RX12 134 12 62 6 := ⟨RX12, TX12, rfl, iX12, by decide, by decide, tbm 1218 (by decide +kernel) rfl, rfl⟩
theorem fl_X12_137 : FLI RX12 137 12 62 7 := ⟨RX12, TX12, rfl, iX12, by decide, by decide, tbm 1219 (by decide +kernel) rfl, rfl⟩
theorem fl_X12_151 : FLI RX12 151 12 62 13 := ⟨RX12, TX12, rfl, iX12, by decide, by decide, tbm 1225 (by decide +kernel) rfl, rfl⟩
theorem fl_X12_158 : FLI RX12 158 12 62 14 := ⟨RX12, TX12, rfl, iX12, by decide, by decide, tbm 1226 (by decide +kernel) rfl, rfl⟩
theorem fl_X12_165 : FLI RX12 165 12 62 15 := ⟨RX12, TX12, rfl, iX12, by decide, by decide, tbm 1227 (by decide +kernel) rfl, rfl⟩
theorem fl_X12_168 : FLI RX12 168 12 62 16 := ⟨RX12, TX12, rfl, iX12, by decide, by decide, tbm 1228 (by decide +kernel) rfl, rfl⟩
theorem fl_X12_171 : FLI RX12 171 12 62 17 := ⟨RX12, TX12, rfl, iX12, by decide, by decide, tbm 1229 (by decide +kernel) rfl, rfl⟩
theorem fl_X12_187 : FLI RX12 187 12 62 31 := ⟨RX12, TX12, rfl, iX12, by decide, by decide, tbm 1243 (by decide +kernel) rfl, rfl⟩
theorem fl_X12_190 : FLI RX12 190 12 62 32 := ⟨RX12, TX12, rfl, iX12, by decide, by decide, tbm 1244 (by decide +kernel) rfl, rfl⟩
theorem fl_X12_193 : FLI RX12 193 12 62 27 := ⟨RX12, TX12, rfl, iX12, by decide, by decide, tbm 1239 (by decide +kernel) rfl, rfl⟩
theorem fl_X12_222 : FLI RX12 222 12 62 30 := ⟨RX12, TX12, rfl, iX12, by decide, by decide, tbm 1242 (by decide +kernel) rfl, rfl⟩
theorem fl_X12_225 : FLI RX12 225 12 62 28 := ⟨RX12, TX12, rfl, iX12, by decide, by decide, tbm 1240 (by decide +kernel) rfl, rfl⟩
theorem fl_X12_247 : FLI RX12 247 12 62 26 := ⟨RX12, TX12, rfl, iX12, by decide, by decide, tbm 1238 (by decide +kernel) rfl, rfl⟩
theorem fl_X12_284 : FLI RX12 284 12 62 39 := ⟨RX12, TX12, rfl, iX12, by decide, by decide, tbm 1251 (by decide +kernel) rfl, rfl⟩
theorem fl_X12_287 : FLI RX12 287 12 62 35 := ⟨RX12, TX12, rfl, iX12, by decide, by decide, tbm 1247 (by decide +kernel) rfl, rfl⟩
theorem fl_X12_290 : FLI RX12 290 12 62 37 := ⟨RX12, TX12, rfl, iX12, by decide, by decide, tbm 1249 (by decide +kernel) rfl, rfl⟩
theorem fl_X12_293 : FLI RX12 293 12 62 33 := ⟨RX12, TX12, rfl, iX12, by decide, by decide, tbm 1245 (by decide +kernel) rfl, rfl⟩
theorem fl_X12_394 : FLI RX12 394 12 62 43 := ⟨RX12, TX12, rfl, iX12, by decide, by decide, tbm 1255 (by decide +kernel) rfl, rfl⟩
theorem fl_X12_412 : FLI RX12 412 12 62 48 := ⟨RX12, TX12, rfl, iX12, by decide, by decide, tbm 1260 (by decide +kernel) rfl, rfl⟩
theorem fl_X12_434 : FLI RX12 434 12 62 60 := ⟨RX12, TX12, rfl, iX12, by decide, by decide, tbm 1272 (by decide +kernel) rfl, rfl⟩
theorem fl_X12_437 : FLI RX12 437 12 62 58 := ⟨RX12, TX12, rfl, iX12, by decide, by decide, tbm 1270 (by decide +kernel) rfl, rfl⟩
theorem fl_X12_443 : FLI RX12 443 12 62 59 := ⟨RX12, TX12, rfl, iX12, by decide, by decide, tbm 1271 (by decide +kernel) rfl, rfl⟩
theorem fl_X2_12 : FLR RX2 12 2 1 0 1 := ⟨RX2, TX2, rfl, iX2, by decide, by decide, tbm 462 (by decide +kernel) rfl, rfl⟩
theorem fl_X2_21 : FLI RX2 21 8 9 4 := ⟨RX8, TX8, rfl, iX8, by decide, by decide, tbm 424 (by decide +kernel) rfl, rfl⟩
theorem fl_X2_38 : FLI RX2 38 1 9 1 := ⟨RX1, TX1, rfl, iX1, by decide, by decide, tbm 265 (by decide +kernel) rfl, rfl⟩
theorem fl_X2_107 : FLI RX2 107 8 9 7 := ⟨RX8, TX8, rfl, iX8, by decide, by decide, tbm 430 (by decide +kernel) rfl, rfl⟩
theorem fl_X3_13 : FLI RX3 13 3 6 1 := ⟨RX3, TX3, rfl, iX3, by decide, by decide, tbm 230 (by decide +kernel) rfl, rfl⟩
theorem fl_X3_19 : FLR RX3 19 3 6 2 1 := ⟨RX3, TX3, rfl, iX3, by decide, by decide, tbm 231 (by decide +kernel) rfl, rfl⟩
theorem fl_X3_23 : FLR RX3 23 3 6 3 2 := ⟨RX3, TX3, rfl, iX3, by decide, by decide, tbm 234 (by decide +kernel) rfl, rfl⟩
theorem fl_X3_26 : FLR RX3 26 3 6 4 3 := ⟨RX3, TX3, rfl, iX3, by decide, by decide, tbm 237 (by decide +kernel) rfl, rfl⟩
theorem fl_X3_29 : FLR RX3 29 3 6 5 4 := ⟨RX3, TX3, rfl, iX3, by decide, by decide, tbm 240 (by decide +kernel) rfl, rfl⟩
theorem fl_X3_32 : FLI RX3 32 3 6 0 := ⟨RX3, TX3, rfl, iX3, by decide, by decide, tbm 225 (by decide +kernel) rfl, rfl⟩
theorem fl_X4_14 : FLR RX4 14 4 5 0 1 := ⟨RX4, TX4, rfl, iX4, by decide, by decide, tbm 475 (by decide +kernel) rfl, rfl⟩
theorem fl_X4_24 : FLI RX4 24 8 9 4 := ⟨RX8, TX8, rfl, iX8, by decide, by decide, tbm 425 (by decide +kernel) rfl, rfl⟩
theorem fl_X4_52 : FLI RX4 52 4 5 1 := ⟨RX4, TX4, rfl, iX4, by decide, by decide, tbm 477 (by decide +kernel) rfl, rfl⟩
theorem fl_X4_55 : FLI RX4 55 4 5 2 := ⟨RX4, TX4, rfl, iX4, by decide, by decide, tbm 478 (by decide +kernel) rfl, rfl⟩
theorem fl_X4_56 : FLI RX4 56 4 5 3 := ⟨RX4, TX4, rfl, iX4, by decide, by decide, tbm 479 (by decide +kernel) rfl, rfl⟩
theorem fl_X4_59 : FLI RX4 59 4 5 4 := ⟨RX4, TX4, rfl, iX4, by decide, by decide, tbm 480 (by decide +kernel) rfl, rfl⟩
theorem fl_X4_73 : FLI RX4 73 8 9 8 := ⟨RX8, TX8, rfl, iX8, by decide, by decide, tbm 432 (by decide +kernel) rfl, rfl⟩
theorem fl_X4_85 : FLI RX4 85 9 15 5 := ⟨RX9, TX9, rfl, iX9, by decide, by decide, tbm 157 (by decide +kernel) rfl, rfl⟩
theorem fl_X4_98 : FLI RX4 98 9 15 4 := ⟨RX9, TX9, rfl, iX9, by decide, by decide, tbm 155 (by decide +kernel) rfl, rfl⟩
theorem fl_X4_111 : FLI RX4 111 8 9 7 := ⟨RX8, TX8, rfl, iX8, by decide, by decide, tbm 431 (by decide +kernel) rfl, rfl⟩
theorem fl_X5_9 : FLR RX5 9 5 2 0 1 := ⟨RX5, TX5, rfl, iX5, by decide, by decide, tbm 498 (by decide +kernel) rfl, rfl⟩
theorem fl_X5_15 : FLR RX5 15 5 2 1 2 := ⟨RX5, TX5, rfl, iX5, by decide, by decide, tbm 499 (by decide +kernel) rfl, rfl⟩
theorem fl_X6_11 : FLR RX6 11 6 4 2 1 := ⟨RX6, TX6, rfl, iX6, by decide, by decide, tbm 398 (by decide +kernel) rfl, rfl⟩
theorem fl_X6_17 : FLR RX6 17 6 4 3 2 := ⟨RX6, TX6, rfl, iX6, by decide, by decide, tbm 399 (by decide +kernel) rfl, rfl⟩
theorem fl_X6_22 : FLI RX6 22 6 4 0 := ⟨RX6, TX6, rfl, iX6, by decide, by decide, tbm 395 (by decide +kernel) rfl, rfl⟩
theorem fl_X6_26 : FLI RX6 26 6 4 1 := ⟨RX6, TX6, rfl, iX6, by decide, by decide, tbm 397 (by decide +kernel) rfl, rfl⟩
theorem fl_X6_39 : FLR RX6 39 0 7 0 1 := ⟨RX0, TX0, rfl, iX0, by decide, by decide, tbm 357 (by decide +kernel) rfl, rfl⟩
theorem fl_X6_45 : FLR RX6 45 0 7 1 11 := ⟨RX0, TX0, rfl, iX0, by decide, by decide, tbm 359 (by decide +kernel) rfl, rfl⟩
theorem fl_X7_15 : FLR RX7 15 7 5 1 1 := ⟨RX7, TX7, rfl, iX7, by decide, by decide, tbm 308 (by decide +kernel) rfl, rfl⟩
theorem fl_X7_21 : FLI RX7 21 7 5 2 := ⟨RX7, TX7, rfl, iX7, by decide, by decide, tbm 310 (by decide +kernel) rfl, rfl⟩
theorem fl_X7_25 : FLI RX7 25 7 5 3 := ⟨RX7, TX7, rfl, iX7, by decide, by decide, tbm 311 (by decide +kernel) rfl, rfl⟩
theorem fl_X7_28 : FLI RX7 28 7 5 4 := ⟨RX7, TX7, rfl, iX7, by decide, by decide, tbm 312 (by decide +kernel) rfl, rfl⟩
theorem fl_X7_32 : FLI RX7 32 7 5 0 := ⟨RX7, TX7, rfl, iX7, by decide, by decide, tbm 306 (by decide +kernel) rfl, rfl⟩
theorem fl_X8_9 : FLR RX8 9 8 9 0 1 := ⟨RX8, TX8, rfl, iX8, by decide, by decide, tbm 417 (by decide +kernel) rfl, rfl⟩
theorem fl_X8_19 : FLI RX8 19 8 9 1 := ⟨RX8, TX8, rfl, iX8, by decide, by decide, tbm 418 (by decide +kernel) rfl, rfl⟩
theorem fl_X8_25 : FLI RX8 25 8 9 6 := ⟨RX8, TX8, rfl, iX8, by decide, by decide, tbm 428 (by decide +kernel) rfl, rfl⟩
theorem fl_X8_31 : FLI RX8 31 8 9 5 := ⟨RX8, TX8, rfl, iX8, by decide, by decide, tbm 427 (by decide +kernel) rfl, rfl⟩
theorem fl_X8_38 : FLI RX8 38 8 9 4 := ⟨RX8, TX8, rfl, iX8, by decide, by decide, tbm 426 (by decide +kernel) rfl, rfl⟩
theorem fl_X8_41 : FLI RX8 41 8 9 7 := ⟨RX8, TX8, rfl, iX8, by decide, by decide, tbm 429 (by decide +kernel) rfl, rfl⟩
theorem fl_X9_9 : FLR RX9 9 9 15 6 1 := ⟨RX9, TX9, rfl, iX9, by decide, by decide, tbm 160 (by decide +kernel) rfl, rfl⟩
theorem fl_X9_15 : FLR RX9 15 9 15 7 2 := ⟨RX9, TX9, rfl, iX9, by decide, by decide, tbm 163 (by decide +kernel) rfl, rfl⟩
theorem fl_X9_18 : FLR RX9 18 9 15 8 3 := ⟨RX9, TX9, rfl, iX9, by decide, by decide, tbm 166 (by decide +kernel) rfl, rfl⟩
theorem fl_X9_21 : FLR RX9 21 9 15 9 4 := ⟨RX9, TX9, rfl, iX9, by decide, by decide, tbm 169 (by decide +kernel) rfl, rfl⟩
theorem fl_X9_24 : FLR RX9 24 9 15 10 5 := ⟨RX9, TX9, rfl, iX9, by decide, by decide, tbm 171 (by decide +kernel) rfl, rfl⟩
theorem fl_X9_27 : FLR RX9 27 9 15 11 6 := ⟨RX9, TX9, rfl, iX9, by decide, by decide, tbm 173 (by decide +kernel) rfl, rfl⟩
theorem fl_X9_30 : FLR RX9 30 9 15 12 7 := ⟨RX9, TX9, rfl, iX9, by decide, by decide, tbm 176 (by decide +kernel) rfl, rfl⟩
theorem fl_X9_33 : FLR RX9 33 9 15 13 8 := ⟨RX9, TX9, rfl, iX9, by decide, by decide, tbm 179 (by decide +kernel) rfl, rfl⟩
theorem fl_X9_36 : FLR RX9 36 9 15 14 9 := ⟨RX9, TX9, rfl, iX9, by decide, by decide, tbm 181 (by decide +kernel) rfl, rfl⟩
theorem fl_X9_39 : FLI RX9 39 9 15 0 := ⟨RX9, TX9, rfl, iX9, by decide, by decide, tbm 142 (by decide +kernel) rfl, rfl⟩
theorem fl_X9_43 : FLI RX9 43 9 15 1 := ⟨RX9, TX9, rfl, iX9, by decide, by decide, tbm 144 (by decide +kernel) rfl, rfl⟩
theorem fl_X9_46 : FLI RX9 46 9 15 2 := ⟨RX9, TX9, rfl, iX9, by decide, by decide, tbm 147 (by decide +kernel) rfl, rfl⟩
theorem fl_X9_49 : FLI RX9 49 9 15 3 := ⟨RX9, TX9, rfl, iX9, by decide, by decide, tbm 150 (by decide +kernel) rfl, rfl⟩
theorem fl_X9_52 : FLI RX9 52 9 15 4 := ⟨RX9, TX9, rfl, iX9, by decide, by decide, tbm 153 (by decide +kernel) rfl, rfl⟩
theorem fl_X9_55 : FLI RX9 55 9 15 5 := ⟨RX9, TX9, rfl, iX9, by decide, by decide, tbm 156 (by decide +kernel) rfl, rfl⟩
theorem fw_X0_103 : FLW RX0 103 9 15 1 .int := ⟨RX9, TX9, tyX9, rfl, iX9, by decide, by decide, tbm 146 (by decide +kernel) rfl, rfl, tyX9_ok, nmX9, rfl, rfl⟩
theorem fw_X0_106 : FLW RX0 106 9 15 2 .int := ⟨RX9, TX9, tyX9, rfl, iX9, by decide, by decide, tbm 149 (by decide +kernel) rfl, rfl, tyX9_ok, nmX9, rfl, rfl⟩
theorem fw_X0_118 : FLW RX0 118 9 15 3 .int := ⟨RX9, TX9, tyX9, rfl, iX9, by decide, by decide, tbm 151 (by decide +kernel) rfl, rfl, tyX9_ok, nmX9, rfl, rfl⟩
theorem fw_X1_33 : FLW RX1 33 1 9 0 .int := ⟨RX1, TX1, tyX1, rfl, iX1, by decide, by decide, tbm 262 (by decide +kernel) rfl, rfl, tyX1_ok, nmX1, rfl, rfl⟩
theorem fw_X1_37 : FLW RX1 37 1 9 1 .int := ⟨RX1, TX1, tyX1, rfl, iX1, by decide, by decide, tbm 264 (by decide +kernel) rfl, rfl, tyX1_ok, nmX1, rfl, rfl⟩
theorem fw_X11_64 : FLW RX11 64 9 15 0 .int := ⟨RX9, TX9, tyX9, rfl, iX9, by decide, by decide, tbm 143 (by decide +kernel) rfl, rfl, tyX9_ok, nmX9, rfl, rfl⟩
theorem fw_X11_107 : FLW RX11 107 9 15 1 .int := ⟨RX9, TX9, tyX9, rfl, iX9, by decide, by decide, tbm 145 (by decide +kernel) rfl, rfl, tyX9_ok, nmX9, rfl, rfl⟩
theorem fw_X11_110 : FLW RX11 110 9 15 2 .int := ⟨RX9, TX9, tyX9, rfl, iX9, by decide, by decide, tbm 148 (by decide +kernel) rfl, rfl, tyX9_ok, nmX9, rfl, rfl⟩
theorem fw_X11_150 : FLW RX11 150 8 9 1 .int := ⟨RX8, TX8, tyX8, rfl, iX8, by decide, by decide, tbm 419 (by decide +kernel) rfl, rfl, tyX8_ok, nmX8, rfl, rfl⟩
theorem fw_X11_356 : FLW RX11 356 11 9 2 .boolean := ⟨RX11, TX11, tyX11, rfl, iX11, by decide, by decide, tbm 507 (by decide +kernel) rfl, rfl, tyX11_ok, nmX11, rfl, rfl⟩
theorem fw_X12_61 : FLW RX12 61 12 62 34 .int := ⟨RX12, TX12, tyX12, rfl, iX12, by decide, by decide, tbm 1246 (by decide +kernel) rfl, rfl, tyX12_ok, nmX12, rfl, rfl⟩
theorem fw_X12_122 : FLW RX12 122 12 62 0 .int := ⟨RX12, TX12, tyX12, rfl, iX12, by decide, by decide, tbm 1212 (by decide +kernel) rfl, rfl, tyX12_ok, nmX12, rfl, rfl⟩
theorem fw_X12_125 : FLW RX12 125 12 62 3 .int := ⟨RX12, TX12, tyX12, rfl, iX12, by decide, by decide, tbm 1215 (by decide +kernel) rfl, rfl, tyX12_ok, nmX12, rfl, rfl⟩
theorem fw_X12_128 : FLW RX12 128 12 62 5 .boolean := ⟨RX12, TX12, tyX12, rfl, iX12, by decide, by decide, tbm 1217 (by decide +kernel) rfl, rfl, tyX12_ok, nmX12, rfl, rfl⟩
theorem fw_X12_134 : FLW RX12 134 12 62 6 .int := ⟨RX12, TX12, tyX12, rfl, iX12, by decide, by decide, tbm 1218 (by decide +kernel) rfl, rfl, tyX12_ok, nmX12, rfl, rfl⟩
theorem fw_X12_137 : FLW RX12 137 12 62 7 .int := ⟨RX12, TX12, tyX12, rfl, iX12, by decide, by decide, tbm 1219 (by decide +kernel) rfl, rfl, tyX12_ok, nmX12, rfl, rfl⟩
theorem fw_X12_151 : FLW RX12 151 12 62 13 .int := ⟨RX12, TX12, tyX12, rfl, iX12, by decide, by decide, tbm 1225 (by decide +kernel) rfl, rfl, tyX12_ok, nmX12, rfl, rfl⟩
theorem fw_X12_158 : FLW RX12 158 12 62 14 .int := ⟨RX12, TX12, tyX12, rfl, iX12, by decide, by decide, tbm 1226 (by decide +kernel) rfl, rfl, tyX12_ok, nmX12, rfl, rfl⟩
theorem fw_X12_165 : FLW RX12 165 12 62 15 .int := ⟨RX12, TX12, tyX12, rfl, iX12, by decide, by decide, tbm 1227 (by decide +kernel) rfl, rfl, tyX12_ok, nmX12, rfl, rfl⟩
theorem fw_X12_168 : FLW RX12 168 12 62 16 .int := ⟨RX12, TX12, tyX12, rfl, iX12, by decide, by decide, tbm 1228 (by decide +kernel) rfl, rfl, tyX12_ok, nmX12, rfl, rfl⟩
theorem fw_X12_171 : FLW RX12 171 12 62 17 .int := ⟨RX12, TX12, tyX12, rfl, iX12, by decide, by decide, tbm 1229 (by decide +kernel) rfl, rfl, tyX12_ok, nmX12, rfl, rfl⟩
theorem fw_X12_187 : FLW RX12 187 12 62 31 .int := ⟨RX12, TX12, tyX12, rfl, iX12, by decide, by decide, tbm 1243 (by decide +kernel) rfl, rfl, tyX12_ok, nmX12, rfl, rfl⟩
theorem fw_X12_190 : FLW RX12 190 12 62 32 .int := ⟨RX12, TX12, tyX12, rfl, iX12, by decide, by decide, tbm 1244 (by decide +kernel) rfl, rfl, tyX12_ok, nmX12, rfl, rfl⟩
theorem fw_X12_193 : FLW RX12 193 12 62 27 .int := ⟨RX12, TX12, tyX12, rfl, iX12, by decide, by decide, tbm 1239 (by decide +kernel) rfl, rfl, tyX12_ok, nmX12, rfl, rfl⟩
theorem fw_X12_222 : FLW RX12 222 12 62 30 .int := ⟨RX12, TX12, tyX12, rfl, iX12, by decide, by decide, tbm 1242 (by decide +kernel) rfl, rfl, tyX12_ok, nmX12, rfl, rfl⟩
theorem fw_X12_225 : FLW RX12 225 12 62 28 .int := ⟨RX12, TX12, tyX12, rfl, iX12, by decide, by decide, tbm 1240 (by decide +kernel) rfl, rfl, tyX12_ok, nmX12, rfl, rfl⟩
theorem fw_X12_247 : FLW RX12 247 12 62 26 .int := ⟨RX12, TX12, tyX12, rfl, iX12, by decide, by decide, tbm 1238 (by decide +kernel) rfl, rfl, tyX12_ok, nmX12, rfl, rfl⟩
theorem fw_X12_284 : FLW RX12 284 12 62 39 .int := ⟨RX12, TX12, tyX12, rfl, iX12, by decide, by decide, tbm 1251 (by decide +kernel) rfl, rfl, tyX12_ok, nmX12, rfl, rfl⟩
theorem fw_X12_287 : FLW RX12 287 12 62 35 .int := ⟨RX12, TX12, tyX12, rfl, iX12, by decide, by decide, tbm 1247 (by decide +kernel) rfl, rfl, tyX12_ok, nmX12, rfl, rfl⟩
theorem fw_X12_290 : FLW RX12 290 12 62 37 .int := ⟨RX12, TX12, tyX12, rfl, iX12, by decide, by decide, tbm 1249 (by decide +kernel) rfl, rfl, tyX12_ok, nmX12, rfl, rfl⟩
theorem fw_X12_293 : FLW RX12 293 12 62 33 .int := ⟨RX12, TX12, tyX12, rfl, iX12, by decide, by decide, tbm 1245 (by decide +kernel) rfl, rfl, tyX12_ok, nmX12, rfl, rfl⟩
theorem fw_X12_394 : FLW RX12 394 12 62 43 .int := ⟨RX12, TX12, tyX12, rfl, iX12, by decide, by decide, tbm 1255 (by decide +kernel) rfl, rfl, tyX12_ok, nmX12, rfl, rfl⟩
theorem fw_X12_412 : FLW RX12 412 12 62 48 .int := ⟨RX12, TX12, tyX12, rfl, iX12, by decide, by decide, tbm 1260 (by decide +kernel) rfl, rfl, tyX12_ok, nmX12, rfl, rfl⟩
theorem fw_X12_434 : FLW RX12 434 12 62 60 .int := ⟨RX12, TX12, tyX12, rfl, iX12, by decide, by decide, tbm 1272 (by decide +kernel) rfl, rfl, tyX12_ok, nmX12, rfl, rfl⟩
theorem fw_X12_437 : FLW RX12 437 12 62 58 .boolean := ⟨RX12, TX12, tyX12, rfl, iX12, by decide, by decide, tbm 1270 (by decide +kernel) rfl, rfl, tyX12_ok, nmX12, rfl, rfl⟩
theorem fw_X12_443 : FLW RX12 443 12 62 59 .boolean := ⟨RX12, TX12, tyX12, rfl, iX12, by decide, by decide, tbm 1271 (by decide +kernel) rfl, rfl, tyX12_ok, nmX12, rfl, rfl⟩
theorem fw_X3_32 : FLW RX3 32 3 6 0 .int := ⟨RX3, TX3, tyX3, rfl, iX3, by decide, by decide, tbm 225 (by decide +kernel) rfl, rfl, tyX3_ok, nmX3, rfl, rfl⟩
theorem fw_X4_20 : FLW RX4 20 3 6 0 .int := ⟨RX3, TX3, tyX3, rfl, iX3, by decide, by decide, tbm 226 (by decide +kernel) rfl, rfl, tyX3_ok, nmX3, rfl, rfl⟩
theorem fw_X4_52 : FLW RX4 52 4 5 1 .int := ⟨RX4, TX4, tyX4, rfl, iX4, by decide, by decide, tbm 477 (by decide +kernel) rfl, rfl, tyX4_ok, nmX4, rfl, rfl⟩
theorem fw_X4_55 : FLW RX4 55 4 5 2 .int := ⟨RX4, TX4, tyX4, rfl, iX4, by decide, by decide, tbm 478 (by decide +kernel) rfl, rfl, tyX4_ok, nmX4, rfl, rfl⟩
theorem fw_X4_56 : FLW RX4 56 4 5 3 .int := ⟨RX4, TX4, tyX4, rfl, iX4, by decide, by decide, tbm 479 (by decide +kernel) rfl, rfl, tyX4_ok, nmX4, rfl, rfl⟩
theorem fw_X4_59 : FLW RX4 59 4 5 4 .int := ⟨RX4, TX4, tyX4, rfl, iX4, by decide, by decide, tbm 480 (by decide +kernel) rfl, rfl, tyX4_ok, nmX4, rfl, rfl⟩
theorem fw_X6_22 : FLW RX6 22 6 4 0 .int := ⟨RX6, TX6, tyX6, rfl, iX6, by decide, by decide, tbm 395 (by decide +kernel) rfl, rfl, tyX6_ok, nmX6, rfl, rfl⟩
theorem fw_X6_26 : FLW RX6 26 6 4 1 .int := ⟨RX6, TX6, tyX6, rfl, iX6, by decide, by decide, tbm 397 (by decide +kernel) rfl, rfl, tyX6_ok, nmX6, rfl, rfl⟩
theorem fw_X6_49 : FLW RX6 49 3 6 0 .int := ⟨RX3, TX3, tyX3, rfl, iX3, by decide, by decide, tbm 228 (by decide +kernel) rfl, rfl, tyX3_ok, nmX3, rfl, rfl⟩
theorem fw_X7_32 : FLW RX7 32 7 5 0 .int := ⟨RX7, TX7, tyX7, rfl, iX7, by decide, by decide, tbm 306 (by decide +kernel) rfl, rfl, tyX7_ok, nmX7, rfl, rfl⟩
theorem fw_X8_15 : FLW RX8 15 8 9 3 .int := ⟨RX8, TX8, tyX8, rfl, iX8, by decide, by decide, tbm 422 (by decide +kernel) rfl, rfl, tyX8_ok, nmX8, rfl, rfl⟩
theorem fw_X8_19 : FLW RX8 19 8 9 1 .int := ⟨RX8, TX8, tyX8, rfl, iX8, by decide, by decide, tbm 418 (by decide +kernel) rfl, rfl, tyX8_ok, nmX8, rfl, rfl⟩
theorem fw_X8_22 : FLW RX8 22 8 9 2 .int := ⟨RX8, TX8, tyX8, rfl, iX8, by decide, by decide, tbm 420 (by decide +kernel) rfl, rfl, tyX8_ok, nmX8, rfl, rfl⟩
theorem fw_X8_25 : FLW RX8 25 8 9 6 .int := ⟨RX8, TX8, tyX8, rfl, iX8, by decide, by decide, tbm 428 (by decide +kernel) rfl, rfl, tyX8_ok, nmX8, rfl, rfl⟩
theorem fw_X8_31 : FLW RX8 31 8 9 5 .int := ⟨RX8, TX8, tyX8, rfl, iX8, by decide, by decide, tbm 427 (by decide +kernel) rfl, rfl, tyX8_ok, nmX8, rfl, rfl⟩
theorem fw_X8_38 : FLW RX8 38 8 9 4 .int := ⟨RX8, TX8, tyX8, rfl, iX8, by decide, by decide, tbm 426 (by decide +kernel) rfl, rfl, tyX8_ok, nmX8, rfl, rfl⟩
theorem fw_X8_41 : FLW RX8 41 8 9 7 .int := ⟨RX8, TX8, tyX8, rfl, iX8, by decide, by decide, tbm 429 (by decide +kernel) rfl, rfl, tyX8_ok, nmX8, rfl, rfl⟩
theorem fw_X8_65 : FLW RX8 65 8 9 8 .int := ⟨RX8, TX8, tyX8, rfl, iX8, by decide, by decide, tbm 433 (by decide +kernel) rfl, rfl, tyX8_ok, nmX8, rfl, rfl⟩
theorem fw_X9_39 : FLW RX9 39 9 15 0 .int := ⟨RX9, TX9, tyX9, rfl, iX9, by decide, by decide, tbm 142 (by decide +kernel) rfl, rfl, tyX9_ok, nmX9, rfl, rfl⟩
theorem fw_X9_43 : FLW RX9 43 9 15 1 .int := ⟨RX9, TX9, tyX9, rfl, iX9, by decide, by decide, tbm 144 (by decide +kernel) rfl, rfl, tyX9_ok, nmX9, rfl, rfl⟩
theorem fw_X9_46 : FLW RX9 46 9 15 2 .int := ⟨RX9, TX9, tyX9, rfl, iX9, by decide, by decide, tbm 147 (by decide +kernel) rfl, rfl, tyX9_ok, nmX9, rfl, rfl⟩
theorem fw_X9_49 : FLW RX9 49 9 15 3 .int := ⟨RX9, TX9, tyX9, rfl, iX9, by decide, by decide, tbm 150 (by decide +kernel) rfl, rfl, tyX9_ok, nmX9, rfl, rfl⟩
theorem fw_X9_52 : FLW RX9 52 9 15 4 .int := ⟨RX9, TX9, tyX9, rfl, iX9, by decide, by decide, tbm 153 (by decide +kernel) rfl, rfl, tyX9_ok, nmX9, rfl, rfl⟩
theorem fw_X9_55 : FLW RX9 55 9 15 5 .int := ⟨RX9, TX9, tyX9, rfl, iX9, by decide, by decide, tbm 156 (by decide +kernel) rfl, rfl, tyX9_ok, nmX9, rfl, rfl⟩
theorem ml_J0_335 : Cond.methodLink RJ0 335 (my uJ0_coder_7d493) ∈ tb := tbm 753 (by decide +kernel) rfl
theorem ml_J0_492 : Cond.methodLink RJ0 492 (my uJ0_isLatin1_aae02) ∈ tb := tbm 763 (by decide +kernel) rfl
theorem ml_J0_495 : Cond.methodLink RJ0 495 (my uJ1_charAt_3b067) ∈ tb := tbm 767 (by decide +kernel) rfl
theorem ml_J0_1059 : Cond.methodLink RJ0 1059 (my uJ3_checkIndex_8e157) ∈ tb := tbm 775 (by decide +kernel) rfl
theorem ml_J1_9 : Cond.methodLink RJ1 9 (my uJ0_checkIndex_df160) ∈ tb := tbm 770 (by decide +kernel) rfl
theorem ml_L_13 : Cond.methodLink RL 13 (my uX11_state) ∈ tb := tbm 533 (by decide +kernel) rfl
theorem ml_L_17 : Cond.methodLink RL 17 (my uX12_state) ∈ tb := tbm 1403 (by decide +kernel) rfl
theorem ml_L_18 : Cond.methodLink RL 18 (my uX11_person) ∈ tb := tbm 541 (by decide +kernel) rfl
theorem ml_L_21 : Cond.methodLink RL 21 (my uX12_person) ∈ tb := tbm 1407 (by decide +kernel) rfl
theorem ml_L_22 : Cond.methodLink RL 22 (my uX11_bargain) ∈ tb := tbm 552 (by decide +kernel) rfl
theorem ml_L_26 : Cond.methodLink RL 26 (my uX12_bargain) ∈ tb := tbm 1415 (by decide +kernel) rfl
theorem ml_L_27 : Cond.methodLink RL 27 (my uX11_set) ∈ tb := tbm 568 (by decide +kernel) rfl
theorem ml_L_31 : Cond.methodLink RL 31 (my uX12_set) ∈ tb := tbm 1423 (by decide +kernel) rfl
theorem ml_L_32 : Cond.methodLink RL 32 (my uX11_act) ∈ tb := tbm 581 (by decide +kernel) rfl
theorem ml_L_36 : Cond.methodLink RL 36 (my uX12_act) ∈ tb := tbm 1583 (by decide +kernel) rfl
theorem ml_L_37 : Cond.methodLink RL 37 (my uX11_days) ∈ tb := tbm 686 (by decide +kernel) rfl
theorem ml_L_40 : Cond.methodLink RL 40 (my uX12_days) ∈ tb := tbm 1669 (by decide +kernel) rfl
theorem ml_L_41 : Cond.methodLink RL 41 (my uX11_feed) ∈ tb := tbm 705 (by decide +kernel) rfl
theorem ml_L_45 : Cond.methodLink RL 45 (my uX12_feed) ∈ tb := tbm 1431 (by decide +kernel) rfl
theorem ml_L_46 : Cond.methodLink RL 46 (my uX11_end) ∈ tb := tbm 713 (by decide +kernel) rfl
theorem ml_L_50 : Cond.methodLink RL 50 (my uX12_end) ∈ tb := tbm 1439 (by decide +kernel) rfl
theorem ml_L_51 : Cond.methodLink RL 51 (my uX11_text) ∈ tb := tbm 717 (by decide +kernel) rfl
theorem ml_L_54 : Cond.methodLink RL 54 (my uX12_text) ∈ tb := tbm 1443 (by decide +kernel) rfl
theorem ml_L_55 : Cond.methodLink RL 55 (my uX11_fault) ∈ tb := tbm 928 (by decide +kernel) rfl
theorem ml_L_58 : Cond.methodLink RL 58 (my uX12_fault) ∈ tb := tbm 1579 (by decide +kernel) rfl
theorem ml_L_59 : Cond.methodLink RL 59 (my uX11_of) ∈ tb := tbm 932 (by decide +kernel) rfl
theorem ml_L_63 : Cond.methodLink RL 63 (my uX12_of) ∈ tb := tbm 1689 (by decide +kernel) rfl
theorem ml_L_64 : Cond.methodLink RL 64 (my uX11_deal) ∈ tb := tbm 945 (by decide +kernel) rfl
theorem ml_L_67 : Cond.methodLink RL 67 (my uX12_deal) ∈ tb := tbm 1697 (by decide +kernel) rfl
theorem ml_L_68 : Cond.methodLink RL 68 (my uX11_book) ∈ tb := tbm 957 (by decide +kernel) rfl
theorem ml_L_71 : Cond.methodLink RL 71 (my uX12_book) ∈ tb := tbm 1701 (by decide +kernel) rfl
theorem ml_L_72 : Cond.methodLink RL 72 (my uX11_goes) ∈ tb := tbm 961 (by decide +kernel) rfl
theorem ml_L_75 : Cond.methodLink RL 75 (my uX12_goes) ∈ tb := tbm 1705 (by decide +kernel) rfl
theorem ml_L_76 : Cond.methodLink RL 76 (my uX11_holds) ∈ tb := tbm 978 (by decide +kernel) rfl
theorem ml_L_79 : Cond.methodLink RL 79 (my uX12_holds) ∈ tb := tbm 1725 (by decide +kernel) rfl
theorem ml_L_80 : Cond.methodLink RL 80 (my uX11_deals) ∈ tb := tbm 982 (by decide +kernel) rfl
theorem ml_L_83 : Cond.methodLink RL 83 (my uX12_deals) ∈ tb := tbm 1729 (by decide +kernel) rfl
theorem ml_L_84 : Cond.methodLink RL 84 (my uX11_jump) ∈ tb := tbm 986 (by decide +kernel) rfl
theorem ml_L_87 : Cond.methodLink RL 87 (my uX12_jump) ∈ tb := tbm 1733 (by decide +kernel) rfl
theorem ml_L_88 : Cond.methodLink RL 88 (my uX11_jumps) ∈ tb := tbm 999 (by decide +kernel) rfl
theorem ml_L_91 : Cond.methodLink RL 91 (my uX12_jumps) ∈ tb := tbm 1737 (by decide +kernel) rfl
theorem ml_L_92 : Cond.methodLink RL 92 (my uX11_walks) ∈ tb := tbm 1013 (by decide +kernel) rfl
theorem ml_L_95 : Cond.methodLink RL 95 (my uX12_walks) ∈ tb := tbm 1746 (by decide +kernel) rfl
theorem ml_L_96 : Cond.methodLink RL 96 (my uX11_apart) ∈ tb := tbm 1024 (by decide +kernel) rfl
theorem ml_L_99 : Cond.methodLink RL 99 (my uX12_apart) ∈ tb := tbm 1754 (by decide +kernel) rfl
theorem ml_L_100 : Cond.methodLink RL 100 (my uX11_corners) ∈ tb := tbm 1031 (by decide +kernel) rfl
theorem ml_L_103 : Cond.methodLink RL 103 (my uX12_corners) ∈ tb := tbm 1758 (by decide +kernel) rfl
theorem ml_L_104 : Cond.methodLink RL 104 (my uX11_parts) ∈ tb := tbm 1041 (by decide +kernel) rfl
theorem ml_L_107 : Cond.methodLink RL 107 (my uX12_parts) ∈ tb := tbm 1762 (by decide +kernel) rfl
theorem ml_L_108 : Cond.methodLink RL 108 (my uX11_lasts) ∈ tb := tbm 1052 (by decide +kernel) rfl
theorem ml_L_111 : Cond.methodLink RL 111 (my uX12_lasts) ∈ tb := tbm 1770 (by decide +kernel) rfl
theorem ml_L_112 : Cond.methodLink RL 112 (my uX11_turn) ∈ tb := tbm 1063 (by decide +kernel) rfl
theorem ml_L_115 : Cond.methodLink RL 115 (my uX12_turn) ∈ tb := tbm 1779 (by decide +kernel) rfl
theorem ml_L_116 : Cond.methodLink RL 116 (my uX11_turning) ∈ tb := tbm 1067 (by decide +kernel) rfl
theorem ml_L_119 : Cond.methodLink RL 119 (my uX12_turning) ∈ tb := tbm 1783 (by decide +kernel) rfl
theorem ml_L_120 : Cond.methodLink RL 120 (my uX11_ant) ∈ tb := tbm 1079 (by decide +kernel) rfl
theorem ml_L_123 : Cond.methodLink RL 123 (my uX12_ant) ∈ tb := tbm 1787 (by decide +kernel) rfl
theorem ml_L_124 : Cond.methodLink RL 124 (my uX11_row) ∈ tb := tbm 1092 (by decide +kernel) rfl
theorem ml_L_127 : Cond.methodLink RL 127 (my uX12_row) ∈ tb := tbm 1791 (by decide +kernel) rfl
theorem ml_L_128 : Cond.methodLink RL 128 (my uX11_own) ∈ tb := tbm 1100 (by decide +kernel) rfl
theorem ml_L_131 : Cond.methodLink RL 131 (my uX12_own) ∈ tb := tbm 1796 (by decide +kernel) rfl
theorem ml_L_132 : Cond.methodLink RL 132 (my uX11_round) ∈ tb := tbm 1111 (by decide +kernel) rfl
theorem ml_L_136 : Cond.methodLink RL 136 (my uX12_round) ∈ tb := tbm 1804 (by decide +kernel) rfl
theorem ml_L_137 : Cond.methodLink RL 137 (my uX11_nine) ∈ tb := tbm 1123 (by decide +kernel) rfl
theorem ml_L_140 : Cond.methodLink RL 140 (my uX12_nine) ∈ tb := tbm 1812 (by decide +kernel) rfl
theorem ml_L_141 : Cond.methodLink RL 141 (my uX11_even) ∈ tb := tbm 1127 (by decide +kernel) rfl
theorem ml_L_144 : Cond.methodLink RL 144 (my uX12_even) ∈ tb := tbm 1816 (by decide +kernel) rfl
theorem ml_L_145 : Cond.methodLink RL 145 (my uX11_rule) ∈ tb := tbm 1146 (by decide +kernel) rfl
theorem ml_L_148 : Cond.methodLink RL 148 (my uX12_rule) ∈ tb := tbm 1828 (by decide +kernel) rfl
theorem ml_L_149 : Cond.methodLink RL 149 (my uX11_game) ∈ tb := tbm 1150 (by decide +kernel) rfl
theorem ml_L_152 : Cond.methodLink RL 152 (my uX12_game) ∈ tb := tbm 1832 (by decide +kernel) rfl
theorem ml_L_153 : Cond.methodLink RL 153 (my uX11_undo) ∈ tb := tbm 1171 (by decide +kernel) rfl
theorem ml_L_157 : Cond.methodLink RL 157 (my uX12_undo) ∈ tb := tbm 1399 (by decide +kernel) rfl
theorem ml_L_158 : Cond.methodLink RL 158 (my uX11_image) ∈ tb := tbm 1179 (by decide +kernel) rfl
theorem ml_L_162 : Cond.methodLink RL 162 (my uX12_image) ∈ tb := tbm 1844 (by decide +kernel) rfl
theorem ml_L_163 : Cond.methodLink RL 163 (my uX11_look) ∈ tb := tbm 1201 (by decide +kernel) rfl
theorem ml_L_166 : Cond.methodLink RL 166 (my uX12_look) ∈ tb := tbm 1860 (by decide +kernel) rfl
theorem ml_X0_50 : Cond.methodLink RX0 50 (my uX9_copyFrom) ∈ tb := tbm 1187 (by decide +kernel) rfl
theorem ml_X0_54 : Cond.methodLink RX0 54 (my uX3_copyFrom) ∈ tb := tbm 1188 (by decide +kernel) rfl
theorem ml_X0_57 : Cond.methodLink RX0 57 (my uX1_copyFrom) ∈ tb := tbm 1189 (by decide +kernel) rfl
theorem ml_X0_60 : Cond.methodLink RX0 60 (my uX10_copyFrom) ∈ tb := tbm 1190 (by decide +kernel) rfl
theorem ml_X0_74 : Cond.methodLink RX0 74 (my uX9_hasBargain) ∈ tb := tbm 627 (by decide +kernel) rfl
theorem ml_X0_81 : Cond.methodLink RX0 81 (my uX9_whoIs) ∈ tb := tbm 615 (by decide +kernel) rfl
theorem ml_X0_85 : Cond.methodLink RX0 85 (my uX9_hasPerson) ∈ tb := tbm 622 (by decide +kernel) rfl
theorem ml_X0_109 : Cond.methodLink RX0 109 (my uX0_hearersOf) ∈ tb := tbm 628 (by decide +kernel) rfl
theorem ml_X0_113 : Cond.methodLink RX0 113 (my uJ6_bitCount_0f7a4) ∈ tb := tbm 632 (by decide +kernel) rfl
theorem ml_X0_121 : Cond.methodLink RX0 121 (my uX1_lineFor) ∈ tb := tbm 638 (by decide +kernel) rfl
theorem ml_X0_124 : Cond.methodLink RX0 124 (my uX0_withoutLaw) ∈ tb := tbm 653 (by decide +kernel) rfl
theorem ml_X0_127 : Cond.methodLink RX0 127 (my uX1_valueOf) ∈ tb := tbm 657 (by decide +kernel) rfl
theorem ml_X0_130 : Cond.methodLink RX0 130 Lib.Math.min.name ∈ tb := tbm 661 (by decide +kernel) rfl
theorem ml_X0_135 : Cond.methodLink RX0 135 Lib.Math.max.name ∈ tb := tbm 662 (by decide +kernel) rfl
theorem ml_X0_140 : Cond.methodLink RX0 140 (my uX0_tellEvening) ∈ tb := tbm 694 (by decide +kernel) rfl
theorem ml_X0_147 : Cond.methodLink RX0 147 (my uX0_twist) ∈ tb := tbm 699 (by decide +kernel) rfl
theorem ml_X0_154 : Cond.methodLink RX0 154 (my uX0_blurSome) ∈ tb := tbm 700 (by decide +kernel) rfl
theorem ml_X0_158 : Cond.methodLink RX0 158 (my uX9_makeClear) ∈ tb := tbm 698 (by decide +kernel) rfl
theorem ml_X0_161 : Cond.methodLink RX0 161 (my uX9_isOpen) ∈ tb := tbm 620 (by decide +kernel) rfl
theorem ml_X0_164 : Cond.methodLink RX0 164 (my uX9_hasSaid) ∈ tb := tbm 621 (by decide +kernel) rfl
theorem ml_X0_168 : Cond.methodLink RX0 168 (my uX0_asked) ∈ tb := tbm 623 (by decide +kernel) rfl
theorem ml_X0_172 : Cond.methodLink RX0 172 (my uX9_drawn) ∈ tb := tbm 663 (by decide +kernel) rfl
theorem ml_X0_175 : Cond.methodLink RX0 175 (my uX0_note) ∈ tb := tbm 669 (by decide +kernel) rfl
theorem ml_X0_185 : Cond.methodLink RX0 185 (my uX0_blurAway) ∈ tb := tbm 704 (by decide +kernel) rfl
theorem ml_X0_188 : Cond.methodLink RX0 188 (my uX3_append) ∈ tb := tbm 673 (by decide +kernel) rfl
theorem ml_X1_40 : Cond.methodLink RX1 40 arraycopyName ∈ tb := tbm 868 (by decide +kernel) rfl
theorem ml_X1_46 : Cond.methodLink RX1 46 (my uX1_worked) ∈ tb := tbm 642 (by decide +kernel) rfl
theorem ml_X1_50 : Cond.methodLink RX1 50 (my uX1_named) ∈ tb := tbm 646 (by decide +kernel) rfl
theorem ml_X1_54 : Cond.methodLink RX1 54 (my uX1_joined) ∈ tb := tbm 650 (by decide +kernel) rfl
theorem ml_X10_43 : Cond.methodLink RX10 43 (my uX7_copyFrom) ∈ tb := tbm 1194 (by decide +kernel) rfl
theorem ml_X10_47 : Cond.methodLink RX10 47 arraycopyName ∈ tb := tbm 1200 (by decide +kernel) rfl
theorem ml_X10_60 : Cond.methodLink RX10 60 Lib.Math.min.name ∈ tb := tbm 1007 (by decide +kernel) rfl
theorem ml_X10_66 : Cond.methodLink RX10 66 Lib.Math.max.name ∈ tb := tbm 1012 (by decide +kernel) rfl
theorem ml_X10_69 : Cond.methodLink RX10 69 (my uX10_stand) ∈ tb := tbm 1075 (by decide +kernel) rfl
theorem ml_X10_76 : Cond.methodLink RX10 76 (my uX10_sumOf) ∈ tb := tbm 1135 (by decide +kernel) rfl
theorem ml_X10_80 : Cond.methodLink RX10 80 (my uX10_linesOfSum) ∈ tb := tbm 1141 (by decide +kernel) rfl
theorem ml_X10_83 : Cond.methodLink RX10 83 (my uX10_workWins) ∈ tb := tbm 1158 (by decide +kernel) rfl
theorem ml_X10_87 : Cond.methodLink RX10 87 (my uX7_has) ∈ tb := tbm 1162 (by decide +kernel) rfl
theorem ml_X10_91 : Cond.methodLink RX10 91 (my uX10_leastStep) ∈ tb := tbm 1163 (by decide +kernel) rfl
theorem ml_X11_68 : Cond.methodLink RX11 68 (my uX6_forget) ∈ tb := tbm 537 (by decide +kernel) rfl
theorem ml_X11_71 : Cond.methodLink RX11 71 (my uX11_isWithin) ∈ tb := tbm 545 (by decide +kernel) rfl
theorem ml_X11_78 : Cond.methodLink RX11 78 (my uX9_addPerson) ∈ tb := tbm 548 (by decide +kernel) rfl
theorem ml_X11_82 : Cond.methodLink RX11 82 (my uX9_areTwo) ∈ tb := tbm 556 (by decide +kernel) rfl
theorem ml_X11_89 : Cond.methodLink RX11 89 (my uX9_addBargain) ∈ tb := tbm 564 (by decide +kernel) rfl
theorem ml_X11_93 : Cond.methodLink RX11 93 (my uX9_hasPerson) ∈ tb := tbm 572 (by decide +kernel) rfl
theorem ml_X11_101 : Cond.methodLink RX11 101 (my uX9_isOpen) ∈ tb := tbm 573 (by decide +kernel) rfl
theorem ml_X11_113 : Cond.methodLink RX11 113 (my uX11_canAct) ∈ tb := tbm 585 (by decide +kernel) rfl
theorem ml_X11_125 : Cond.methodLink RX11 125 (my uX6_keep) ∈ tb := tbm 597 (by decide +kernel) rfl
theorem ml_X11_129 : Cond.methodLink RX11 129 (my uX0_twist) ∈ tb := tbm 611 (by decide +kernel) rfl
theorem ml_X11_133 : Cond.methodLink RX11 133 (my uX9_makeClear) ∈ tb := tbm 677 (by decide +kernel) rfl
theorem ml_X11_136 : Cond.methodLink RX11 136 (my uX0_blurAway) ∈ tb := tbm 682 (by decide +kernel) rfl
theorem ml_X11_146 : Cond.methodLink RX11 146 (my uX0_goDay) ∈ tb := tbm 690 (by decide +kernel) rfl
theorem ml_X11_153 : Cond.methodLink RX11 153 (my uX8_append) ∈ tb := tbm 709 (by decide +kernel) rfl
theorem ml_X11_156 : Cond.methodLink RX11 156 (my uX8_begin) ∈ tb := tbm 721 (by decide +kernel) rfl
theorem ml_X11_159 : Cond.methodLink RX11 159 (my uX2_read) ∈ tb := tbm 733 (by decide +kernel) rfl
theorem ml_X11_168 : Cond.methodLink RX11 168 (my uX1_copyFrom) ∈ tb := tbm 864 (by decide +kernel) rfl
theorem ml_X11_175 : Cond.methodLink RX11 175 (my uX4_read) ∈ tb := tbm 869 (by decide +kernel) rfl
theorem ml_X11_178 : Cond.methodLink RX11 178 (my uX0_linesOf) ∈ tb := tbm 918 (by decide +kernel) rfl
theorem ml_X11_185 : Cond.methodLink RX11 185 (my uX3_copyFrom) ∈ tb := tbm 922 (by decide +kernel) rfl
theorem ml_X11_197 : Cond.methodLink RX11 197 (my uX9_bargainsOf) ∈ tb := tbm 936 (by decide +kernel) rfl
theorem ml_X11_201 : Cond.methodLink RX11 201 (my uX0_heardBy) ∈ tb := tbm 941 (by decide +kernel) rfl
theorem ml_X11_204 : Cond.methodLink RX11 204 (my uX9_hasBargain) ∈ tb := tbm 949 (by decide +kernel) rfl
theorem ml_X11_216 : Cond.methodLink RX11 216 (my uX9_hasSaid) ∈ tb := tbm 589 (by decide +kernel) rfl
theorem ml_X11_222 : Cond.methodLink RX11 222 (my uX0_asked) ∈ tb := tbm 950 (by decide +kernel) rfl
theorem ml_X11_226 : Cond.methodLink RX11 226 (my uX0_hearersOf) ∈ tb := tbm 951 (by decide +kernel) rfl
theorem ml_X11_229 : Cond.methodLink RX11 229 (my uJ6_bitCount_0f7a4) ∈ tb := tbm 952 (by decide +kernel) rfl
theorem ml_X11_234 : Cond.methodLink RX11 234 (my uX11_phraseTold) ∈ tb := tbm 953 (by decide +kernel) rfl
theorem ml_X11_249 : Cond.methodLink RX11 249 (my uX9_copyFrom) ∈ tb := tbm 965 (by decide +kernel) rfl
theorem ml_X11_252 : Cond.methodLink RX11 252 (my uX9_thoseThatAre) ∈ tb := tbm 966 (by decide +kernel) rfl
theorem ml_X11_255 : Cond.methodLink RX11 255 (my uX9_owesOfAll) ∈ tb := tbm 970 (by decide +kernel) rfl
theorem ml_X11_259 : Cond.methodLink RX11 259 (my uX9_clearOfAll) ∈ tb := tbm 974 (by decide +kernel) rfl
theorem ml_X11_272 : Cond.methodLink RX11 272 (my uX7_tell) ∈ tb := tbm 990 (by decide +kernel) rfl
theorem ml_X11_277 : Cond.methodLink RX11 277 (my uX10_fewestJumps) ∈ tb := tbm 1003 (by decide +kernel) rfl
theorem ml_X11_280 : Cond.methodLink RX11 280 (my uX10_furthestPlace) ∈ tb := tbm 1008 (by decide +kernel) rfl
theorem ml_X11_283 : Cond.methodLink RX11 283 (my uX5_walksTo) ∈ tb := tbm 1017 (by decide +kernel) rfl
theorem ml_X11_286 : Cond.methodLink RX11 286 (my uX5_leastApart) ∈ tb := tbm 1028 (by decide +kernel) rfl
theorem ml_X11_290 : Cond.methodLink RX11 290 (my uX5_cornersUpTo) ∈ tb := tbm 1035 (by decide +kernel) rfl
theorem ml_X11_293 : Cond.methodLink RX11 293 (my uX5_cornersAround) ∈ tb := tbm 1038 (by decide +kernel) rfl
theorem ml_X11_296 : Cond.methodLink RX11 296 (my uX5_chainOfParts) ∈ tb := tbm 1045 (by decide +kernel) rfl
theorem ml_X11_300 : Cond.methodLink RX11 300 (my uX5_lasting) ∈ tb := tbm 1057 (by decide +kernel) rfl
theorem ml_X11_307 : Cond.methodLink RX11 307 (my uX10_turned) ∈ tb := tbm 1071 (by decide +kernel) rfl
theorem ml_X11_310 : Cond.methodLink RX11 310 (my uX5_antWalk) ∈ tb := tbm 1083 (by decide +kernel) rfl
theorem ml_X11_314 : Cond.methodLink RX11 314 (my uX5_nextRow) ∈ tb := tbm 1097 (by decide +kernel) rfl
theorem ml_X11_317 : Cond.methodLink RX11 317 (my uX5_ownDifferences) ∈ tb := tbm 1104 (by decide +kernel) rfl
theorem ml_X11_320 : Cond.methodLink RX11 320 (my uX5_timesRound) ∈ tb := tbm 1115 (by decide +kernel) rfl
theorem ml_X11_324 : Cond.methodLink RX11 324 (my uX5_shifted) ∈ tb := tbm 1122 (by decide +kernel) rfl
theorem ml_X11_331 : Cond.methodLink RX11 331 (my uX10_waysToEven) ∈ tb := tbm 1131 (by decide +kernel) rfl
theorem ml_X11_334 : Cond.methodLink RX11 334 (my uX10_linesOfSum) ∈ tb := tbm 1145 (by decide +kernel) rfl
theorem ml_X11_343 : Cond.methodLink RX11 343 (my uX10_winningStep) ∈ tb := tbm 1154 (by decide +kernel) rfl
theorem ml_X11_346 : Cond.methodLink RX11 346 (my uX10_winningSquares) ∈ tb := tbm 1167 (by decide +kernel) rfl
theorem ml_X11_349 : Cond.methodLink RX11 349 (my uX6_goBack) ∈ tb := tbm 1175 (by decide +kernel) rfl
theorem ml_X11_353 : Cond.methodLink RX11 353 (my uX0_copyFrom) ∈ tb := tbm 1183 (by decide +kernel) rfl
theorem ml_X11_371 : Cond.methodLink RX11 371 (my uX9_canClear) ∈ tb := tbm 593 (by decide +kernel) rfl
theorem ml_X12_140 : Cond.methodLink RX12 140 (my uX12_isIn) ∈ tb := tbm 1411 (by decide +kernel) rfl
theorem ml_X12_144 : Cond.methodLink RX12 144 (my uX12_isPerson) ∈ tb := tbm 1419 (by decide +kernel) rfl
theorem ml_X12_148 : Cond.methodLink RX12 148 (my uX12_isBargain) ∈ tb := tbm 1427 (by decide +kernel) rfl
theorem ml_X12_154 : Cond.methodLink RX12 154 (my uX12_types) ∈ tb := tbm 1435 (by decide +kernel) rfl
theorem ml_X12_161 : Cond.methodLink RX12 161 (my uX12_raw) ∈ tb := tbm 1455 (by decide +kernel) rfl
theorem ml_X12_174 : Cond.methodLink RX12 174 (my uX12_isLetter) ∈ tb := tbm 1459 (by decide +kernel) rfl
theorem ml_X12_177 : Cond.methodLink RX12 177 (my uX12_wordAt) ∈ tb := tbm 1463 (by decide +kernel) rfl
theorem ml_X12_181 : Cond.methodLink RX12 181 (my uX12_isDigit) ∈ tb := tbm 1467 (by decide +kernel) rfl
theorem ml_X12_184 : Cond.methodLink RX12 184 (my uX12_isMarkSign) ∈ tb := tbm 1471 (by decide +kernel) rfl
theorem ml_X12_196 : Cond.methodLink RX12 196 (my uX12_canAsk) ∈ tb := tbm 1547 (by decide +kernel) rfl
theorem ml_X12_199 : Cond.methodLink RX12 199 (my uX12_errs) ∈ tb := tbm 1483 (by decide +kernel) rfl
theorem ml_X12_202 : Cond.methodLink RX12 202 (my uX12_emits) ∈ tb := tbm 1551 (by decide +kernel) rfl
theorem ml_X12_206 : Cond.methodLink RX12 206 (my uX12_reads) ∈ tb := tbm 1451 (by decide +kernel) rfl
theorem ml_X12_209 : Cond.methodLink RX12 209 (my uX12_readUnit) ∈ tb := tbm 1543 (by decide +kernel) rfl
theorem ml_X12_213 : Cond.methodLink RX12 213 (my uX12_isSign) ∈ tb := tbm 1503 (by decide +kernel) rfl
theorem ml_X12_216 : Cond.methodLink RX12 216 (my uX12_readProduct) ∈ tb := tbm 1539 (by decide +kernel) rfl
theorem ml_X12_219 : Cond.methodLink RX12 219 (my uX12_readSum) ∈ tb := tbm 1535 (by decide +kernel) rfl
theorem ml_X12_228 : Cond.methodLink RX12 228 (my uX12_isWord) ∈ tb := tbm 1479 (by decide +kernel) rfl
theorem ml_X12_231 : Cond.methodLink RX12 231 (my uX12_waits) ∈ tb := tbm 1559 (by decide +kernel) rfl
theorem ml_X12_234 : Cond.methodLink RX12 234 (my uX12_readCompared) ∈ tb := tbm 1563 (by decide +kernel) rfl
theorem ml_X12_237 : Cond.methodLink RX12 237 (my uX12_settles) ∈ tb := tbm 1567 (by decide +kernel) rfl
theorem ml_X12_240 : Cond.methodLink RX12 240 (my uX12_isLineWord) ∈ tb := tbm 1531 (by decide +kernel) rfl
theorem ml_X12_244 : Cond.methodLink RX12 244 (my uX12_readAny) ∈ tb := tbm 1555 (by decide +kernel) rfl
theorem ml_X12_250 : Cond.methodLink RX12 250 (my uX12_readNumber) ∈ tb := tbm 1495 (by decide +kernel) rfl
theorem ml_X12_253 : Cond.methodLink RX12 253 (my uX12_readTold) ∈ tb := tbm 1491 (by decide +kernel) rfl
theorem ml_X12_257 : Cond.methodLink RX12 257 (my uX12_readMark) ∈ tb := tbm 1499 (by decide +kernel) rfl
theorem ml_X12_260 : Cond.methodLink RX12 260 (my uX12_readHop) ∈ tb := tbm 1487 (by decide +kernel) rfl
theorem ml_X12_263 : Cond.methodLink RX12 263 (my uX12_kindOfStreet) ∈ tb := tbm 1515 (by decide +kernel) rfl
theorem ml_X12_266 : Cond.methodLink RX12 266 (my uX12_readStreetLine) ∈ tb := tbm 1511 (by decide +kernel) rfl
theorem ml_X12_269 : Cond.methodLink RX12 269 (my uX12_readLean) ∈ tb := tbm 1523 (by decide +kernel) rfl
theorem ml_X12_272 : Cond.methodLink RX12 272 (my uX12_readHops) ∈ tb := tbm 1475 (by decide +kernel) rfl
theorem ml_X12_275 : Cond.methodLink RX12 275 (my uX12_readStreet) ∈ tb := tbm 1507 (by decide +kernel) rfl
theorem ml_X12_278 : Cond.methodLink RX12 278 (my uX12_readLeans) ∈ tb := tbm 1519 (by decide +kernel) rfl
theorem ml_X12_281 : Cond.methodLink RX12 281 (my uX12_readLaw) ∈ tb := tbm 1527 (by decide +kernel) rfl
theorem ml_X12_296 : Cond.methodLink RX12 296 (my uX12_readsText) ∈ tb := tbm 1447 (by decide +kernel) rfl
theorem ml_X12_299 : Cond.methodLink RX12 299 (my uX12_takesLaw) ∈ tb := tbm 1571 (by decide +kernel) rfl
theorem ml_X12_302 : Cond.methodLink RX12 302 (my uX12_takesOther) ∈ tb := tbm 1575 (by decide +kernel) rfl
theorem ml_X12_305 : Cond.methodLink RX12 305 (my uX12_twoOf) ∈ tb := tbm 1635 (by decide +kernel) rfl
theorem ml_X12_308 : Cond.methodLink RX12 308 (my uX12_runs) ∈ tb := tbm 1631 (by decide +kernel) rfl
theorem ml_X12_311 : Cond.methodLink RX12 311 (my uX12_onesOf) ∈ tb := tbm 1619 (by decide +kernel) rfl
theorem ml_X12_314 : Cond.methodLink RX12 314 (my uX12_lineOf) ∈ tb := tbm 1627 (by decide +kernel) rfl
theorem ml_X12_317 : Cond.methodLink RX12 317 (my uX12_held) ∈ tb := tbm 1639 (by decide +kernel) rfl
theorem ml_X12_320 : Cond.methodLink RX12 320 (my uX12_asks) ∈ tb := tbm 1615 (by decide +kernel) rfl
theorem ml_X12_324 : Cond.methodLink RX12 324 (my uX12_lawTells) ∈ tb := tbm 1623 (by decide +kernel) rfl
theorem ml_X12_327 : Cond.methodLink RX12 327 (my uX12_draw) ∈ tb := tbm 1647 (by decide +kernel) rfl
theorem ml_X12_330 : Cond.methodLink RX12 330 (my uX12_has) ∈ tb := tbm 1595 (by decide +kernel) rfl
theorem ml_X12_334 : Cond.methodLink RX12 334 (my uX12_hopperOf) ∈ tb := tbm 1607 (by decide +kernel) rfl
theorem ml_X12_337 : Cond.methodLink RX12 337 (my uX12_landsOn) ∈ tb := tbm 1611 (by decide +kernel) rfl
theorem ml_X12_340 : Cond.methodLink RX12 340 (my uX12_happens) ∈ tb := tbm 1643 (by decide +kernel) rfl
theorem ml_X12_343 : Cond.methodLink RX12 343 (my uX12_costsOn) ∈ tb := tbm 1653 (by decide +kernel) rfl
theorem ml_X12_346 : Cond.methodLink RX12 346 (my uX12_notes) ∈ tb := tbm 1657 (by decide +kernel) rfl
theorem ml_X12_349 : Cond.methodLink RX12 349 (my uX12_canHop) ∈ tb := tbm 1591 (by decide +kernel) rfl
theorem ml_X12_352 : Cond.methodLink RX12 352 (my uX12_canAct) ∈ tb := tbm 1587 (by decide +kernel) rfl
theorem ml_X12_355 : Cond.methodLink RX12 355 (my uX12_keepsAhead) ∈ tb := tbm 1599 (by decide +kernel) rfl
theorem ml_X12_358 : Cond.methodLink RX12 358 (my uX12_hopsOver) ∈ tb := tbm 1603 (by decide +kernel) rfl
theorem ml_X12_361 : Cond.methodLink RX12 361 (my uX12_isCleared) ∈ tb := tbm 1661 (by decide +kernel) rfl
theorem ml_X12_364 : Cond.methodLink RX12 364 (my uX12_isBlurred) ∈ tb := tbm 1665 (by decide +kernel) rfl
theorem ml_X12_367 : Cond.methodLink RX12 367 (my uX12_comes) ∈ tb := tbm 1677 (by decide +kernel) rfl
theorem ml_X12_370 : Cond.methodLink RX12 370 (my uX12_wipesOf) ∈ tb := tbm 1681 (by decide +kernel) rfl
theorem ml_X12_373 : Cond.methodLink RX12 373 (my uX12_greater) ∈ tb := tbm 1685 (by decide +kernel) rfl
theorem ml_X12_376 : Cond.methodLink RX12 376 (my uX12_goesBy) ∈ tb := tbm 1673 (by decide +kernel) rfl
theorem ml_X12_379 : Cond.methodLink RX12 379 (my uX12_bargainsOf) ∈ tb := tbm 1693 (by decide +kernel) rfl
theorem ml_X12_382 : Cond.methodLink RX12 382 (my uX12_thinks) ∈ tb := tbm 1709 (by decide +kernel) rfl
theorem ml_X12_385 : Cond.methodLink RX12 385 (my uX12_setThatIs) ∈ tb := tbm 1713 (by decide +kernel) rfl
theorem ml_X12_388 : Cond.methodLink RX12 388 (my uX12_sumOf) ∈ tb := tbm 1717 (by decide +kernel) rfl
theorem ml_X12_391 : Cond.methodLink RX12 391 (my uX12_endsThought) ∈ tb := tbm 1721 (by decide +kernel) rfl
theorem ml_X12_398 : Cond.methodLink RX12 398 (my uX12_lesser) ∈ tb := tbm 1742 (by decide +kernel) rfl
theorem ml_X12_401 : Cond.methodLink RX12 401 (my uX12_walkEnds) ∈ tb := tbm 1750 (by decide +kernel) rfl
theorem ml_X12_404 : Cond.methodLink RX12 404 (my uX12_partsTogether) ∈ tb := tbm 1766 (by decide +kernel) rfl
theorem ml_X12_408 : Cond.methodLink RX12 408 (my uX12_digitsOf) ∈ tb := tbm 1775 (by decide +kernel) rfl
theorem ml_X12_416 : Cond.methodLink RX12 416 (my uX12_ownOf) ∈ tb := tbm 1800 (by decide +kernel) rfl
theorem ml_X12_419 : Cond.methodLink RX12 419 (my uX12_roundOf) ∈ tb := tbm 1808 (by decide +kernel) rfl
theorem ml_X12_422 : Cond.methodLink RX12 422 (my uX12_lineSum) ∈ tb := tbm 1824 (by decide +kernel) rfl
theorem ml_X12_425 : Cond.methodLink RX12 425 (my uX12_linesThatCome) ∈ tb := tbm 1820 (by decide +kernel) rfl
theorem ml_X12_428 : Cond.methodLink RX12 428 (my uX12_isBarred) ∈ tb := tbm 1840 (by decide +kernel) rfl
theorem ml_X12_431 : Cond.methodLink RX12 431 (my uX12_goodStep) ∈ tb := tbm 1836 (by decide +kernel) rfl
theorem ml_X12_440 : Cond.methodLink RX12 440 (my uX12_keeps) ∈ tb := tbm 1848 (by decide +kernel) rfl
theorem ml_X12_446 : Cond.methodLink RX12 446 (my uX12_keepsTold) ∈ tb := tbm 1852 (by decide +kernel) rfl
theorem ml_X12_449 : Cond.methodLink RX12 449 (my uX12_keepsLaw) ∈ tb := tbm 1856 (by decide +kernel) rfl
theorem ml_X2_18 : Cond.methodLink RX2 18 (my uX1_clear) ∈ tb := tbm 737 (by decide +kernel) rfl
theorem ml_X2_27 : Cond.methodLink RX2 27 (my uX2_wordAtHand) ∈ tb := tbm 741 (by decide +kernel) rfl
theorem ml_X2_31 : Cond.methodLink RX2 31 (my uX8_refuse) ∈ tb := tbm 799 (by decide +kernel) rfl
theorem ml_X2_35 : Cond.methodLink RX2 35 (my uX8_advance) ∈ tb := tbm 803 (by decide +kernel) rfl
theorem ml_X2_41 : Cond.methodLink RX2 41 (my uX2_readSum) ∈ tb := tbm 804 (by decide +kernel) rfl
theorem ml_X2_47 : Cond.methodLink RX2 47 (my uX8_passWord) ∈ tb := tbm 838 (by decide +kernel) rfl
theorem ml_X2_51 : Cond.methodLink RX2 51 (my uX2_readEither) ∈ tb := tbm 843 (by decide +kernel) rfl
theorem ml_X2_55 : Cond.methodLink RX2 55 (my uX8_takeSign) ∈ tb := tbm 853 (by decide +kernel) rfl
theorem ml_X2_59 : Cond.methodLink RX2 59 (my uX1_appendLine) ∈ tb := tbm 860 (by decide +kernel) rfl
theorem ml_X2_65 : Cond.methodLink RX2 65 (my uX8_isWord) ∈ tb := tbm 745 (by decide +kernel) rfl
theorem ml_X2_91 : Cond.methodLink RX2 91 (my uX2_readTest) ∈ tb := tbm 847 (by decide +kernel) rfl
theorem ml_X2_94 : Cond.methodLink RX2 94 (my uX1_put) ∈ tb := tbm 812 (by decide +kernel) rfl
theorem ml_X2_104 : Cond.methodLink RX2 104 (my uX8_isSign) ∈ tb := tbm 852 (by decide +kernel) rfl
theorem ml_X2_110 : Cond.methodLink RX2 110 (my uX2_readUnit) ∈ tb := tbm 808 (by decide +kernel) rfl
theorem ml_X2_114 : Cond.methodLink RX2 114 (my uX8_passSign) ∈ tb := tbm 829 (by decide +kernel) rfl
theorem ml_X2_118 : Cond.methodLink RX2 118 (my uX2_nameAtHand) ∈ tb := tbm 816 (by decide +kernel) rfl
theorem ml_X3_35 : Cond.methodLink RX3 35 Lib.Math.min.name ∈ tb := tbm 926 (by decide +kernel) rfl
theorem ml_X3_38 : Cond.methodLink RX3 38 arraycopyName ∈ tb := tbm 927 (by decide +kernel) rfl
theorem ml_X4_33 : Cond.methodLink RX4 33 (my uX8_isWord) ∈ tb := tbm 875 (by decide +kernel) rfl
theorem ml_X4_37 : Cond.methodLink RX4 37 (my uX8_refuse) ∈ tb := tbm 876 (by decide +kernel) rfl
theorem ml_X4_41 : Cond.methodLink RX4 41 (my uX8_advance) ∈ tb := tbm 877 (by decide +kernel) rfl
theorem ml_X4_44 : Cond.methodLink RX4 44 (my uX4_readLine) ∈ tb := tbm 878 (by decide +kernel) rfl
theorem ml_X4_48 : Cond.methodLink RX4 48 (my uX8_takeSign) ∈ tb := tbm 916 (by decide +kernel) rfl
theorem ml_X4_62 : Cond.methodLink RX4 62 (my uX3_append) ∈ tb := tbm 917 (by decide +kernel) rfl
theorem ml_X4_66 : Cond.methodLink RX4 66 (my uX4_readHearing) ∈ tb := tbm 882 (by decide +kernel) rfl
theorem ml_X4_70 : Cond.methodLink RX4 70 (my uX8_takeNumber) ∈ tb := tbm 886 (by decide +kernel) rfl
theorem ml_X4_76 : Cond.methodLink RX4 76 (my uX4_readTwist) ∈ tb := tbm 899 (by decide +kernel) rfl
theorem ml_X4_79 : Cond.methodLink RX4 79 (my uX4_readEvening) ∈ tb := tbm 905 (by decide +kernel) rfl
theorem ml_X4_82 : Cond.methodLink RX4 82 (my uX8_takeWord) ∈ tb := tbm 891 (by decide +kernel) rfl
theorem ml_X4_94 : Cond.methodLink RX4 94 (my uX4_kindAtHand) ∈ tb := tbm 909 (by decide +kernel) rfl
theorem ml_X4_114 : Cond.methodLink RX4 114 (my uX9_isOneOf) ∈ tb := tbm 895 (by decide +kernel) rfl
theorem ml_X5_19 : Cond.methodLink RX5 19 (my uX5_walksFrom) ∈ tb := tbm 1021 (by decide +kernel) rfl
theorem ml_X5_23 : Cond.methodLink RX5 23 (my uX5_sumOfParts) ∈ tb := tbm 1049 (by decide +kernel) rfl
theorem ml_X5_27 : Cond.methodLink RX5 27 (my uX5_ofDigits) ∈ tb := tbm 1060 (by decide +kernel) rfl
theorem ml_X5_31 : Cond.methodLink RX5 31 (my uJ13_bitCount_95d88) ∈ tb := tbm 1086 (by decide +kernel) rfl
theorem ml_X5_37 : Cond.methodLink RX5 37 Lib.Math.max.name ∈ tb := tbm 1107 (by decide +kernel) rfl
theorem ml_X5_43 : Cond.methodLink RX5 43 (my uX5_ownDifference) ∈ tb := tbm 1108 (by decide +kernel) rfl
theorem ml_X5_46 : Cond.methodLink RX5 46 (my uJ6_bitCount_0f7a4) ∈ tb := tbm 1121 (by decide +kernel) rfl
theorem ml_X5_50 : Cond.methodLink RX5 50 (my uX5_shifted) ∈ tb := tbm 1118 (by decide +kernel) rfl
theorem ml_X6_29 : Cond.methodLink RX6 29 (my uX9_copyFrom) ∈ tb := tbm 601 (by decide +kernel) rfl
theorem ml_X6_33 : Cond.methodLink RX6 33 Lib.Math.min.name ∈ tb := tbm 608 (by decide +kernel) rfl
theorem ml_X7_39 : Cond.methodLink RX7 39 (my uX7_has) ∈ tb := tbm 995 (by decide +kernel) rfl
theorem ml_X7_43 : Cond.methodLink RX7 43 Lib.Math.min.name ∈ tb := tbm 1198 (by decide +kernel) rfl
theorem ml_X7_46 : Cond.methodLink RX7 46 arraycopyName ∈ tb := tbm 1199 (by decide +kernel) rfl
theorem ml_X8_28 : Cond.methodLink RX8 28 (my uX8_advance) ∈ tb := tbm 725 (by decide +kernel) rfl
theorem ml_X8_34 : Cond.methodLink RX8 34 (my uX8_kindAt) ∈ tb := tbm 729 (by decide +kernel) rfl
theorem ml_X8_44 : Cond.methodLink RX8 44 (my uJ0_length_8abf5) ∈ tb := tbm 749 (by decide +kernel) rfl
theorem ml_X8_49 : Cond.methodLink RX8 49 (my uJ0_charAt_5068e) ∈ tb := tbm 759 (by decide +kernel) rfl
theorem ml_X8_53 : Cond.methodLink RX8 53 (my uX8_isWord) ∈ tb := tbm 842 (by decide +kernel) rfl
theorem ml_X8_57 : Cond.methodLink RX8 57 (my uX8_isSign) ∈ tb := tbm 833 (by decide +kernel) rfl
theorem ml_X8_61 : Cond.methodLink RX8 61 (my uX8_refuse) ∈ tb := tbm 857 (by decide +kernel) rfl
theorem ml_X9_58 : Cond.methodLink RX9 58 arraycopyName ∈ tb := tbm 605 (by decide +kernel) rfl
theorem ml_X9_64 : Cond.methodLink RX9 64 (my uX9_hasPerson) ∈ tb := tbm 560 (by decide +kernel) rfl
theorem ml_X9_68 : Cond.methodLink RX9 68 (my uX9_hasBargain) ∈ tb := tbm 577 (by decide +kernel) rfl
theorem ml_X9_75 : Cond.methodLink RX9 75 (my uX9_canClear) ∈ tb := tbm 681 (by decide +kernel) rfl
theorem ml_X9_80 : Cond.methodLink RX9 80 (my uX9_isOneOf) ∈ tb := tbm 940 (by decide +kernel) rfl
theorem lc_J13_314 : Cond.constantLong RJ13 314 6148914691236517205 ∈ tb := tbm 1089 (by decide +kernel) rfl
theorem lc_J13_316 : Cond.constantLong RJ13 316 3689348814741910323 ∈ tb := tbm 1090 (by decide +kernel) rfl
theorem lc_J13_318 : Cond.constantLong RJ13 318 1085102592571150095 ∈ tb := tbm 1091 (by decide +kernel) rfl
theorem lc_J6_265 : Cond.constant RJ6 265 1431655765 ∈ tb := tbm 635 (by decide +kernel) rfl
theorem lc_J6_266 : Cond.constant RJ6 266 858993459 ∈ tb := tbm 636 (by decide +kernel) rfl
theorem lc_J6_267 : Cond.constant RJ6 267 252645135 ∈ tb := tbm 637 (by decide +kernel) rfl
theorem lc_X11_299 : Cond.constant RX11 299 999999 ∈ tb := tbm 1056 (by decide +kernel) rfl
theorem lc_X11_313 : Cond.constant RX11 313 65535 ∈ tb := tbm 1096 (by decide +kernel) rfl
theorem lc_X11_370 : Cond.constant RX11 370 (-100000) ∈ tb := tbm 1205 (by decide +kernel) rfl
theorem lc_X12_132 : Cond.constant RX12 132 1664525 ∈ tb := tbm 1651 (by decide +kernel) rfl
theorem lc_X12_133 : Cond.constant RX12 133 1013904223 ∈ tb := tbm 1652 (by decide +kernel) rfl
theorem lc_X12_397 : Cond.constant RX12 397 100000000 ∈ tb := tbm 1741 (by decide +kernel) rfl
theorem lc_X12_407 : Cond.constant RX12 407 999999 ∈ tb := tbm 1774 (by decide +kernel) rfl
theorem lc_X12_415 : Cond.constant RX12 415 65535 ∈ tb := tbm 1795 (by decide +kernel) rfl
theorem lc_X12_452 : Cond.constant RX12 452 (-100000) ∈ tb := tbm 1864 (by decide +kernel) rfl
theorem lc_X9_78 : Cond.constant RX9 78 1664525 ∈ tb := tbm 667 (by decide +kernel) rfl
theorem lc_X9_79 : Cond.constant RX9 79 1013904223 ∈ tb := tbm 668 (by decide +kernel) rfl
theorem jmax_1 : Cond.static Lib.Math.max.name ∈ tb := tbm 223 (by decide +kernel) rfl
theorem jmax_2 : Cond.code Lib.Math.max.name Lib.Math.max.code 2 (some .int) ∈ tb := tbm 224 (by decide +kernel) rfl
theorem jmin_1 : Cond.static Lib.Math.min.name ∈ tb := tbm 609 (by decide +kernel) rfl
theorem jmin_2 : Cond.code Lib.Math.min.name Lib.Math.min.code 2 (some .int) ∈ tb := tbm 610 (by decide +kernel) rfl
theorem j_math : Cond.initialized "java/lang/Math" ∈ tb := tbm 105 (by decide +kernel) rfl
theorem j_cp1 : Cond.native arraycopyName ∈ tb := tbm 607 (by decide +kernel) rfl
theorem j_cp2 : Cond.static arraycopyName ∈ tb := tbm 606 (by decide +kernel) rfl
theorem j_cp3 : Cond.initialized "java/lang/System" ∈ tb := tbm 115 (by decide +kernel) rfl
theorem gcs_J0_38 : Cond.fieldLink RJ0 38 "java/lang/String" "COMPACT_STRINGS" "Z" ∈ tb := tbm 757 (by decide +kernel) rfl
theorem gsi_J0_1053 : Cond.fieldLink RJ0 1053 "jdk/internal/util/Preconditions" "SIOOBE_FORMATTER" "Ljava/util/function/BiFunction;" ∈ tb := tbm 773 (by decide +kernel) rfl
theorem gst_X10_73 : Cond.fieldLink RX10 73 RX10 "STRAIGHT" "[I" ∈ tb := tbm 1139 (by decide +kernel) rfl
theorem gsf_J0_9 : Cond.fieldLink RJ0 9 "java/lang/String" "value" "[B" ∈ tb := tbm 1865 (by decide +kernel) rfl
theorem gsf_J0_15 : Cond.fieldLink RJ0 15 "java/lang/String" "coder" "B" ∈ tb := tbm 1866 (by decide +kernel) rfl
theorem kdc_0 : kd 0 = (11, 9) := rfl
theorem kdc_1 : kd 1 = (0, 7) := rfl
theorem kdc_2 : kd 2 = (9, 15) := rfl
theorem kdc_3 : kd 3 = (20, 12) := rfl
theorem kdc_4 : kd 4 = (20, 12) := rfl
theorem kdc_5 : kd 5 = (20, 12) := rfl
theorem kdc_6 : kd 6 = (20, 14) := rfl
theorem kdc_7 : kd 7 = (20, 14) := rfl
theorem kdc_8 : kd 8 = (20, 14) := rfl
theorem kdc_9 : kd 9 = (20, 14) := rfl
theorem kdc_10 : kd 10 = (20, 14) := rfl
theorem kdc_11 : kd 11 = (20, 14) := rfl
theorem kdc_12 : kd 12 = (3, 6) := rfl
theorem kdc_13 : kd 13 = (20, 150) := rfl
theorem kdc_14 : kd 14 = (20, 150) := rfl
theorem kdc_15 : kd 15 = (20, 150) := rfl
theorem kdc_16 : kd 16 = (20, 150) := rfl
theorem kdc_17 : kd 17 = (1, 9) := rfl
theorem kdc_18 : kd 18 = (20, 16) := rfl
theorem kdc_19 : kd 19 = (20, 16) := rfl
theorem kdc_20 : kd 20 = (20, 16) := rfl
theorem kdc_21 : kd 21 = (20, 16) := rfl
theorem kdc_22 : kd 22 = (20, 400) := rfl
theorem kdc_23 : kd 23 = (20, 10) := rfl
theorem kdc_24 : kd 24 = (20, 32) := rfl
theorem kdc_25 : kd 25 = (3, 6) := rfl
theorem kdc_26 : kd 26 = (20, 16) := rfl
theorem kdc_27 : kd 27 = (20, 16) := rfl
theorem kdc_28 : kd 28 = (20, 16) := rfl
theorem kdc_30 : kd 30 = (3, 6) := rfl
theorem kdc_31 : kd 31 = (20, 16) := rfl
theorem kdc_32 : kd 32 = (20, 16) := rfl
theorem kdc_33 : kd 33 = (20, 16) := rfl
theorem kdc_34 : kd 34 = (20, 16) := rfl
theorem kdc_35 : kd 35 = (3, 6) := rfl
theorem kdc_38 : kd 38 = (20, 16) := rfl
theorem kdc_39 : kd 39 = (20, 16) := rfl
theorem kdc_40 : kd 40 = (10, 8) := rfl
theorem kdc_41 : kd 41 = (7, 5) := rfl
theorem kdc_42 : kd 42 = (20, 14) := rfl
theorem kdc_43 : kd 43 = (7, 5) := rfl
theorem kdc_44 : kd 44 = (20, 16) := rfl
theorem kdc_45 : kd 45 = (7, 5) := rfl
theorem kdc_46 : kd 46 = (20, 5) := rfl
theorem kdc_47 : kd 47 = (7, 5) := rfl
theorem kdc_49 : kd 49 = (20, 9) := rfl
theorem kdc_50 : kd 50 = (20, 14) := rfl
theorem kdc_51 : kd 51 = (20, 17) := rfl
theorem kdc_52 : kd 52 = (22, 201) := rfl
theorem kdc_53 : kd 53 = (0, 7) := rfl
theorem kdc_105 : kd 105 = (6, 4) := rfl
theorem kdc_106 : kd 106 = (23, 6) := rfl
theorem kdc_107 : kd 107 = (20, 6) := rfl
theorem kdc_168 : kd 168 = (9, 15) := rfl
theorem kdc_171 : kd 171 = (20, 12) := rfl
theorem kdc_175 : kd 175 = (20, 14) := rfl
theorem kdc_177 : kd 177 = (20, 14) := rfl
theorem kdc_178 : kd 178 = (8, 9) := rfl
theorem kdc_179 : kd 179 = (21, 400) := rfl
theorem kdc_180 : kd 180 = (2, 1) := rfl
theorem kdc_181 : kd 181 = (1, 9) := rfl
theorem kdc_182 : kd 182 = (20, 16) := rfl
theorem kdc_183 : kd 183 = (20, 16) := rfl
theorem kdc_184 : kd 184 = (20, 16) := rfl
theorem kdc_185 : kd 185 = (20, 16) := rfl
theorem kdc_186 : kd 186 = (20, 400) := rfl
theorem kdc_189 : kd 189 = (4, 5) := rfl
theorem kdc_190 : kd 190 = (3, 6) := rfl
theorem kdc_195 : kd 195 = (5, 2) := rfl
theorem kdc_196 : kd 196 = (22, 289) := rfl
theorem kdc_197 : kd 197 = (20, 313) := rfl
theorem kdc_198 : kd 198 = (12, 62) := rfl
theorem kdc_199 : kd 199 = (20, 83) := rfl
theorem kdc_200 : kd 200 = (20, 498) := rfl
theorem kdc_201 : kd 201 = (20, 83) := rfl
theorem kdc_202 : kd 202 = (20, 14) := rfl
theorem kdc_203 : kd 203 = (20, 14) := rfl
theorem kdc_204 : kd 204 = (20, 14) := rfl
theorem kdc_205 : kd 205 = (20, 600) := rfl
theorem kdc_206 : kd 206 = (20, 400) := rfl
theorem kdc_207 : kd 207 = (20, 118) := rfl
theorem kdc_208 : kd 208 = (20, 2) := rfl
theorem kdc_209 : kd 209 = (20, 48) := rfl
theorem kdc_210 : kd 210 = (20, 48) := rfl
theorem kdc_211 : kd 211 = (20, 48) := rfl
theorem kdc_212 : kd 212 = (20, 48) := rfl
theorem kdc_213 : kd 213 = (20, 1200) := rfl
theorem kdc_214 : kd 214 = (20, 1200) := rfl
theorem kdc_215 : kd 215 = (20, 40) := rfl
theorem kdc_216 : kd 216 = (20, 96) := rfl
theorem kdc_217 : kd 217 = (20, 128) := rfl
theorem kdc_218 : kd 218 = (20, 28) := rfl
theorem kdc_219 : kd 219 = (20, 10) := rfl
theorem kdc_220 : kd 220 = (20, 420) := rfl
theorem kdc_221 : kd 221 = (20, 14) := rfl
theorem kdc_222 : kd 222 = (20, 14) := rfl
theorem kdc_223 : kd 223 = (20, 9) := rfl
theorem kdc_224 : kd 224 = (20, 10000) := rfl
theorem kdc_225 : kd 225 = (20, 16) := rfl
theorem kdc_226 : kd 226 = (20, 17) := rfl
theorem kdc_227 : kd 227 = (20, 17) := rfl
theorem kdc_228 : kd 228 = (20, 64) := rfl
theorem kdc_229 : kd 229 = (20, 10) := rfl
theorem kdc_230 : kd 230 = (20, 9) := rfl
theorem kdc_231 : kd 231 = (20, 2) := rfl
theorem kdc_232 : kd 232 = (20, 16) := rfl
theorem kdc_233 : kd 233 = (20, 201) := rfl
theorem kdc_234 : kd 234 = (20, 2200) := rfl
theorem kx_0_1 {k : Nat} (h : kd k = (0, 7)) : kd (k + 1) = (9, 15) := kx_of (by decide) (by decide +kernel) h
theorem kx_0_11 {k : Nat} (h : kd k = (0, 7)) : kd (k + 11) = (3, 6) := kx_of (by decide) (by decide +kernel) h
theorem kx_0_16 {k : Nat} (h : kd k = (0, 7)) : kd (k + 16) = (1, 9) := kx_of (by decide) (by decide +kernel) h
theorem kx_0_24 {k : Nat} (h : kd k = (0, 7)) : kd (k + 24) = (3, 6) := kx_of (by decide) (by decide +kernel) h
theorem kx_0_29 {k : Nat} (h : kd k = (0, 7)) : kd (k + 29) = (3, 6) := kx_of (by decide) (by decide +kernel) h
theorem kx_0_34 {k : Nat} (h : kd k = (0, 7)) : kd (k + 34) = (3, 6) := kx_of (by decide) (by decide +kernel) h
theorem kx_0_39 {k : Nat} (h : kd k = (0, 7)) : kd (k + 39) = (10, 8) := kx_of (by decide) (by decide +kernel) h
theorem kx_1_1 {k : Nat} (h : kd k = (1, 9)) : kd (k + 1) = (20, 16) := kx_of (by decide) (by decide +kernel) h
theorem kx_1_2 {k : Nat} (h : kd k = (1, 9)) : kd (k + 2) = (20, 16) := kx_of (by decide) (by decide +kernel) h
theorem kx_1_3 {k : Nat} (h : kd k = (1, 9)) : kd (k + 3) = (20, 16) := kx_of (by decide) (by decide +kernel) h
theorem kx_1_4 {k : Nat} (h : kd k = (1, 9)) : kd (k + 4) = (20, 16) := kx_of (by decide) (by decide +kernel) h
theorem kx_1_5 {k : Nat} (h : kd k = (1, 9)) : kd (k + 5) = (20, 400) := kx_of (by decide) (by decide +kernel) h
theorem kx_3_1 {k : Nat} (h : kd k = (3, 6)) : kd (k + 1) = (20, kn (k + 1)) := kx_on (by decide) (by decide +kernel) h
theorem kx_3_2 {k : Nat} (h : kd k = (3, 6)) : kd (k + 2) = (20, kn (k + 2)) := kx_on (by decide) (by decide +kernel) h
theorem kx_3_3 {k : Nat} (h : kd k = (3, 6)) : kd (k + 3) = (20, kn (k + 3)) := kx_on (by decide) (by decide +kernel) h
theorem kx_3_4 {k : Nat} (h : kd k = (3, 6)) : kd (k + 4) = (20, kn (k + 4)) := kx_on (by decide) (by decide +kernel) h
theorem kx_7_1 {k : Nat} (h : kd k = (7, 5)) : kd (k + 1) = (20, kn (k + 1)) := kx_on (by decide) (by decide +kernel) h
theorem kx_9_1 {k : Nat} (h : kd k = (9, 15)) : kd (k + 1) = (20, 12) := kx_of (by decide) (by decide +kernel) h
theorem kx_9_2 {k : Nat} (h : kd k = (9, 15)) : kd (k + 2) = (20, 12) := kx_of (by decide) (by decide +kernel) h
theorem kx_9_3 {k : Nat} (h : kd k = (9, 15)) : kd (k + 3) = (20, 12) := kx_of (by decide) (by decide +kernel) h
theorem kx_9_4 {k : Nat} (h : kd k = (9, 15)) : kd (k + 4) = (20, 14) := kx_of (by decide) (by decide +kernel) h
theorem kx_9_5 {k : Nat} (h : kd k = (9, 15)) : kd (k + 5) = (20, 14) := kx_of (by decide) (by decide +kernel) h
theorem kx_9_6 {k : Nat} (h : kd k = (9, 15)) : kd (k + 6) = (20, 14) := kx_of (by decide) (by decide +kernel) h
theorem kx_9_7 {k : Nat} (h : kd k = (9, 15)) : kd (k + 7) = (20, 14) := kx_of (by decide) (by decide +kernel) h
theorem kx_9_8 {k : Nat} (h : kd k = (9, 15)) : kd (k + 8) = (20, 14) := kx_of (by decide) (by decide +kernel) h
theorem kx_9_9 {k : Nat} (h : kd k = (9, 15)) : kd (k + 9) = (20, 14) := kx_of (by decide) (by decide +kernel) h
theorem kx_10_1 {k : Nat} (h : kd k = (10, 8)) : kd (k + 1) = (7, 5) := kx_of (by decide) (by decide +kernel) h
theorem kx_10_3 {k : Nat} (h : kd k = (10, 8)) : kd (k + 3) = (7, 5) := kx_of (by decide) (by decide +kernel) h
theorem kx_10_5 {k : Nat} (h : kd k = (10, 8)) : kd (k + 5) = (7, 5) := kx_of (by decide) (by decide +kernel) h
theorem kx_10_7 {k : Nat} (h : kd k = (10, 8)) : kd (k + 7) = (7, 5) := kx_of (by decide) (by decide +kernel) h
theorem kx_10_9 {k : Nat} (h : kd k = (10, 8)) : kd (k + 9) = (20, 9) := kx_of (by decide) (by decide +kernel) h
theorem bp_m100 : (Int8.ofInt (-100)).toInt32 = (-100) := by decide
theorem bp_m8 : (Int8.ofInt (-8)).toInt32 = (-8) := by decide
theorem bp_6 : (Int8.ofInt 6).toInt32 = 6 := by decide
theorem bp_7 : (Int8.ofInt 7).toInt32 = 7 := by decide
theorem bp_8 : (Int8.ofInt 8).toInt32 = 8 := by decide
theorem bp_9 : (Int8.ofInt 9).toInt32 = 9 := by decide
theorem bp_10 : (Int8.ofInt 10).toInt32 = 10 := by decide
theorem bp_11 : (Int8.ofInt 11).toInt32 = 11 := by decide
theorem bp_12 : (Int8.ofInt 12).toInt32 = 12 := by decide
theorem bp_13 : (Int8.ofInt 13).toInt32 = 13 := by decide
theorem bp_14 : (Int8.ofInt 14).toInt32 = 14 := by decide
theorem bp_15 : (Int8.ofInt 15).toInt32 = 15 := by decide
theorem bp_16 : (Int8.ofInt 16).toInt32 = 16 := by decide
theorem bp_17 : (Int8.ofInt 17).toInt32 = 17 := by decide
theorem bp_18 : (Int8.ofInt 18).toInt32 = 18 := by decide
theorem bp_19 : (Int8.ofInt 19).toInt32 = 19 := by decide
theorem bp_20 : (Int8.ofInt 20).toInt32 = 20 := by decide
theorem bp_21 : (Int8.ofInt 21).toInt32 = 21 := by decide
theorem bp_24 : (Int8.ofInt 24).toInt32 = 24 := by decide
theorem bp_29 : (Int8.ofInt 29).toInt32 = 29 := by decide
theorem bp_30 : (Int8.ofInt 30).toInt32 = 30 := by decide
theorem bp_31 : (Int8.ofInt 31).toInt32 = 31 := by decide
theorem bp_32 : (Int8.ofInt 32).toInt32 = 32 := by decide
theorem bp_40 : (Int8.ofInt 40).toInt32 = 40 := by decide
theorem bp_41 : (Int8.ofInt 41).toInt32 = 41 := by decide
theorem bp_42 : (Int8.ofInt 42).toInt32 = 42 := by decide
theorem bp_43 : (Int8.ofInt 43).toInt32 = 43 := by decide
theorem bp_45 : (Int8.ofInt 45).toInt32 = 45 := by decide
theorem bp_47 : (Int8.ofInt 47).toInt32 = 47 := by decide
theorem bp_48 : (Int8.ofInt 48).toInt32 = 48 := by decide
theorem bp_49 : (Int8.ofInt 49).toInt32 = 49 := by decide
theorem bp_50 : (Int8.ofInt 50).toInt32 = 50 := by decide
theorem bp_55 : (Int8.ofInt 55).toInt32 = 55 := by decide
theorem bp_57 : (Int8.ofInt 57).toInt32 = 57 := by decide
theorem bp_59 : (Int8.ofInt 59).toInt32 = 59 := by decide
theorem bp_60 : (Int8.ofInt 60).toInt32 = 60 := by decide
theorem bp_61 : (Int8.ofInt 61).toInt32 = 61 := by decide
theorem bp_62 : (Int8.ofInt 62).toInt32 = 62 := by decide
theorem bp_63 : (Int8.ofInt 63).toInt32 = 63 := by decide
theorem bp_64 : (Int8.ofInt 64).toInt32 = 64 := by decide
theorem bp_65 : (Int8.ofInt 65).toInt32 = 65 := by decide
theorem bp_69 : (Int8.ofInt 69).toInt32 = 69 := by decide
theorem bp_83 : (Int8.ofInt 83).toInt32 = 83 := by decide
theorem bp_90 : (Int8.ofInt 90).toInt32 = 90 := by decide
theorem bp_97 : (Int8.ofInt 97).toInt32 = 97 := by decide
theorem bp_99 : (Int8.ofInt 99).toInt32 = 99 := by decide
theorem bp_100 : (Int8.ofInt 100).toInt32 = 100 := by decide
theorem bp_117 : (Int8.ofInt 117).toInt32 = 117 := by decide
theorem bp_122 : (Int8.ofInt 122).toInt32 = 122 := by decide
theorem bp_127 : (Int8.ofInt 127).toInt32 = 127 := by decide
theorem ic_m1 : Int32.ofInt (-1) = (-1) := by decide
theorem ic_0 : Int32.ofInt 0 = 0 := by decide
theorem ic_1 : Int32.ofInt 1 = 1 := by decide
theorem ic_2 : Int32.ofInt 2 = 2 := by decide
theorem ic_3 : Int32.ofInt 3 = 3 := by decide
theorem ic_4 : Int32.ofInt 4 = 4 := by decide
theorem ic_5 : Int32.ofInt 5 = 5 := by decide
theorem sp_m10000 : (Int16.ofInt (-10000)).toInt32 = (-10000) := by decide
theorem sp_m1000 : (Int16.ofInt (-1000)).toInt32 = (-1000) := by decide
theorem sp_144 : (Int16.ofInt 144).toInt32 = 144 := by decide
theorem sp_150 : (Int16.ofInt 150).toInt32 = 150 := by decide
theorem sp_200 : (Int16.ofInt 200).toInt32 = 200 := by decide
theorem sp_255 : (Int16.ofInt 255).toInt32 = 255 := by decide
theorem sp_256 : (Int16.ofInt 256).toInt32 = 256 := by decide
theorem sp_300 : (Int16.ofInt 300).toInt32 = 300 := by decide
theorem sp_380 : (Int16.ofInt 380).toInt32 = 380 := by decide
theorem sp_400 : (Int16.ofInt 400).toInt32 = 400 := by decide
theorem sp_500 : (Int16.ofInt 500).toInt32 = 500 := by decide
theorem sp_600 : (Int16.ofInt 600).toInt32 = 600 := by decide
theorem sp_700 : (Int16.ofInt 700).toInt32 = 700 := by decide
theorem sp_800 : (Int16.ofInt 800).toInt32 = 800 := by decide
theorem sp_999 : (Int16.ofInt 999).toInt32 = 999 := by decide
theorem sp_1000 : (Int16.ofInt 1000).toInt32 = 1000 := by decide
theorem sp_3588 : (Int16.ofInt 3588).toInt32 = 3588 := by decide
theorem sp_5050 : (Int16.ofInt 5050).toInt32 = 5050 := by decide
theorem sp_6174 : (Int16.ofInt 6174).toInt32 = 6174 := by decide
theorem sp_7935 : (Int16.ofInt 7935).toInt32 = 7935 := by decide
theorem sp_9999 : (Int16.ofInt 9999).toInt32 = 9999 := by decide
theorem sp_10000 : (Int16.ofInt 10000).toInt32 = 10000 := by decide
theorem sp_20000 : (Int16.ofInt 20000).toInt32 = 20000 := by decide
theorem sp_20097 : (Int16.ofInt 20097).toInt32 = 20097 := by decide
theorem sp_20110 : (Int16.ofInt 20110).toInt32 = 20110 := by decide
theorem sp_20111 : (Int16.ofInt 20111).toInt32 = 20111 := by decide
theorem sp_30000 : (Int16.ofInt 30000).toInt32 = 30000 := by decide
theorem inc_m8 (x : Int32) : x + Int32.ofInt (-8) = x + (-8) := congrArg (x + ·) (show Int32.ofInt (-8) = (-8) by decide)
theorem inc_m1 (x : Int32) : x + Int32.ofInt (-1) = x + (-1) := congrArg (x + ·) (show Int32.ofInt (-1) = (-1) by decide)
theorem inc_1 (x : Int32) : x + Int32.ofInt 1 = x + 1 := congrArg (x + ·) (show Int32.ofInt 1 = 1 by decide)
theorem inc_6 (x : Int32) : x + Int32.ofInt 6 = x + 6 := congrArg (x + ·) (show Int32.ofInt 6 = 6 by decide)
