theorem coX0 : CO 0 RX0 TX0 2 tyX0 := ⟨rfl, rfl, gl [46, 48] (by decide +kernel) (by decide +kernel), tyX0_ok, nmX0⟩
theorem dfX0 : ∀ j, j < 2 → defaultValue (tyX0 j) = if isR 0 j = true then .null else .int 0 := by decide +kernel
theorem coX1 : CO 1 RX1 TX1 2 tyX1 := ⟨rfl, rfl, gl [145, 147] (by decide +kernel) (by decide +kernel), tyX1_ok, nmX1⟩
theorem dfX1 : ∀ j, j < 2 → defaultValue (tyX1 j) = if isR 1 j = true then .null else .int 0 := by decide +kernel
theorem coX2 : CO 2 RX2 TX2 4 tyX2 := ⟨rfl, rfl, gl [67, 69, 71, 73] (by decide +kernel) (by decide +kernel), tyX2_ok, nmX2⟩
theorem dfX2 : ∀ j, j < 4 → defaultValue (tyX2 j) = if isR 2 j = true then .null else .int 0 := by decide +kernel
theorem coX4 : CO 3 RX4 TX4 10 tyX4 := ⟨rfl, rfl, gl [313, 315, 317, 319, 321, 323, 325, 327, 329, 331] (by decide +kernel) (by decide +kernel), tyX4_ok, nmX4⟩
theorem dfX4 : ∀ j, j < 10 → defaultValue (tyX4 j) = if isR 3 j = true then .null else .int 0 := by decide +kernel
theorem coX5 : CO 4 RX5 TX5 9 tyX5 := ⟨rfl, rfl, gl [244, 246, 248, 250, 252, 254, 256, 258, 260] (by decide +kernel) (by decide +kernel), tyX5_ok, nmX5⟩
theorem dfX5 : ∀ j, j < 9 → defaultValue (tyX5 j) = if isR 4 j = true then .null else .int 0 := by decide +kernel
theorem coX6 : CO 5 RX6 TX6 3 tyX6 := ⟨rfl, rfl, gl [160, 162, 164] (by decide +kernel) (by decide +kernel), tyX6_ok, nmX6⟩
theorem dfX6 : ∀ j, j < 3 → defaultValue (tyX6 j) = if isR 5 j = true then .null else .int 0 := by decide +kernel
theorem coX7 : CO 6 RX7 TX7 9 tyX7 := ⟨rfl, rfl, gl [93, 95, 97, 99, 101, 103, 105, 107, 109] (by decide +kernel) (by decide +kernel), tyX7_ok, nmX7⟩
theorem dfX7 : ∀ j, j < 9 → defaultValue (tyX7 j) = if isR 6 j = true then .null else .int 0 := by decide +kernel
theorem coX8 : CO 7 RX8 TX8 4 tyX8 := ⟨rfl, rfl, gl [132, 134, 136, 138] (by decide +kernel) (by decide +kernel), tyX8_ok, nmX8⟩
theorem dfX8 : ∀ j, j < 4 → defaultValue (tyX8 j) = if isR 7 j = true then .null else .int 0 := by decide +kernel
theorem coX9 : CO 8 RX9 TX9 7 tyX9 := ⟨rfl, rfl, gl [548, 550, 552, 554, 556, 558, 560] (by decide +kernel) (by decide +kernel), tyX9_ok, nmX9⟩
theorem dfX9 : ∀ j, j < 7 → defaultValue (tyX9 j) = if isR 8 j = true then .null else .int 0 := by decide +kernel
theorem coX10 : CO 9 RX10 TX10 16 tyX10 := ⟨rfl, rfl, gl [183, 185, 187, 189, 191, 193, 195, 197, 199, 201, 203, 205, 207, 209, 211, 213] (by decide +kernel) (by decide +kernel), tyX10_ok, nmX10⟩
theorem dfX10 : ∀ j, j < 16 → defaultValue (tyX10 j) = if isR 9 j = true then .null else .int 0 := by decide +kernel
theorem coX11 : CO 10 RX11 TX11 68 tyX11 := ⟨rfl, rfl, gl [1020, 1022, 1024, 1026, 1028, 1030, 1032, 1034, 1036, 1038, 1040, 1042, 1044, 1046, 1048, 1050, 1052, 1054, 1056, 1058, 1060, 1062, 1064, 1066, 1068, 1070, 1072, 1074, 1076, 1078, 1080, 1082, 1084, 1086, 1088, 1090, 1092, 1094, 1096, 1098, 1100, 1102, 1104, 1106, 1108, 1110, 1112, 1114, 1116, 1118, 1120, 1122, 1124, 1126, 1128, 1130, 1132, 1134, 1136, 1138, 1140, 1142, 1144, 1146, 1148, 1150, 1152, 1154] (by decide +kernel) (by decide +kernel), tyX11_ok, nmX11⟩
theorem dfX11 : ∀ j, j < 68 → defaultValue (tyX11 j) = if isR 10 j = true then .null else .int 0 := by decide +kernel
def M_B_init : xM := (yX0_init, cX0_init, 1, none, 1, 20, 1)
def M_F_init : xM := (yX2_init, cX2_init, 1, none, 1, 20, 2)
def M_Se_init : xM := (yX7_init, cX7_init, 1, none, 1, 20, 2)
def M_Sl_init : xM := (yX8_init, cX8_init, 1, none, 1, 20, 1)
def M_D_init : xM := (yX1_init, cX1_init, 2, none, 2, 40, 25)
def M_Sa_init : xM := (yX6_init, cX6_init, 1, none, 1, 20, 1)
def M_T_init : xM := (yX10_init, cX10_init, 2, none, 3, 61, 179)
def M_M_init : xM := (yX11_init, cX11_init, 1, none, 1, 20, 52)
def M_R_init : xM := (yX5_init, cX5_init, 2, none, 2, 40, 6)
def M_T_race : xM := (yX10_race, cX10_race, 2, some .int, 3, 61, 7)
def M_M_in : xM := (yX11_in, cX11_in, 3, some .boolean, 0, 0, 0)
def M_M_race : xM := (yX11_race, cX11_race, 2, some .int, 1, 22, 0)
def M_T_findRace : xM := (yX10_findRace, cX10_findRace, 2, some (.object "ToteHouse$Race"), 0, 0, 0)
def M_T_areTerms : xM := (yX10_areTerms, cX10_areTerms, 2, some .boolean, 0, 0, 0)
def M_T_poolNumber : xM := (yX10_poolNumber, cX10_poolNumber, 2, some .int, 0, 0, 0)
def M_Po_init : xM := (yX4_init, cX4_init, 8, none, 1, 20, 5)
def M_T_pool : xM := (yX10_pool, cX10_pool, 7, some .int, 2, 47, 6)
def M_M_isRace : xM := (yX11_isRace, cX11_isRace, 2, some .boolean, 1, 22, 0)
def M_M_areTerms : xM := (yX11_areTerms, cX11_areTerms, 2, some .boolean, 1, 22, 0)
def M_M_tellPool : xM := (yX11_tellPool, cX11_tellPool, 4, none, 0, 0, 0)
def M_M_pool : xM := (yX11_pool, cX11_pool, 6, some .int, 2, 43, 0)
def M_T_twin : xM := (yX10_twin, cX10_twin, 7, some .int, 2, 47, 6)
def M_M_twin : xM := (yX11_twin, cX11_twin, 5, some .int, 2, 43, 0)
def M_R_hasRunner : xM := (yX5_hasRunner, cX5_hasRunner, 2, some .boolean, 0, 0, 0)
def M_R_isOut : xM := (yX5_isOut, cX5_isOut, 2, some .boolean, 1, 21, 0)
def M_T_refuseRunner : xM := (yX10_refuseRunner, cX10_refuseRunner, 3, some .int, 2, 42, 0)
def M_T_substitute : xM := (yX10_substitute, cX10_substitute, 6, some .int, 3, 64, 0)
def M_M_isRunner : xM := (yX11_isRunner, cX11_isRunner, 3, some .boolean, 1, 22, 0)
def M_M_bars : xM := (yX11_bars, cX11_bars, 3, some .int, 2, 44, 0)
def M_M_substitute : xM := (yX11_substitute, cX11_substitute, 5, some .int, 3, 66, 0)
def M_R_takeOut : xM := (yX5_takeOut, cX5_takeOut, 2, none, 0, 0, 0)
def M_Ti_isFor : xM := (yX9_isFor, cX9_isFor, 3, some .boolean, 0, 0, 0)
def M_Ti_stake : xM := (yX9_stake, cX9_stake, 1, some .int, 0, 0, 0)
def M_Po_lineOf : xM := (yX4_lineOf, cX4_lineOf, 5, some .int, 0, 0, 0)
def M_Ti_line : xM := (yX9_line, cX9_line, 1, some .int, 1, 24, 0)
def M_Po_addLive : xM := (yX4_addLive, cX4_addLive, 3, none, 0, 0, 0)
def M_Ti_end : xM := (yX9_end, cX9_end, 4, none, 2, 44, 0)
def M_Ti_refund : xM := (yX9_refund, cX9_refund, 1, none, 3, 67, 0)
def M_Ti_loseRunner : xM := (yX9_loseRunner, cX9_loseRunner, 2, none, 4, 87, 0)
def M_T_scratch : xM := (yX10_scratch, cX10_scratch, 7, some .int, 5, 108, 0)
def M_M_stake : xM := (yX11_stake, cX11_stake, 2, some .int, 0, 0, 0)
def M_M_refund : xM := (yX11_refund, cX11_refund, 2, none, 1, 21, 0)
def M_M_scratch : xM := (yX11_scratch, cX11_scratch, 11, some .int, 3, 66, 0)
def M_T_off : xM := (yX10_off, cX10_off, 3, some .int, 1, 21, 0)
def M_M_running : xM := (yX11_running, cX11_running, 4, some .int, 0, 0, 0)
def M_M_off : xM := (yX11_off, cX11_off, 2, some .int, 2, 43, 0)
def M_T_place : xM := (yX10_place, cX10_place, 7, some .int, 3, 64, 0)
def M_M_place : xM := (yX11_place, cX11_place, 5, some .int, 2, 44, 0)
def M_F_begin : xM := (yX2_begin, cX2_begin, 2, none, 0, 0, 0)
def M_F_add : xM := (yX2_add, cX2_add, 3, none, 0, 0, 0)
def M_R_readFinish : xM := (yX5_readFinish, cX5_readFinish, 2, none, 1, 22, 0)
def M_F_isRight : xM := (yX2_isRight, cX2_isRight, 4, some .boolean, 0, 0, 0)
def M_Jm_min : xM := (yJ9_min_7cf53, cJ9_min_7cf53, 2, some .int, 0, 0, 0)
def M_Po_isSettled : xM := (yX4_isSettled, cX4_isSettled, 1, some .boolean, 0, 0, 0)
def M_Po_isVoid : xM := (yX4_isVoid, cX4_isVoid, 2, some .boolean, 0, 0, 0)
def M_Se_indexOf : xM := (yX7_indexOf, cX7_indexOf, 3, some .int, 0, 0, 0)
def M_Se_take : xM := (yX7_take, cX7_take, 6, none, 1, 24, 0)
def M_Se_takePlaced : xM := (yX7_takePlaced, cX7_takePlaced, 5, none, 2, 49, 0)
def M_F_isNext : xM := (yX2_isNext, cX2_isNext, 5, some .boolean, 0, 0, 0)
def M_Se_takeDoubles : xM := (yX7_takeDoubles, cX7_takeDoubles, 6, none, 2, 49, 0)
def M_Se_takeRows : xM := (yX7_takeRows, cX7_takeRows, 6, none, 2, 49, 0)
def M_Se_findTakers : xM := (yX7_findTakers, cX7_findTakers, 4, none, 3, 74, 0)
def M_Se_unitsOfTakers : xM := (yX7_unitsOfTakers, cX7_unitsOfTakers, 4, some .int, 0, 0, 0)
def M_Jm_max : xM := (yJ9_max_7cf53, cJ9_max_7cf53, 2, some .int, 0, 0, 0)
def M_Se_share : xM := (yX7_share, cX7_share, 7, none, 1, 23, 0)
def M_Se_reckon : xM := (yX7_reckon, cX7_reckon, 7, none, 4, 97, 0)
def M_T_refundAll : xM := (yX10_refundAll, cX10_refundAll, 3, none, 4, 87, 0)
def M_Se_enterInto : xM := (yX7_enterInto, cX7_enterInto, 3, none, 0, 0, 0)
def M_T_carryOn : xM := (yX10_carryOn, cX10_carryOn, 5, none, 1, 21, 0)
def M_T_settleIfRipe : xM := (yX10_settleIfRipe, cX10_settleIfRipe, 2, some .int, 5, 123, 0)
def M_T_official : xM := (yX10_official, cX10_official, 5, some .int, 6, 144, 0)
def M_M_areRight : xM := (yX11_areRight, cX11_areRight, 8, some .boolean, 1, 23, 0)
def M_M_takePositions : xM := (yX11_takePositions, cX11_takePositions, 4, none, 0, 0, 0)
def M_M_group : xM := (yX11_group, cX11_group, 5, none, 0, 0, 0)
def M_M_kindOf : xM := (yX11_kindOf, cX11_kindOf, 1, some .int, 0, 0, 0)
def M_M_isVoid : xM := (yX11_isVoid, cX11_isVoid, 4, some .boolean, 1, 23, 0)
def M_M_fits : xM := (yX11_fits, cX11_fits, 7, some .boolean, 0, 0, 0)
def M_M_wins : xM := (yX11_wins, cX11_wins, 5, some .boolean, 1, 26, 0)
def M_M_figure : xM := (yX11_figure, cX11_figure, 9, none, 2, 50, 0)
def M_M_carry : xM := (yX11_carry, cX11_carry, 4, none, 0, 0, 0)
def M_M_groupOf : xM := (yX11_groupOf, cX11_groupOf, 3, some .int, 0, 0, 0)
def M_M_settle : xM := (yX11_settle, cX11_settle, 4, none, 3, 78, 0)
def M_M_official : xM := (yX11_official, cX11_official, 4, some .int, 4, 101, 0)
def M_T_carriedInto : xM := (yX10_carriedInto, cX10_carriedInto, 3, some .int, 1, 21, 0)
def M_R_standing : xM := (yX5_standing, cX5_standing, 2, some .int, 0, 0, 0)
def M_T_raceAt : xM := (yX10_raceAt, cX10_raceAt, 4, some .int, 2, 43, 0)
def M_M_raceAt : xM := (yX11_raceAt, cX11_raceAt, 4, some .int, 2, 43, 0)
def M_T_findPool : xM := (yX10_findPool, cX10_findPool, 2, some (.object "ToteHouse$Pool"), 0, 0, 0)
def M_T_isWindow : xM := (yX10_isWindow, cX10_isWindow, 1, some .boolean, 0, 0, 0)
def M_Po_refuseLine : xM := (yX4_refuseLine, cX4_refuseLine, 7, some .int, 1, 21, 0)
def M_Po_hasOut : xM := (yX4_hasOut, cX4_hasOut, 4, some .boolean, 2, 42, 0)
def M_Ti_init : xM := (yX9_init, cX9_init, 4, none, 1, 20, 0)
def M_Ti_begin : xM := (yX9_begin, cX9_begin, 5, none, 2, 44, 0)
def M_T_sell : xM := (yX10_sell, cX10_sell, 9, some .int, 3, 68, 1)
def M_M_isThere : xM := (yX11_isThere, cX11_isThere, 2, some .boolean, 1, 22, 0)
def M_M_raceOf : xM := (yX11_raceOf, cX11_raceOf, 2, some .int, 0, 0, 0)
def M_M_barsRow : xM := (yX11_barsRow, cX11_barsRow, 9, some .int, 2, 44, 0)
def M_M_isGone : xM := (yX11_isGone, cX11_isGone, 3, some .boolean, 0, 0, 0)
def M_M_sell : xM := (yX11_sell, cX11_sell, 12, some .int, 3, 72, 0)
def M_T_findTicket : xM := (yX10_findTicket, cX10_findTicket, 2, some (.object "ToteHouse$Ticket"), 0, 0, 0)
def M_T_cancel : xM := (yX10_cancel, cX10_cancel, 3, some .int, 3, 67, 0)
def M_M_isTicket : xM := (yX11_isTicket, cX11_isTicket, 2, some .boolean, 1, 22, 0)
def M_M_cancel : xM := (yX11_cancel, cX11_cancel, 2, some .int, 2, 43, 0)
def M_Ti_isPayable : xM := (yX9_isPayable, cX9_isPayable, 1, some .boolean, 1, 20, 0)
def M_Ti_due : xM := (yX9_due, cX9_due, 2, some .int, 2, 44, 0)
def M_T_payOut : xM := (yX10_payOut, cX10_payOut, 2, some .int, 3, 67, 0)
def M_T_pay : xM := (yX10_pay, cX10_pay, 3, some .int, 4, 88, 0)
def M_M_mayPay : xM := (yX11_mayPay, cX11_mayPay, 2, some .boolean, 0, 0, 0)
def M_M_dueTo : xM := (yX11_dueTo, cX11_dueTo, 2, some .int, 0, 0, 0)
def M_M_payOne : xM := (yX11_payOne, cX11_payOne, 2, some .int, 1, 21, 0)
def M_M_pay : xM := (yX11_pay, cX11_pay, 2, some .int, 2, 43, 0)
def M_T_ticket : xM := (yX10_ticket, cX10_ticket, 4, some .int, 3, 65, 0)
def M_M_ticket : xM := (yX11_ticket, cX11_ticket, 3, some .int, 2, 43, 0)
def M_T_units : xM := (yX10_units, cX10_units, 7, some .int, 2, 47, 0)
def M_M_isFor : xM := (yX11_isFor, cX11_isFor, 8, some .boolean, 1, 20, 0)
def M_M_units : xM := (yX11_units, cX11_units, 8, some .int, 3, 72, 0)
def M_T_dividend : xM := (yX10_dividend, cX10_dividend, 7, some .int, 2, 47, 0)
def M_M_dividend : xM := (yX11_dividend, cX11_dividend, 7, some .int, 3, 72, 0)
def M_R_areRow : xM := (yX5_areRow, cX5_areRow, 4, some .boolean, 2, 42, 0)
def M_T_suppose : xM := (yX10_suppose, cX10_suppose, 5, none, 1, 22, 0)
def M_Se_dividendOf : xM := (yX7_dividendOf, cX7_dividendOf, 3, some .int, 1, 22, 0)
def M_T_odds : xM := (yX10_odds, cX10_odds, 7, some .int, 5, 123, 0)
def M_M_suppose : xM := (yX11_suppose, cX11_suppose, 5, none, 0, 0, 0)
def M_M_odds : xM := (yX11_odds, cX11_odds, 12, some .int, 3, 78, 0)
def M_T_book : xM := (yX10_book, cX10_book, 4, some .int, 1, 21, 0)
def M_M_book : xM := (yX11_book, cX11_book, 3, some .int, 2, 43, 0)
def M_T_rest : xM := (yX10_rest, cX10_rest, 1, some .int, 0, 0, 0)
def M_M_rest : xM := (yX11_rest, cX11_rest, 1, some .int, 0, 0, 0)
def M_T_unclaimed : xM := (yX10_unclaimed, cX10_unclaimed, 3, some .int, 3, 65, 0)
def M_M_unclaimed : xM := (yX11_unclaimed, cX11_unclaimed, 3, some .int, 1, 21, 0)
def M_T_dueIf : xM := (yX10_dueIf, cX10_dueIf, 9, some .int, 5, 123, 0)
def M_T_worst : xM := (yX10_worst, cX10_worst, 9, some .int, 6, 151, 0)
def M_M_dueNow : xM := (yX11_dueNow, cX11_dueNow, 4, some .int, 3, 78, 0)
def M_M_worst : xM := (yX11_worst, cX11_worst, 10, some .int, 4, 101, 0)
def M_T_worstDue : xM := (yX10_worstDue, cX10_worstDue, 1, some .int, 0, 0, 0)
def M_M_worstDue : xM := (yX11_worstDue, cX11_worstDue, 1, some .int, 0, 0, 0)
def M_T_found : xM := (yX10_found, cX10_found, 2, some .int, 0, 0, 0)
def M_T_allDeducted : xM := (yX10_allDeducted, cX10_allDeducted, 4, some .long, 0, 0, 0)
def M_T_premium : xM := (yX10_premium, cX10_premium, 7, some .int, 1, 23, 0)
def M_M_meets : xM := (yX11_meets, cX11_meets, 2, some .int, 0, 0, 0)
def M_M_allDeducted : xM := (yX11_allDeducted, cX11_allDeducted, 3, some .int, 0, 0, 0)
def M_M_premium : xM := (yX11_premium, cX11_premium, 7, some .int, 1, 22, 0)
def M_Sl_holdNothing : xM := (yX8_holdNothing, cX8_holdNothing, 1, none, 0, 0, 0)
def M_D_open : xM := (yX1_open, cX1_open, 3, none, 1, 20, 0)
def M_T_drawer : xM := (yX10_drawer, cX10_drawer, 3, some .int, 2, 42, 0)
def M_M_isWindow : xM := (yX11_isWindow, cX11_isWindow, 1, some .boolean, 1, 22, 0)
def M_M_drawer : xM := (yX11_drawer, cX11_drawer, 4, some .int, 2, 42, 0)
def M_T_lose : xM := (yX10_lose, cX10_lose, 3, some .int, 1, 21, 0)
def M_M_lose : xM := (yX11_lose, cX11_lose, 2, some .int, 2, 42, 0)
def M_T_refuseSlip : xM := (yX10_refuseSlip, cX10_refuseSlip, 3, some .int, 1, 21, 0)
def M_Sl_holdTicket : xM := (yX8_holdTicket, cX8_holdTicket, 2, none, 0, 0, 0)
def M_T_keep : xM := (yX10_keep, cX10_keep, 5, some .int, 2, 43, 0)
def M_M_lacks : xM := (yX11_lacks, cX11_lacks, 3, some .int, 1, 22, 0)
def M_M_keep : xM := (yX11_keep, cX11_keep, 5, some .int, 2, 44, 0)
def M_Sl_holdNote : xM := (yX8_holdNote, cX8_holdNote, 5, none, 0, 0, 0)
def M_T_note : xM := (yX10_note, cX10_note, 7, some .int, 2, 43, 0)
def M_M_note : xM := (yX11_note, cX11_note, 9, some .int, 2, 44, 0)
def M_Ja_fill : xM := (yJ7_fill_53178, cJ7_fill_53178, 4, none, 0, 0, 0)
def M_Sl_holdCoins : xM := (yX8_holdCoins, cX8_holdCoins, 2, none, 1, 23, 0)
def M_T_coins : xM := (yX10_coins, cX10_coins, 5, some .int, 2, 44, 0)
def M_M_coins : xM := (yX11_coins, cX11_coins, 7, some .int, 2, 44, 0)
def M_T_kindOf : xM := (yX10_kindOf, cX10_kindOf, 3, some .int, 1, 21, 0)
def M_T_clear : xM := (yX10_clear, cX10_clear, 5, some .int, 2, 43, 0)
def M_M_kindAt : xM := (yX11_kindAt, cX11_kindAt, 2, some .int, 1, 20, 0)
def M_M_clear : xM := (yX11_clear, cX11_clear, 5, some .int, 2, 44, 0)
def M_T_kind : xM := (yX10_kind, cX10_kind, 4, some .int, 2, 43, 0)
def M_M_kind : xM := (yX11_kind, cX11_kind, 4, some .int, 2, 44, 0)
def M_T_refuseHeld : xM := (yX10_refuseHeld, cX10_refuseHeld, 6, some .int, 2, 43, 0)
def M_T_read : xM := (yX10_read, cX10_read, 4, some .int, 3, 68, 0)
def M_M_lacksAs : xM := (yX11_lacksAs, cX11_lacksAs, 6, some .int, 2, 44, 0)
def M_M_read : xM := (yX11_read, cX11_read, 4, some .int, 3, 69, 0)
def M_T_refuseCell : xM := (yX10_refuseCell, cX10_refuseCell, 6, some .int, 3, 68, 0)
def M_T_letter : xM := (yX10_letter, cX10_letter, 5, some .int, 4, 93, 0)
def M_M_lacksItem : xM := (yX11_lacksItem, cX11_lacksItem, 6, some .int, 3, 69, 0)
def M_M_letter : xM := (yX11_letter, cX11_letter, 5, some .int, 4, 94, 0)
def M_T_coin : xM := (yX10_coin, cX10_coin, 6, some .int, 4, 93, 0)
def M_M_coin : xM := (yX11_coin, cX11_coin, 6, some .int, 4, 94, 0)
def M_T_coinAt : xM := (yX10_coinAt, cX10_coinAt, 5, some .int, 4, 93, 0)
def M_M_none : xM := (yX11_none, cX11_none, 3, some .int, 1, 21, 0)
def M_M_coinAt : xM := (yX11_coinAt, cX11_coinAt, 5, some .int, 4, 94, 0)
def M_T_change : xM := (yX10_change, cX10_change, 6, some .int, 4, 93, 0)
def M_M_change : xM := (yX11_change, cX11_change, 7, some .int, 4, 94, 0)
def M_T_isSatchel : xM := (yX10_isSatchel, cX10_isSatchel, 1, some .boolean, 0, 0, 0)
def M_Sa_begin : xM := (yX6_begin, cX6_begin, 3, none, 1, 23, 0)
def M_T_satchel : xM := (yX10_satchel, cX10_satchel, 4, some .int, 2, 45, 0)
def M_M_isSatchel : xM := (yX11_isSatchel, cX11_isSatchel, 1, some .boolean, 1, 22, 0)
def M_M_satchel : xM := (yX11_satchel, cX11_satchel, 5, some .int, 2, 42, 0)
def M_Sl_brings : xM := (yX8_brings, cX8_brings, 1, some .int, 0, 0, 0)
def M_T_refusePlace : xM := (yX10_refusePlace, cX10_refusePlace, 3, some .int, 1, 21, 0)
def M_Sa_takes : xM := (yX6_takes, cX6_takes, 2, some .boolean, 0, 0, 0)
def M_T_putIn : xM := (yX10_putIn, cX10_putIn, 7, some .int, 2, 43, 0)
def M_T_gather : xM := (yX10_gather, cX10_gather, 8, some .int, 3, 69, 0)
def M_M_takes : xM := (yX11_takes, cX11_takes, 4, some .boolean, 1, 20, 0)
def M_M_gather : xM := (yX11_gather, cX11_gather, 10, some .int, 2, 44, 0)
def M_T_shift : xM := (yX10_shift, cX10_shift, 8, some .int, 3, 69, 0)
def M_M_shift : xM := (yX11_shift, cX11_shift, 7, some .int, 2, 43, 0)
def M_T_came : xM := (yX10_came, cX10_came, 1, some .int, 0, 0, 0)
def M_M_came : xM := (yX11_came, cX11_came, 1, some .int, 0, 0, 0)
def M_T_held : xM := (yX10_held, cX10_held, 4, some .int, 2, 43, 0)
def M_M_held : xM := (yX11_held, cX11_held, 3, some .int, 2, 42, 0)
def M_T_cash : xM := (yX10_cash, cX10_cash, 5, some .int, 4, 88, 0)
def M_M_cash : xM := (yX11_cash, cX11_cash, 5, some .int, 2, 42, 0)
def M_Fl_isNoNumber : xM := (yX3_isNoNumber, cX3_isNoNumber, 1, some .boolean, 0, 0, 0)
def M_T_lap : xM := (yX10_lap, cX10_lap, 4, some .int, 1, 21, 0)
def M_M_isNoNumber : xM := (yX11_isNoNumber, cX11_isNoNumber, 1, some .boolean, 0, 0, 0)
def M_M_single : xM := (yX11_single, cX11_single, 1, some .float, 1, 23, 0)
def M_M_lap : xM := (yX11_lap, cX11_lap, 3, some .int, 2, 43, 0)
def M_T_isLap : xM := (yX10_isLap, cX10_isLap, 3, some .boolean, 1, 21, 0)
def M_T_lapAt : xM := (yX10_lapAt, cX10_lapAt, 4, some .int, 2, 43, 0)
def M_Jf_isNaN : xM := (yJxf58ca_isNaN_12338, cJxf58ca_isNaN_12338, 1, some .boolean, 0, 0, 0)
def M_Jf_floatToIntBits : xM := (yJxf58ca_floatToIntBits_5c35a, cJxf58ca_floatToIntBits_5c35a, 1, some .int, 1, 23, 0)
def M_M_bitsOf : xM := (yX11_bitsOf, cX11_bitsOf, 1, some .int, 2, 43, 0)
def M_M_lapAt : xM := (yX11_lapAt, cX11_lapAt, 3, some .int, 3, 63, 0)
def M_Fl_isNumber : xM := (yX3_isNumber, cX3_isNumber, 1, some .boolean, 0, 0, 0)
def M_R_countNumbers : xM := (yX5_countNumbers, cX5_countNumbers, 3, some .int, 1, 20, 0)
def M_Fl_mantissa : xM := (yX3_mantissa, cX3_mantissa, 2, some .int, 0, 0, 0)
def M_Fl_power : xM := (yX3_power, cX3_power, 2, some .int, 1, 21, 0)
def M_Fl_toFloat : xM := (yX3_toFloat, cX3_toFloat, 4, some .float, 2, 42, 0)
def M_R_extremeLap : xM := (yX5_extremeLap, cX5_extremeLap, 7, some .int, 3, 65, 0)
def M_R_sumOfNumbers : xM := (yX5_sumOfNumbers, cX5_sumOfNumbers, 3, some .float, 3, 65, 0)
def M_Fl_pack : xM := (yX3_pack, cX3_pack, 4, some .int, 0, 0, 0)
def M_Fl_sizeBits : xM := (yX3_sizeBits, cX3_sizeBits, 3, some .int, 1, 23, 0)
def M_Fl_quotientBits : xM := (yX3_quotientBits, cX3_quotientBits, 3, some .int, 2, 45, 0)
def M_T_pace : xM := (yX10_pace, cX10_pace, 5, some .int, 4, 91, 0)
def M_M_isNumber : xM := (yX11_isNumber, cX11_isNumber, 1, some .boolean, 0, 0, 0)
def M_M_pace : xM := (yX11_pace, cX11_pace, 9, some .int, 3, 63, 0)
def M_Fl_sizeOfRemainder : xM := (yX3_sizeOfRemainder, cX3_sizeOfRemainder, 6, some .int, 2, 42, 0)
def M_Fl_remainderBits : xM := (yX3_remainderBits, cX3_remainderBits, 2, some .int, 3, 67, 0)
def M_T_remainder : xM := (yX10_remainder, cX10_remainder, 5, some .int, 4, 88, 0)
def M_M_remainder : xM := (yX11_remainder, cX11_remainder, 6, some .int, 3, 63, 0)
def M_B_write : xM := (yX0_write, cX0_write, 2, none, 0, 0, 0)
def M_B_weighWin : xM := (yX0_weighWin, cX0_weighWin, 2, some .int, 1, 21, 0)
def M_B_weighPlace : xM := (yX0_weighPlace, cX0_weighPlace, 2, some .int, 2, 42, 0)
def M_B_weighPair : xM := (yX0_weighPair, cX0_weighPair, 2, some .int, 2, 42, 0)
def M_B_weighOrder : xM := (yX0_weighOrder, cX0_weighOrder, 2, some .int, 3, 63, 0)
def M_B_weighDouble : xM := (yX0_weighDouble, cX0_weighDouble, 2, some .int, 2, 42, 0)
def M_B_weigh : xM := (yX0_weigh, cX0_weigh, 3, some .int, 4, 84, 0)
def M_B_score : xM := (yX0_score, cX0_score, 4, some .int, 5, 106, 0)
def M_T_ask : xM := (yX10_ask, cX10_ask, 4, some .int, 6, 129, 0)
def M_M_begins : xM := (yX11_begins, cX11_begins, 2, none, 0, 0, 0)
def M_M_weight : xM := (yX11_weight, cX11_weight, 3, some .int, 1, 21, 0)
def M_M_points : xM := (yX11_points, cX11_points, 4, some .int, 2, 43, 0)
def M_M_ask : xM := (yX11_ask, cX11_ask, 3, some .int, 3, 66, 0)
def M_T_trace : xM := (yX10_trace, cX10_trace, 2, some .int, 0, 0, 0)
def M_M_trace : xM := (yX11_trace, cX11_trace, 2, some .int, 1, 22, 0)
def M_T_finding : xM := (yX10_finding, cX10_finding, 1, some .int, 0, 0, 0)
def M_M_finding : xM := (yX11_finding, cX11_finding, 1, some .int, 0, 0, 0)
def M_T_countPools : xM := (yX10_countPools, cX10_countPools, 3, some .int, 0, 0, 0)
def M_T_countLive : xM := (yX10_countLive, cX10_countLive, 3, some .int, 0, 0, 0)
def M_T_count : xM := (yX10_count, cX10_count, 2, some .int, 1, 23, 0)
def M_M_pools : xM := (yX11_pools, cX11_pools, 3, some .int, 0, 0, 0)
def M_M_count : xM := (yX11_count, cX11_count, 4, some .int, 1, 22, 0)
def M_Po_digestOnto : xM := (yX4_digestOnto, cX4_digestOnto, 4, some .long, 0, 0, 0)
def M_T_digest : xM := (yX10_digest, cX10_digest, 5, some .long, 2, 43, 0)
def M_M_digest : xM := (yX11_digest, cX11_digest, 5, some .long, 3, 66, 0)
def M_L_law : xM := (yL_law, cL_law, 4, some .boolean, 7, 179, 4000)
set_option maxRecDepth 1000000 in
set_option maxHeartbeats 4000000 in
theorem mo_B_init : MO M_B_init 0 := ⟨gt 40 rfl rfl, gt 2 (by decide +kernel) (by decide +kernel), plainFor_of_name (by decide +kernel), by decide +kernel, by decide +kernel, by decide +kernel⟩
set_option maxRecDepth 1000000 in
set_option maxHeartbeats 4000000 in
theorem mo_F_init : MO M_F_init 0 := ⟨gt 56 rfl rfl, gt 3 (by decide +kernel) (by decide +kernel), plainFor_of_name (by decide +kernel), by decide +kernel, by decide +kernel, by decide +kernel⟩
set_option maxRecDepth 1000000 in
set_option maxHeartbeats 4000000 in
theorem mo_Se_init : MO M_Se_init 0 := ⟨gt 80 rfl rfl, gt 4 (by decide +kernel) (by decide +kernel), plainFor_of_name (by decide +kernel), by decide +kernel, by decide +kernel, by decide +kernel⟩
set_option maxRecDepth 1000000 in
set_option maxHeartbeats 4000000 in
theorem mo_Sl_init : MO M_Sl_init 0 := ⟨gt 122 rfl rfl, gt 6 (by decide +kernel) (by decide +kernel), plainFor_of_name (by decide +kernel), by decide +kernel, by decide +kernel, by decide +kernel⟩
set_option maxRecDepth 1000000 in
set_option maxHeartbeats 4000000 in
theorem mo_D_init : MO M_D_init 0 := ⟨gt 115 rfl rfl, gt 5 (by decide +kernel) (by decide +kernel), plainFor_of_name (by decide +kernel), by decide +kernel, by decide +kernel, by decide +kernel⟩
set_option maxRecDepth 1000000 in
set_option maxHeartbeats 4000000 in
theorem mo_Sa_init : MO M_Sa_init 0 := ⟨gt 153 rfl rfl, gt 7 (by decide +kernel) (by decide +kernel), plainFor_of_name (by decide +kernel), by decide +kernel, by decide +kernel, by decide +kernel⟩
set_option maxRecDepth 1000000 in
set_option maxHeartbeats 4000000 in
theorem mo_T_init : MO M_T_init 0 := ⟨gt 22 rfl rfl, gt 1 (by decide +kernel) (by decide +kernel), plainFor_of_name (by decide +kernel), by decide +kernel, by decide +kernel, by decide +kernel⟩
set_option maxRecDepth 1000000 in
set_option maxHeartbeats 4000000 in
theorem mo_M_init : MO M_M_init 0 := ⟨gt 950 rfl rfl, gt 8 (by decide +kernel) (by decide +kernel), plainFor_of_name (by decide +kernel), by decide +kernel, by decide +kernel, by decide +kernel⟩
set_option maxRecDepth 1000000 in
set_option maxHeartbeats 4000000 in
theorem mo_R_init : MO M_R_init 1 := ⟨gt 223 rfl rfl, gt 9 (by decide +kernel) (by decide +kernel), plainFor_of_name (by decide +kernel), by decide +kernel, by decide +kernel, by decide +kernel⟩
set_option maxRecDepth 1000000 in
set_option maxHeartbeats 4000000 in
theorem mo_T_race : MO M_T_race 1 := ⟨gt 219 rfl rfl, gt 1 (by decide +kernel) (by decide +kernel), plainFor_of_name (by decide +kernel), by decide +kernel, by decide +kernel, by decide +kernel⟩
set_option maxRecDepth 1000000 in
set_option maxHeartbeats 4000000 in
theorem mo_M_in : MO M_M_in 3 := ⟨gt 1164 rfl rfl, gt 8 (by decide +kernel) (by decide +kernel), plainFor_of_name (by decide +kernel), by decide +kernel, by decide +kernel, by decide +kernel⟩
set_option maxRecDepth 1000000 in
set_option maxHeartbeats 4000000 in
theorem mo_M_race : MO M_M_race 1 := ⟨gt 1161 rfl rfl, gt 8 (by decide +kernel) (by decide +kernel), plainFor_of_name (by decide +kernel), by decide +kernel, by decide +kernel, by decide +kernel⟩
set_option maxRecDepth 1000000 in
set_option maxHeartbeats 4000000 in
theorem mo_T_findRace : MO M_T_findRace 1 := ⟨gt 271 rfl rfl, gt 1 (by decide +kernel) (by decide +kernel), plainFor_of_name (by decide +kernel), by decide +kernel, by decide +kernel, by decide +kernel⟩
set_option maxRecDepth 1000000 in
set_option maxHeartbeats 4000000 in
theorem mo_T_areTerms : MO M_T_areTerms 2 := ⟨gt 274 rfl rfl, gt 1 (by decide +kernel) (by decide +kernel), plainFor_of_name (by decide +kernel), by decide +kernel, by decide +kernel, by decide +kernel⟩
set_option maxRecDepth 1000000 in
set_option maxHeartbeats 4000000 in
theorem mo_T_poolNumber : MO M_T_poolNumber 2 := ⟨gt 277 rfl rfl, gt 1 (by decide +kernel) (by decide +kernel), plainFor_of_name (by decide +kernel), by decide +kernel, by decide +kernel, by decide +kernel⟩
set_option maxRecDepth 1000000 in
set_option maxHeartbeats 4000000 in
theorem mo_Po_init : MO M_Po_init 6 := ⟨gt 281 rfl rfl, gt 10 (by decide +kernel) (by decide +kernel), plainFor_of_name (by decide +kernel), by decide +kernel, by decide +kernel, by decide +kernel⟩
set_option maxRecDepth 1000000 in
set_option maxHeartbeats 4000000 in
theorem mo_T_pool : MO M_T_pool 4 := ⟨gt 267 rfl rfl, gt 1 (by decide +kernel) (by decide +kernel), plainFor_of_name (by decide +kernel), by decide +kernel, by decide +kernel, by decide +kernel⟩
set_option maxRecDepth 1000000 in
set_option maxHeartbeats 4000000 in
theorem mo_M_isRace : MO M_M_isRace 1 := ⟨gt 1172 rfl rfl, gt 8 (by decide +kernel) (by decide +kernel), plainFor_of_name (by decide +kernel), by decide +kernel, by decide +kernel, by decide +kernel⟩
set_option maxRecDepth 1000000 in
set_option maxHeartbeats 4000000 in
theorem mo_M_areTerms : MO M_M_areTerms 2 := ⟨gt 1175 rfl rfl, gt 8 (by decide +kernel) (by decide +kernel), plainFor_of_name (by decide +kernel), by decide +kernel, by decide +kernel, by decide +kernel⟩
set_option maxRecDepth 1000000 in
set_option maxHeartbeats 4000000 in
theorem mo_M_tellPool : MO M_M_tellPool 3 := ⟨gt 1179 rfl rfl, gt 8 (by decide +kernel) (by decide +kernel), plainFor_of_name (by decide +kernel), by decide +kernel, by decide +kernel, by decide +kernel⟩
set_option maxRecDepth 1000000 in
set_option maxHeartbeats 4000000 in
theorem mo_M_pool : MO M_M_pool 4 := ⟨gt 1168 rfl rfl, gt 8 (by decide +kernel) (by decide +kernel), plainFor_of_name (by decide +kernel), by decide +kernel, by decide +kernel, by decide +kernel⟩
set_option maxRecDepth 1000000 in
set_option maxHeartbeats 4000000 in
theorem mo_T_twin : MO M_T_twin 4 := ⟨gt 337 rfl rfl, gt 1 (by decide +kernel) (by decide +kernel), plainFor_of_name (by decide +kernel), by decide +kernel, by decide +kernel, by decide +kernel⟩
set_option maxRecDepth 1000000 in
set_option maxHeartbeats 4000000 in
theorem mo_M_twin : MO M_M_twin 4 := ⟨gt 1183 rfl rfl, gt 8 (by decide +kernel) (by decide +kernel), plainFor_of_name (by decide +kernel), by decide +kernel, by decide +kernel, by decide +kernel⟩
set_option maxRecDepth 1000000 in
set_option maxHeartbeats 4000000 in
theorem mo_R_hasRunner : MO M_R_hasRunner 1 := ⟨gt 348 rfl rfl, gt 9 (by decide +kernel) (by decide +kernel), plainFor_of_name (by decide +kernel), by decide +kernel, by decide +kernel, by decide +kernel⟩
set_option maxRecDepth 1000000 in
set_option maxHeartbeats 4000000 in
theorem mo_R_isOut : MO M_R_isOut 1 := ⟨gt 352 rfl rfl, gt 9 (by decide +kernel) (by decide +kernel), plainFor_of_name (by decide +kernel), by decide +kernel, by decide +kernel, by decide +kernel⟩
set_option maxRecDepth 1000000 in
set_option maxHeartbeats 4000000 in
theorem mo_T_refuseRunner : MO M_T_refuseRunner 3 := ⟨gt 344 rfl rfl, gt 1 (by decide +kernel) (by decide +kernel), plainFor_of_name (by decide +kernel), by decide +kernel, by decide +kernel, by decide +kernel⟩
set_option maxRecDepth 1000000 in
set_option maxHeartbeats 4000000 in
theorem mo_T_substitute : MO M_T_substitute 2 := ⟨gt 341 rfl rfl, gt 1 (by decide +kernel) (by decide +kernel), plainFor_of_name (by decide +kernel), by decide +kernel, by decide +kernel, by decide +kernel⟩
set_option maxRecDepth 1000000 in
set_option maxHeartbeats 4000000 in
theorem mo_M_isRunner : MO M_M_isRunner 2 := ⟨gt 1195 rfl rfl, gt 8 (by decide +kernel) (by decide +kernel), plainFor_of_name (by decide +kernel), by decide +kernel, by decide +kernel, by decide +kernel⟩
set_option maxRecDepth 1000000 in
set_option maxHeartbeats 4000000 in
theorem mo_M_bars : MO M_M_bars 2 := ⟨gt 1191 rfl rfl, gt 8 (by decide +kernel) (by decide +kernel), plainFor_of_name (by decide +kernel), by decide +kernel, by decide +kernel, by decide +kernel⟩
set_option maxRecDepth 1000000 in
set_option maxHeartbeats 4000000 in
theorem mo_M_substitute : MO M_M_substitute 2 := ⟨gt 1187 rfl rfl, gt 8 (by decide +kernel) (by decide +kernel), plainFor_of_name (by decide +kernel), by decide +kernel, by decide +kernel, by decide +kernel⟩
set_option maxRecDepth 1000000 in
set_option maxHeartbeats 4000000 in
theorem mo_R_takeOut : MO M_R_takeOut 1 := ⟨gt 361 rfl rfl, gt 9 (by decide +kernel) (by decide +kernel), plainFor_of_name (by decide +kernel), by decide +kernel, by decide +kernel, by decide +kernel⟩
set_option maxRecDepth 1000000 in
set_option maxHeartbeats 4000000 in
theorem mo_Ti_isFor : MO M_Ti_isFor 2 := ⟨gt 365 rfl rfl, gt 12 (by decide +kernel) (by decide +kernel), plainFor_of_name (by decide +kernel), by decide +kernel, by decide +kernel, by decide +kernel⟩
set_option maxRecDepth 1000000 in
set_option maxHeartbeats 4000000 in
theorem mo_Ti_stake : MO M_Ti_stake 0 := ⟨gt 378 rfl rfl, gt 12 (by decide +kernel) (by decide +kernel), plainFor_of_name (by decide +kernel), by decide +kernel, by decide +kernel, by decide +kernel⟩
set_option maxRecDepth 1000000 in
set_option maxHeartbeats 4000000 in
theorem mo_Po_lineOf : MO M_Po_lineOf 3 := ⟨gt 390 rfl rfl, gt 10 (by decide +kernel) (by decide +kernel), plainFor_of_name (by decide +kernel), by decide +kernel, by decide +kernel, by decide +kernel⟩
set_option maxRecDepth 1000000 in
set_option maxHeartbeats 4000000 in
theorem mo_Ti_line : MO M_Ti_line 0 := ⟨gt 386 rfl rfl, gt 12 (by decide +kernel) (by decide +kernel), plainFor_of_name (by decide +kernel), by decide +kernel, by decide +kernel, by decide +kernel⟩
set_option maxRecDepth 1000000 in
set_option maxHeartbeats 4000000 in
theorem mo_Po_addLive : MO M_Po_addLive 2 := ⟨gt 394 rfl rfl, gt 10 (by decide +kernel) (by decide +kernel), plainFor_of_name (by decide +kernel), by decide +kernel, by decide +kernel, by decide +kernel⟩
set_option maxRecDepth 1000000 in
set_option maxHeartbeats 4000000 in
theorem mo_Ti_end : MO M_Ti_end 3 := ⟨gt 382 rfl rfl, gt 12 (by decide +kernel) (by decide +kernel), plainFor_of_name (by decide +kernel), by decide +kernel, by decide +kernel, by decide +kernel⟩
set_option maxRecDepth 1000000 in
set_option maxHeartbeats 4000000 in
theorem mo_Ti_refund : MO M_Ti_refund 0 := ⟨gt 374 rfl rfl, gt 12 (by decide +kernel) (by decide +kernel), plainFor_of_name (by decide +kernel), by decide +kernel, by decide +kernel, by decide +kernel⟩
set_option maxRecDepth 1000000 in
set_option maxHeartbeats 4000000 in
theorem mo_Ti_loseRunner : MO M_Ti_loseRunner 1 := ⟨gt 369 rfl rfl, gt 12 (by decide +kernel) (by decide +kernel), plainFor_of_name (by decide +kernel), by decide +kernel, by decide +kernel, by decide +kernel⟩
set_option maxRecDepth 1000000 in
set_option maxHeartbeats 4000000 in
theorem mo_T_scratch : MO M_T_scratch 2 := ⟨gt 357 rfl rfl, gt 1 (by decide +kernel) (by decide +kernel), plainFor_of_name (by decide +kernel), by decide +kernel, by decide +kernel, by decide +kernel⟩
set_option maxRecDepth 1000000 in
set_option maxHeartbeats 4000000 in
theorem mo_M_stake : MO M_M_stake 1 := ⟨gt 1207 rfl rfl, gt 8 (by decide +kernel) (by decide +kernel), plainFor_of_name (by decide +kernel), by decide +kernel, by decide +kernel, by decide +kernel⟩
set_option maxRecDepth 1000000 in
set_option maxHeartbeats 4000000 in
theorem mo_M_refund : MO M_M_refund 1 := ⟨gt 1203 rfl rfl, gt 8 (by decide +kernel) (by decide +kernel), plainFor_of_name (by decide +kernel), by decide +kernel, by decide +kernel, by decide +kernel⟩
set_option maxRecDepth 1000000 in
set_option maxHeartbeats 4000000 in
theorem mo_M_scratch : MO M_M_scratch 2 := ⟨gt 1199 rfl rfl, gt 8 (by decide +kernel) (by decide +kernel), plainFor_of_name (by decide +kernel), by decide +kernel, by decide +kernel, by decide +kernel⟩
set_option maxRecDepth 1000000 in
set_option maxHeartbeats 4000000 in
theorem mo_T_off : MO M_T_off 1 := ⟨gt 398 rfl rfl, gt 1 (by decide +kernel) (by decide +kernel), plainFor_of_name (by decide +kernel), by decide +kernel, by decide +kernel, by decide +kernel⟩
set_option maxRecDepth 1000000 in
set_option maxHeartbeats 4000000 in
theorem mo_M_running : MO M_M_running 1 := ⟨gt 1215 rfl rfl, gt 8 (by decide +kernel) (by decide +kernel), plainFor_of_name (by decide +kernel), by decide +kernel, by decide +kernel, by decide +kernel⟩
set_option maxRecDepth 1000000 in
set_option maxHeartbeats 4000000 in
theorem mo_M_off : MO M_M_off 1 := ⟨gt 1211 rfl rfl, gt 8 (by decide +kernel) (by decide +kernel), plainFor_of_name (by decide +kernel), by decide +kernel, by decide +kernel, by decide +kernel⟩
set_option maxRecDepth 1000000 in
set_option maxHeartbeats 4000000 in
theorem mo_T_place : MO M_T_place 3 := ⟨gt 402 rfl rfl, gt 1 (by decide +kernel) (by decide +kernel), plainFor_of_name (by decide +kernel), by decide +kernel, by decide +kernel, by decide +kernel⟩
set_option maxRecDepth 1000000 in
set_option maxHeartbeats 4000000 in
theorem mo_M_place : MO M_M_place 3 := ⟨gt 1219 rfl rfl, gt 8 (by decide +kernel) (by decide +kernel), plainFor_of_name (by decide +kernel), by decide +kernel, by decide +kernel, by decide +kernel⟩
set_option maxRecDepth 1000000 in
set_option maxHeartbeats 4000000 in
theorem mo_F_begin : MO M_F_begin 1 := ⟨gt 414 rfl rfl, gt 3 (by decide +kernel) (by decide +kernel), plainFor_of_name (by decide +kernel), by decide +kernel, by decide +kernel, by decide +kernel⟩
set_option maxRecDepth 1000000 in
set_option maxHeartbeats 4000000 in
theorem mo_F_add : MO M_F_add 2 := ⟨gt 418 rfl rfl, gt 3 (by decide +kernel) (by decide +kernel), plainFor_of_name (by decide +kernel), by decide +kernel, by decide +kernel, by decide +kernel⟩
set_option maxRecDepth 1000000 in
set_option maxHeartbeats 4000000 in
theorem mo_R_readFinish : MO M_R_readFinish 0 := ⟨gt 410 rfl rfl, gt 9 (by decide +kernel) (by decide +kernel), plainFor_of_name (by decide +kernel), by decide +kernel, by decide +kernel, by decide +kernel⟩
set_option maxRecDepth 1000000 in
set_option maxHeartbeats 4000000 in
theorem mo_F_isRight : MO M_F_isRight 0 := ⟨gt 422 rfl rfl, gt 3 (by decide +kernel) (by decide +kernel), plainFor_of_name (by decide +kernel), by decide +kernel, by decide +kernel, by decide +kernel⟩
set_option maxRecDepth 1000000 in
set_option maxHeartbeats 4000000 in
theorem mo_Jm_min : MO M_Jm_min 2 := ⟨gt 425 rfl rfl, gt 11 (by decide +kernel) (by decide +kernel), by decide +kernel, by decide +kernel, by decide +kernel, by decide +kernel⟩
set_option maxRecDepth 1000000 in
set_option maxHeartbeats 4000000 in
theorem mo_Po_isSettled : MO M_Po_isSettled 0 := ⟨gt 433 rfl rfl, gt 10 (by decide +kernel) (by decide +kernel), plainFor_of_name (by decide +kernel), by decide +kernel, by decide +kernel, by decide +kernel⟩
set_option maxRecDepth 1000000 in
set_option maxHeartbeats 4000000 in
theorem mo_Po_isVoid : MO M_Po_isVoid 1 := ⟨gt 441 rfl rfl, gt 10 (by decide +kernel) (by decide +kernel), plainFor_of_name (by decide +kernel), by decide +kernel, by decide +kernel, by decide +kernel⟩
set_option maxRecDepth 1000000 in
set_option maxHeartbeats 4000000 in
theorem mo_Se_indexOf : MO M_Se_indexOf 1 := ⟨gt 458 rfl rfl, gt 4 (by decide +kernel) (by decide +kernel), plainFor_of_name (by decide +kernel), by decide +kernel, by decide +kernel, by decide +kernel⟩
set_option maxRecDepth 1000000 in
set_option maxHeartbeats 4000000 in
theorem mo_Se_take : MO M_Se_take 4 := ⟨gt 453 rfl rfl, gt 4 (by decide +kernel) (by decide +kernel), plainFor_of_name (by decide +kernel), by decide +kernel, by decide +kernel, by decide +kernel⟩
set_option maxRecDepth 1000000 in
set_option maxHeartbeats 4000000 in
theorem mo_Se_takePlaced : MO M_Se_takePlaced 2 := ⟨gt 449 rfl rfl, gt 4 (by decide +kernel) (by decide +kernel), plainFor_of_name (by decide +kernel), by decide +kernel, by decide +kernel, by decide +kernel⟩
set_option maxRecDepth 1000000 in
set_option maxHeartbeats 4000000 in
theorem mo_F_isNext : MO M_F_isNext 3 := ⟨gt 466 rfl rfl, gt 3 (by decide +kernel) (by decide +kernel), plainFor_of_name (by decide +kernel), by decide +kernel, by decide +kernel, by decide +kernel⟩
set_option maxRecDepth 1000000 in
set_option maxHeartbeats 4000000 in
theorem mo_Se_takeDoubles : MO M_Se_takeDoubles 3 := ⟨gt 462 rfl rfl, gt 4 (by decide +kernel) (by decide +kernel), plainFor_of_name (by decide +kernel), by decide +kernel, by decide +kernel, by decide +kernel⟩
set_option maxRecDepth 1000000 in
set_option maxHeartbeats 4000000 in
theorem mo_Se_takeRows : MO M_Se_takeRows 2 := ⟨gt 470 rfl rfl, gt 4 (by decide +kernel) (by decide +kernel), plainFor_of_name (by decide +kernel), by decide +kernel, by decide +kernel, by decide +kernel⟩
set_option maxRecDepth 1000000 in
set_option maxHeartbeats 4000000 in
theorem mo_Se_findTakers : MO M_Se_findTakers 3 := ⟨gt 445 rfl rfl, gt 4 (by decide +kernel) (by decide +kernel), plainFor_of_name (by decide +kernel), by decide +kernel, by decide +kernel, by decide +kernel⟩
set_option maxRecDepth 1000000 in
set_option maxHeartbeats 4000000 in
theorem mo_Se_unitsOfTakers : MO M_Se_unitsOfTakers 1 := ⟨gt 479 rfl rfl, gt 4 (by decide +kernel) (by decide +kernel), plainFor_of_name (by decide +kernel), by decide +kernel, by decide +kernel, by decide +kernel⟩
set_option maxRecDepth 1000000 in
set_option maxHeartbeats 4000000 in
theorem mo_Jm_max : MO M_Jm_max 2 := ⟨gt 482 rfl rfl, gt 11 (by decide +kernel) (by decide +kernel), by decide +kernel, by decide +kernel, by decide +kernel, by decide +kernel⟩
set_option maxRecDepth 1000000 in
set_option maxHeartbeats 4000000 in
theorem mo_Se_share : MO M_Se_share 2 := ⟨gt 475 rfl rfl, gt 4 (by decide +kernel) (by decide +kernel), plainFor_of_name (by decide +kernel), by decide +kernel, by decide +kernel, by decide +kernel⟩
set_option maxRecDepth 1000000 in
set_option maxHeartbeats 4000000 in
theorem mo_Se_reckon : MO M_Se_reckon 3 := ⟨gt 437 rfl rfl, gt 4 (by decide +kernel) (by decide +kernel), plainFor_of_name (by decide +kernel), by decide +kernel, by decide +kernel, by decide +kernel⟩
set_option maxRecDepth 1000000 in
set_option maxHeartbeats 4000000 in
theorem mo_T_refundAll : MO M_T_refundAll 1 := ⟨gt 486 rfl rfl, gt 1 (by decide +kernel) (by decide +kernel), plainFor_of_name (by decide +kernel), by decide +kernel, by decide +kernel, by decide +kernel⟩
set_option maxRecDepth 1000000 in
set_option maxHeartbeats 4000000 in
theorem mo_Se_enterInto : MO M_Se_enterInto 1 := ⟨gt 491 rfl rfl, gt 4 (by decide +kernel) (by decide +kernel), plainFor_of_name (by decide +kernel), by decide +kernel, by decide +kernel, by decide +kernel⟩
set_option maxRecDepth 1000000 in
set_option maxHeartbeats 4000000 in
theorem mo_T_carryOn : MO M_T_carryOn 1 := ⟨gt 495 rfl rfl, gt 1 (by decide +kernel) (by decide +kernel), plainFor_of_name (by decide +kernel), by decide +kernel, by decide +kernel, by decide +kernel⟩
set_option maxRecDepth 1000000 in
set_option maxHeartbeats 4000000 in
theorem mo_T_settleIfRipe : MO M_T_settleIfRipe 1 := ⟨gt 429 rfl rfl, gt 1 (by decide +kernel) (by decide +kernel), plainFor_of_name (by decide +kernel), by decide +kernel, by decide +kernel, by decide +kernel⟩
set_option maxRecDepth 1000000 in
set_option maxHeartbeats 4000000 in
theorem mo_T_official : MO M_T_official 1 := ⟨gt 406 rfl rfl, gt 1 (by decide +kernel) (by decide +kernel), plainFor_of_name (by decide +kernel), by decide +kernel, by decide +kernel, by decide +kernel⟩
set_option maxRecDepth 1000000 in
set_option maxHeartbeats 4000000 in
theorem mo_M_areRight : MO M_M_areRight 1 := ⟨gt 1227 rfl rfl, gt 8 (by decide +kernel) (by decide +kernel), plainFor_of_name (by decide +kernel), by decide +kernel, by decide +kernel, by decide +kernel⟩
set_option maxRecDepth 1000000 in
set_option maxHeartbeats 4000000 in
theorem mo_M_takePositions : MO M_M_takePositions 2 := ⟨gt 1231 rfl rfl, gt 8 (by decide +kernel) (by decide +kernel), plainFor_of_name (by decide +kernel), by decide +kernel, by decide +kernel, by decide +kernel⟩
set_option maxRecDepth 1000000 in
set_option maxHeartbeats 4000000 in
theorem mo_M_group : MO M_M_group 1 := ⟨gt 1239 rfl rfl, gt 8 (by decide +kernel) (by decide +kernel), plainFor_of_name (by decide +kernel), by decide +kernel, by decide +kernel, by decide +kernel⟩
set_option maxRecDepth 1000000 in
set_option maxHeartbeats 4000000 in
theorem mo_M_kindOf : MO M_M_kindOf 1 := ⟨gt 1250 rfl rfl, gt 8 (by decide +kernel) (by decide +kernel), plainFor_of_name (by decide +kernel), by decide +kernel, by decide +kernel, by decide +kernel⟩
set_option maxRecDepth 1000000 in
set_option maxHeartbeats 4000000 in
theorem mo_M_isVoid : MO M_M_isVoid 1 := ⟨gt 1247 rfl rfl, gt 8 (by decide +kernel) (by decide +kernel), plainFor_of_name (by decide +kernel), by decide +kernel, by decide +kernel, by decide +kernel⟩
set_option maxRecDepth 1000000 in
set_option maxHeartbeats 4000000 in
theorem mo_M_fits : MO M_M_fits 4 := ⟨gt 1258 rfl rfl, gt 8 (by decide +kernel) (by decide +kernel), plainFor_of_name (by decide +kernel), by decide +kernel, by decide +kernel, by decide +kernel⟩
set_option maxRecDepth 1000000 in
set_option maxHeartbeats 4000000 in
theorem mo_M_wins : MO M_M_wins 4 := ⟨gt 1254 rfl rfl, gt 8 (by decide +kernel) (by decide +kernel), plainFor_of_name (by decide +kernel), by decide +kernel, by decide +kernel, by decide +kernel⟩
set_option maxRecDepth 1000000 in
set_option maxHeartbeats 4000000 in
theorem mo_M_figure : MO M_M_figure 3 := ⟨gt 1243 rfl rfl, gt 8 (by decide +kernel) (by decide +kernel), plainFor_of_name (by decide +kernel), by decide +kernel, by decide +kernel, by decide +kernel⟩
set_option maxRecDepth 1000000 in
set_option maxHeartbeats 4000000 in
theorem mo_M_carry : MO M_M_carry 2 := ⟨gt 1263 rfl rfl, gt 8 (by decide +kernel) (by decide +kernel), plainFor_of_name (by decide +kernel), by decide +kernel, by decide +kernel, by decide +kernel⟩
set_option maxRecDepth 1000000 in
set_option maxHeartbeats 4000000 in
theorem mo_M_groupOf : MO M_M_groupOf 1 := ⟨gt 1267 rfl rfl, gt 8 (by decide +kernel) (by decide +kernel), plainFor_of_name (by decide +kernel), by decide +kernel, by decide +kernel, by decide +kernel⟩
set_option maxRecDepth 1000000 in
set_option maxHeartbeats 4000000 in
theorem mo_M_settle : MO M_M_settle 1 := ⟨gt 1235 rfl rfl, gt 8 (by decide +kernel) (by decide +kernel), plainFor_of_name (by decide +kernel), by decide +kernel, by decide +kernel, by decide +kernel⟩
set_option maxRecDepth 1000000 in
set_option maxHeartbeats 4000000 in
theorem mo_M_official : MO M_M_official 1 := ⟨gt 1223 rfl rfl, gt 8 (by decide +kernel) (by decide +kernel), plainFor_of_name (by decide +kernel), by decide +kernel, by decide +kernel, by decide +kernel⟩
set_option maxRecDepth 1000000 in
set_option maxHeartbeats 4000000 in
theorem mo_T_carriedInto : MO M_T_carriedInto 1 := ⟨gt 503 rfl rfl, gt 1 (by decide +kernel) (by decide +kernel), plainFor_of_name (by decide +kernel), by decide +kernel, by decide +kernel, by decide +kernel⟩
set_option maxRecDepth 1000000 in
set_option maxHeartbeats 4000000 in
theorem mo_R_standing : MO M_R_standing 1 := ⟨gt 507 rfl rfl, gt 9 (by decide +kernel) (by decide +kernel), plainFor_of_name (by decide +kernel), by decide +kernel, by decide +kernel, by decide +kernel⟩
set_option maxRecDepth 1000000 in
set_option maxHeartbeats 4000000 in
theorem mo_T_raceAt : MO M_T_raceAt 2 := ⟨gt 499 rfl rfl, gt 1 (by decide +kernel) (by decide +kernel), plainFor_of_name (by decide +kernel), by decide +kernel, by decide +kernel, by decide +kernel⟩
set_option maxRecDepth 1000000 in
set_option maxHeartbeats 4000000 in
theorem mo_M_raceAt : MO M_M_raceAt 2 := ⟨gt 1271 rfl rfl, gt 8 (by decide +kernel) (by decide +kernel), plainFor_of_name (by decide +kernel), by decide +kernel, by decide +kernel, by decide +kernel⟩
set_option maxRecDepth 1000000 in
set_option maxHeartbeats 4000000 in
theorem mo_T_findPool : MO M_T_findPool 1 := ⟨gt 515 rfl rfl, gt 1 (by decide +kernel) (by decide +kernel), plainFor_of_name (by decide +kernel), by decide +kernel, by decide +kernel, by decide +kernel⟩
set_option maxRecDepth 1000000 in
set_option maxHeartbeats 4000000 in
theorem mo_T_isWindow : MO M_T_isWindow 1 := ⟨gt 518 rfl rfl, gt 1 (by decide +kernel) (by decide +kernel), plainFor_of_name (by decide +kernel), by decide +kernel, by decide +kernel, by decide +kernel⟩
set_option maxRecDepth 1000000 in
set_option maxHeartbeats 4000000 in
theorem mo_Po_refuseLine : MO M_Po_refuseLine 3 := ⟨gt 522 rfl rfl, gt 10 (by decide +kernel) (by decide +kernel), plainFor_of_name (by decide +kernel), by decide +kernel, by decide +kernel, by decide +kernel⟩
set_option maxRecDepth 1000000 in
set_option maxHeartbeats 4000000 in
theorem mo_Po_hasOut : MO M_Po_hasOut 3 := ⟨gt 527 rfl rfl, gt 10 (by decide +kernel) (by decide +kernel), plainFor_of_name (by decide +kernel), by decide +kernel, by decide +kernel, by decide +kernel⟩
set_option maxRecDepth 1000000 in
set_option maxHeartbeats 4000000 in
theorem mo_Ti_init : MO M_Ti_init 3 := ⟨gt 532 rfl rfl, gt 12 (by decide +kernel) (by decide +kernel), plainFor_of_name (by decide +kernel), by decide +kernel, by decide +kernel, by decide +kernel⟩
set_option maxRecDepth 1000000 in
set_option maxHeartbeats 4000000 in
theorem mo_Ti_begin : MO M_Ti_begin 3 := ⟨gt 566 rfl rfl, gt 12 (by decide +kernel) (by decide +kernel), plainFor_of_name (by decide +kernel), by decide +kernel, by decide +kernel, by decide +kernel⟩
set_option maxRecDepth 1000000 in
set_option maxHeartbeats 4000000 in
theorem mo_T_sell : MO M_T_sell 6 := ⟨gt 511 rfl rfl, gt 1 (by decide +kernel) (by decide +kernel), plainFor_of_name (by decide +kernel), by decide +kernel, by decide +kernel, by decide +kernel⟩
set_option maxRecDepth 1000000 in
set_option maxHeartbeats 4000000 in
theorem mo_M_isThere : MO M_M_isThere 1 := ⟨gt 1279 rfl rfl, gt 8 (by decide +kernel) (by decide +kernel), plainFor_of_name (by decide +kernel), by decide +kernel, by decide +kernel, by decide +kernel⟩
set_option maxRecDepth 1000000 in
set_option maxHeartbeats 4000000 in
theorem mo_M_raceOf : MO M_M_raceOf 1 := ⟨gt 1287 rfl rfl, gt 8 (by decide +kernel) (by decide +kernel), plainFor_of_name (by decide +kernel), by decide +kernel, by decide +kernel, by decide +kernel⟩
set_option maxRecDepth 1000000 in
set_option maxHeartbeats 4000000 in
theorem mo_M_barsRow : MO M_M_barsRow 4 := ⟨gt 1283 rfl rfl, gt 8 (by decide +kernel) (by decide +kernel), plainFor_of_name (by decide +kernel), by decide +kernel, by decide +kernel, by decide +kernel⟩
set_option maxRecDepth 1000000 in
set_option maxHeartbeats 4000000 in
theorem mo_M_isGone : MO M_M_isGone 2 := ⟨gt 1291 rfl rfl, gt 8 (by decide +kernel) (by decide +kernel), plainFor_of_name (by decide +kernel), by decide +kernel, by decide +kernel, by decide +kernel⟩
set_option maxRecDepth 1000000 in
set_option maxHeartbeats 4000000 in
theorem mo_M_sell : MO M_M_sell 6 := ⟨gt 1275 rfl rfl, gt 8 (by decide +kernel) (by decide +kernel), plainFor_of_name (by decide +kernel), by decide +kernel, by decide +kernel, by decide +kernel⟩
set_option maxRecDepth 1000000 in
set_option maxHeartbeats 4000000 in
theorem mo_T_findTicket : MO M_T_findTicket 1 := ⟨gt 574 rfl rfl, gt 1 (by decide +kernel) (by decide +kernel), plainFor_of_name (by decide +kernel), by decide +kernel, by decide +kernel, by decide +kernel⟩
set_option maxRecDepth 1000000 in
set_option maxHeartbeats 4000000 in
theorem mo_T_cancel : MO M_T_cancel 1 := ⟨gt 570 rfl rfl, gt 1 (by decide +kernel) (by decide +kernel), plainFor_of_name (by decide +kernel), by decide +kernel, by decide +kernel, by decide +kernel⟩
set_option maxRecDepth 1000000 in
set_option maxHeartbeats 4000000 in
theorem mo_M_isTicket : MO M_M_isTicket 1 := ⟨gt 1299 rfl rfl, gt 8 (by decide +kernel) (by decide +kernel), plainFor_of_name (by decide +kernel), by decide +kernel, by decide +kernel, by decide +kernel⟩
set_option maxRecDepth 1000000 in
set_option maxHeartbeats 4000000 in
theorem mo_M_cancel : MO M_M_cancel 1 := ⟨gt 1295 rfl rfl, gt 8 (by decide +kernel) (by decide +kernel), plainFor_of_name (by decide +kernel), by decide +kernel, by decide +kernel, by decide +kernel⟩
set_option maxRecDepth 1000000 in
set_option maxHeartbeats 4000000 in
theorem mo_Ti_isPayable : MO M_Ti_isPayable 0 := ⟨gt 584 rfl rfl, gt 12 (by decide +kernel) (by decide +kernel), plainFor_of_name (by decide +kernel), by decide +kernel, by decide +kernel, by decide +kernel⟩
set_option maxRecDepth 1000000 in
set_option maxHeartbeats 4000000 in
theorem mo_Ti_due : MO M_Ti_due 0 := ⟨gt 592 rfl rfl, gt 12 (by decide +kernel) (by decide +kernel), plainFor_of_name (by decide +kernel), by decide +kernel, by decide +kernel, by decide +kernel⟩
set_option maxRecDepth 1000000 in
set_option maxHeartbeats 4000000 in
theorem mo_T_payOut : MO M_T_payOut 1 := ⟨gt 588 rfl rfl, gt 1 (by decide +kernel) (by decide +kernel), plainFor_of_name (by decide +kernel), by decide +kernel, by decide +kernel, by decide +kernel⟩
set_option maxRecDepth 1000000 in
set_option maxHeartbeats 4000000 in
theorem mo_T_pay : MO M_T_pay 1 := ⟨gt 580 rfl rfl, gt 1 (by decide +kernel) (by decide +kernel), plainFor_of_name (by decide +kernel), by decide +kernel, by decide +kernel, by decide +kernel⟩
set_option maxRecDepth 1000000 in
set_option maxHeartbeats 4000000 in
theorem mo_M_mayPay : MO M_M_mayPay 1 := ⟨gt 1307 rfl rfl, gt 8 (by decide +kernel) (by decide +kernel), plainFor_of_name (by decide +kernel), by decide +kernel, by decide +kernel, by decide +kernel⟩
set_option maxRecDepth 1000000 in
set_option maxHeartbeats 4000000 in
theorem mo_M_dueTo : MO M_M_dueTo 1 := ⟨gt 1315 rfl rfl, gt 8 (by decide +kernel) (by decide +kernel), plainFor_of_name (by decide +kernel), by decide +kernel, by decide +kernel, by decide +kernel⟩
set_option maxRecDepth 1000000 in
set_option maxHeartbeats 4000000 in
theorem mo_M_payOne : MO M_M_payOne 1 := ⟨gt 1311 rfl rfl, gt 8 (by decide +kernel) (by decide +kernel), plainFor_of_name (by decide +kernel), by decide +kernel, by decide +kernel, by decide +kernel⟩
set_option maxRecDepth 1000000 in
set_option maxHeartbeats 4000000 in
theorem mo_M_pay : MO M_M_pay 1 := ⟨gt 1303 rfl rfl, gt 8 (by decide +kernel) (by decide +kernel), plainFor_of_name (by decide +kernel), by decide +kernel, by decide +kernel, by decide +kernel⟩
set_option maxRecDepth 1000000 in
set_option maxHeartbeats 4000000 in
theorem mo_T_ticket : MO M_T_ticket 2 := ⟨gt 596 rfl rfl, gt 1 (by decide +kernel) (by decide +kernel), plainFor_of_name (by decide +kernel), by decide +kernel, by decide +kernel, by decide +kernel⟩
set_option maxRecDepth 1000000 in
set_option maxHeartbeats 4000000 in
theorem mo_M_ticket : MO M_M_ticket 2 := ⟨gt 1319 rfl rfl, gt 8 (by decide +kernel) (by decide +kernel), plainFor_of_name (by decide +kernel), by decide +kernel, by decide +kernel, by decide +kernel⟩
set_option maxRecDepth 1000000 in
set_option maxHeartbeats 4000000 in
theorem mo_T_units : MO M_T_units 4 := ⟨gt 600 rfl rfl, gt 1 (by decide +kernel) (by decide +kernel), plainFor_of_name (by decide +kernel), by decide +kernel, by decide +kernel, by decide +kernel⟩
set_option maxRecDepth 1000000 in
set_option maxHeartbeats 4000000 in
theorem mo_M_isFor : MO M_M_isFor 5 := ⟨gt 1327 rfl rfl, gt 8 (by decide +kernel) (by decide +kernel), plainFor_of_name (by decide +kernel), by decide +kernel, by decide +kernel, by decide +kernel⟩
set_option maxRecDepth 1000000 in
set_option maxHeartbeats 4000000 in
theorem mo_M_units : MO M_M_units 4 := ⟨gt 1323 rfl rfl, gt 8 (by decide +kernel) (by decide +kernel), plainFor_of_name (by decide +kernel), by decide +kernel, by decide +kernel, by decide +kernel⟩
set_option maxRecDepth 1000000 in
set_option maxHeartbeats 4000000 in
theorem mo_T_dividend : MO M_T_dividend 4 := ⟨gt 605 rfl rfl, gt 1 (by decide +kernel) (by decide +kernel), plainFor_of_name (by decide +kernel), by decide +kernel, by decide +kernel, by decide +kernel⟩
set_option maxRecDepth 1000000 in
set_option maxHeartbeats 4000000 in
theorem mo_M_dividend : MO M_M_dividend 4 := ⟨gt 1331 rfl rfl, gt 8 (by decide +kernel) (by decide +kernel), plainFor_of_name (by decide +kernel), by decide +kernel, by decide +kernel, by decide +kernel⟩
set_option maxRecDepth 1000000 in
set_option maxHeartbeats 4000000 in
theorem mo_R_areRow : MO M_R_areRow 3 := ⟨gt 613 rfl rfl, gt 9 (by decide +kernel) (by decide +kernel), plainFor_of_name (by decide +kernel), by decide +kernel, by decide +kernel, by decide +kernel⟩
set_option maxRecDepth 1000000 in
set_option maxHeartbeats 4000000 in
theorem mo_T_suppose : MO M_T_suppose 4 := ⟨gt 618 rfl rfl, gt 1 (by decide +kernel) (by decide +kernel), plainFor_of_name (by decide +kernel), by decide +kernel, by decide +kernel, by decide +kernel⟩
set_option maxRecDepth 1000000 in
set_option maxHeartbeats 4000000 in
theorem mo_Se_dividendOf : MO M_Se_dividendOf 1 := ⟨gt 624 rfl rfl, gt 4 (by decide +kernel) (by decide +kernel), plainFor_of_name (by decide +kernel), by decide +kernel, by decide +kernel, by decide +kernel⟩
set_option maxRecDepth 1000000 in
set_option maxHeartbeats 4000000 in
theorem mo_T_odds : MO M_T_odds 4 := ⟨gt 609 rfl rfl, gt 1 (by decide +kernel) (by decide +kernel), plainFor_of_name (by decide +kernel), by decide +kernel, by decide +kernel, by decide +kernel⟩
set_option maxRecDepth 1000000 in
set_option maxHeartbeats 4000000 in
theorem mo_M_suppose : MO M_M_suppose 3 := ⟨gt 1339 rfl rfl, gt 8 (by decide +kernel) (by decide +kernel), plainFor_of_name (by decide +kernel), by decide +kernel, by decide +kernel, by decide +kernel⟩
set_option maxRecDepth 1000000 in
set_option maxHeartbeats 4000000 in
theorem mo_M_odds : MO M_M_odds 4 := ⟨gt 1335 rfl rfl, gt 8 (by decide +kernel) (by decide +kernel), plainFor_of_name (by decide +kernel), by decide +kernel, by decide +kernel, by decide +kernel⟩
set_option maxRecDepth 1000000 in
set_option maxHeartbeats 4000000 in
theorem mo_T_book : MO M_T_book 2 := ⟨gt 628 rfl rfl, gt 1 (by decide +kernel) (by decide +kernel), plainFor_of_name (by decide +kernel), by decide +kernel, by decide +kernel, by decide +kernel⟩
set_option maxRecDepth 1000000 in
set_option maxHeartbeats 4000000 in
theorem mo_M_book : MO M_M_book 2 := ⟨gt 1343 rfl rfl, gt 8 (by decide +kernel) (by decide +kernel), plainFor_of_name (by decide +kernel), by decide +kernel, by decide +kernel, by decide +kernel⟩
set_option maxRecDepth 1000000 in
set_option maxHeartbeats 4000000 in
theorem mo_T_rest : MO M_T_rest 0 := ⟨gt 632 rfl rfl, gt 1 (by decide +kernel) (by decide +kernel), plainFor_of_name (by decide +kernel), by decide +kernel, by decide +kernel, by decide +kernel⟩
set_option maxRecDepth 1000000 in
set_option maxHeartbeats 4000000 in
theorem mo_M_rest : MO M_M_rest 0 := ⟨gt 1347 rfl rfl, gt 8 (by decide +kernel) (by decide +kernel), plainFor_of_name (by decide +kernel), by decide +kernel, by decide +kernel, by decide +kernel⟩
set_option maxRecDepth 1000000 in
set_option maxHeartbeats 4000000 in
theorem mo_T_unclaimed : MO M_T_unclaimed 0 := ⟨gt 636 rfl rfl, gt 1 (by decide +kernel) (by decide +kernel), plainFor_of_name (by decide +kernel), by decide +kernel, by decide +kernel, by decide +kernel⟩
set_option maxRecDepth 1000000 in
set_option maxHeartbeats 4000000 in
theorem mo_M_unclaimed : MO M_M_unclaimed 0 := ⟨gt 1351 rfl rfl, gt 8 (by decide +kernel) (by decide +kernel), plainFor_of_name (by decide +kernel), by decide +kernel, by decide +kernel, by decide +kernel⟩
set_option maxRecDepth 1000000 in
set_option maxHeartbeats 4000000 in
theorem mo_T_dueIf : MO M_T_dueIf 5 := ⟨gt 644 rfl rfl, gt 1 (by decide +kernel) (by decide +kernel), plainFor_of_name (by decide +kernel), by decide +kernel, by decide +kernel, by decide +kernel⟩
set_option maxRecDepth 1000000 in
set_option maxHeartbeats 4000000 in
theorem mo_T_worst : MO M_T_worst 1 := ⟨gt 640 rfl rfl, gt 1 (by decide +kernel) (by decide +kernel), plainFor_of_name (by decide +kernel), by decide +kernel, by decide +kernel, by decide +kernel⟩
set_option maxRecDepth 1000000 in
set_option maxHeartbeats 4000000 in
theorem mo_M_dueNow : MO M_M_dueNow 1 := ⟨gt 1359 rfl rfl, gt 8 (by decide +kernel) (by decide +kernel), plainFor_of_name (by decide +kernel), by decide +kernel, by decide +kernel, by decide +kernel⟩
set_option maxRecDepth 1000000 in
set_option maxHeartbeats 4000000 in
theorem mo_M_worst : MO M_M_worst 1 := ⟨gt 1355 rfl rfl, gt 8 (by decide +kernel) (by decide +kernel), plainFor_of_name (by decide +kernel), by decide +kernel, by decide +kernel, by decide +kernel⟩
set_option maxRecDepth 1000000 in
set_option maxHeartbeats 4000000 in
theorem mo_T_worstDue : MO M_T_worstDue 0 := ⟨gt 648 rfl rfl, gt 1 (by decide +kernel) (by decide +kernel), plainFor_of_name (by decide +kernel), by decide +kernel, by decide +kernel, by decide +kernel⟩
set_option maxRecDepth 1000000 in
set_option maxHeartbeats 4000000 in
theorem mo_M_worstDue : MO M_M_worstDue 0 := ⟨gt 1363 rfl rfl, gt 8 (by decide +kernel) (by decide +kernel), plainFor_of_name (by decide +kernel), by decide +kernel, by decide +kernel, by decide +kernel⟩
set_option maxRecDepth 1000000 in
set_option maxHeartbeats 4000000 in
theorem mo_T_found : MO M_T_found 1 := ⟨gt 656 rfl rfl, gt 1 (by decide +kernel) (by decide +kernel), plainFor_of_name (by decide +kernel), by decide +kernel, by decide +kernel, by decide +kernel⟩
set_option maxRecDepth 1000000 in
set_option maxHeartbeats 4000000 in
theorem mo_T_allDeducted : MO M_T_allDeducted 0 := ⟨gt 660 rfl rfl, gt 1 (by decide +kernel) (by decide +kernel), plainFor_of_name (by decide +kernel), by decide +kernel, by decide +kernel, by decide +kernel⟩
set_option maxRecDepth 1000000 in
set_option maxHeartbeats 4000000 in
theorem mo_T_premium : MO M_T_premium 1 := ⟨gt 652 rfl rfl, gt 1 (by decide +kernel) (by decide +kernel), plainFor_of_name (by decide +kernel), by decide +kernel, by decide +kernel, by decide +kernel⟩
set_option maxRecDepth 1000000 in
set_option maxHeartbeats 4000000 in
theorem mo_M_meets : MO M_M_meets 1 := ⟨gt 1371 rfl rfl, gt 8 (by decide +kernel) (by decide +kernel), plainFor_of_name (by decide +kernel), by decide +kernel, by decide +kernel, by decide +kernel⟩
set_option maxRecDepth 1000000 in
set_option maxHeartbeats 4000000 in
theorem mo_M_allDeducted : MO M_M_allDeducted 0 := ⟨gt 1375 rfl rfl, gt 8 (by decide +kernel) (by decide +kernel), plainFor_of_name (by decide +kernel), by decide +kernel, by decide +kernel, by decide +kernel⟩
set_option maxRecDepth 1000000 in
set_option maxHeartbeats 4000000 in
theorem mo_M_premium : MO M_M_premium 1 := ⟨gt 1367 rfl rfl, gt 8 (by decide +kernel) (by decide +kernel), plainFor_of_name (by decide +kernel), by decide +kernel, by decide +kernel, by decide +kernel⟩
set_option maxRecDepth 1000000 in
set_option maxHeartbeats 4000000 in
theorem mo_Sl_holdNothing : MO M_Sl_holdNothing 0 := ⟨gt 672 rfl rfl, gt 6 (by decide +kernel) (by decide +kernel), plainFor_of_name (by decide +kernel), by decide +kernel, by decide +kernel, by decide +kernel⟩
set_option maxRecDepth 1000000 in
set_option maxHeartbeats 4000000 in
theorem mo_D_open : MO M_D_open 1 := ⟨gt 668 rfl rfl, gt 5 (by decide +kernel) (by decide +kernel), plainFor_of_name (by decide +kernel), by decide +kernel, by decide +kernel, by decide +kernel⟩
set_option maxRecDepth 1000000 in
set_option maxHeartbeats 4000000 in
theorem mo_T_drawer : MO M_T_drawer 2 := ⟨gt 664 rfl rfl, gt 1 (by decide +kernel) (by decide +kernel), plainFor_of_name (by decide +kernel), by decide +kernel, by decide +kernel, by decide +kernel⟩
set_option maxRecDepth 1000000 in
set_option maxHeartbeats 4000000 in
theorem mo_M_isWindow : MO M_M_isWindow 1 := ⟨gt 1382 rfl rfl, gt 8 (by decide +kernel) (by decide +kernel), plainFor_of_name (by decide +kernel), by decide +kernel, by decide +kernel, by decide +kernel⟩
set_option maxRecDepth 1000000 in
set_option maxHeartbeats 4000000 in
theorem mo_M_drawer : MO M_M_drawer 2 := ⟨gt 1379 rfl rfl, gt 8 (by decide +kernel) (by decide +kernel), plainFor_of_name (by decide +kernel), by decide +kernel, by decide +kernel, by decide +kernel⟩
set_option maxRecDepth 1000000 in
set_option maxHeartbeats 4000000 in
theorem mo_T_lose : MO M_T_lose 1 := ⟨gt 676 rfl rfl, gt 1 (by decide +kernel) (by decide +kernel), plainFor_of_name (by decide +kernel), by decide +kernel, by decide +kernel, by decide +kernel⟩
set_option maxRecDepth 1000000 in
set_option maxHeartbeats 4000000 in
theorem mo_M_lose : MO M_M_lose 1 := ⟨gt 1386 rfl rfl, gt 8 (by decide +kernel) (by decide +kernel), plainFor_of_name (by decide +kernel), by decide +kernel, by decide +kernel, by decide +kernel⟩
set_option maxRecDepth 1000000 in
set_option maxHeartbeats 4000000 in
theorem mo_T_refuseSlip : MO M_T_refuseSlip 2 := ⟨gt 684 rfl rfl, gt 1 (by decide +kernel) (by decide +kernel), plainFor_of_name (by decide +kernel), by decide +kernel, by decide +kernel, by decide +kernel⟩
set_option maxRecDepth 1000000 in
set_option maxHeartbeats 4000000 in
theorem mo_Sl_holdTicket : MO M_Sl_holdTicket 1 := ⟨gt 688 rfl rfl, gt 6 (by decide +kernel) (by decide +kernel), plainFor_of_name (by decide +kernel), by decide +kernel, by decide +kernel, by decide +kernel⟩
set_option maxRecDepth 1000000 in
set_option maxHeartbeats 4000000 in
theorem mo_T_keep : MO M_T_keep 3 := ⟨gt 680 rfl rfl, gt 1 (by decide +kernel) (by decide +kernel), plainFor_of_name (by decide +kernel), by decide +kernel, by decide +kernel, by decide +kernel⟩
set_option maxRecDepth 1000000 in
set_option maxHeartbeats 4000000 in
theorem mo_M_lacks : MO M_M_lacks 2 := ⟨gt 1394 rfl rfl, gt 8 (by decide +kernel) (by decide +kernel), plainFor_of_name (by decide +kernel), by decide +kernel, by decide +kernel, by decide +kernel⟩
set_option maxRecDepth 1000000 in
set_option maxHeartbeats 4000000 in
theorem mo_M_keep : MO M_M_keep 3 := ⟨gt 1390 rfl rfl, gt 8 (by decide +kernel) (by decide +kernel), plainFor_of_name (by decide +kernel), by decide +kernel, by decide +kernel, by decide +kernel⟩
set_option maxRecDepth 1000000 in
set_option maxHeartbeats 4000000 in
theorem mo_Sl_holdNote : MO M_Sl_holdNote 2 := ⟨gt 696 rfl rfl, gt 6 (by decide +kernel) (by decide +kernel), plainFor_of_name (by decide +kernel), by decide +kernel, by decide +kernel, by decide +kernel⟩
set_option maxRecDepth 1000000 in
set_option maxHeartbeats 4000000 in
theorem mo_T_note : MO M_T_note 4 := ⟨gt 692 rfl rfl, gt 1 (by decide +kernel) (by decide +kernel), plainFor_of_name (by decide +kernel), by decide +kernel, by decide +kernel, by decide +kernel⟩
set_option maxRecDepth 1000000 in
set_option maxHeartbeats 4000000 in
theorem mo_M_note : MO M_M_note 4 := ⟨gt 1398 rfl rfl, gt 8 (by decide +kernel) (by decide +kernel), plainFor_of_name (by decide +kernel), by decide +kernel, by decide +kernel, by decide +kernel⟩
set_option maxRecDepth 1000000 in
set_option maxHeartbeats 4000000 in
theorem mo_Ja_fill : MO M_Ja_fill 2 := ⟨gt 708 rfl rfl, gt 13 (by decide +kernel) (by decide +kernel), by decide +kernel, by decide +kernel, by decide +kernel, by decide +kernel⟩
set_option maxRecDepth 1000000 in
set_option maxHeartbeats 4000000 in
theorem mo_Sl_holdCoins : MO M_Sl_holdCoins 1 := ⟨gt 705 rfl rfl, gt 6 (by decide +kernel) (by decide +kernel), plainFor_of_name (by decide +kernel), by decide +kernel, by decide +kernel, by decide +kernel⟩
set_option maxRecDepth 1000000 in
set_option maxHeartbeats 4000000 in
theorem mo_T_coins : MO M_T_coins 3 := ⟨gt 701 rfl rfl, gt 1 (by decide +kernel) (by decide +kernel), plainFor_of_name (by decide +kernel), by decide +kernel, by decide +kernel, by decide +kernel⟩
set_option maxRecDepth 1000000 in
set_option maxHeartbeats 4000000 in
theorem mo_M_coins : MO M_M_coins 3 := ⟨gt 1403 rfl rfl, gt 8 (by decide +kernel) (by decide +kernel), plainFor_of_name (by decide +kernel), by decide +kernel, by decide +kernel, by decide +kernel⟩
set_option maxRecDepth 1000000 in
set_option maxHeartbeats 4000000 in
theorem mo_T_kindOf : MO M_T_kindOf 1 := ⟨gt 716 rfl rfl, gt 1 (by decide +kernel) (by decide +kernel), plainFor_of_name (by decide +kernel), by decide +kernel, by decide +kernel, by decide +kernel⟩
set_option maxRecDepth 1000000 in
set_option maxHeartbeats 4000000 in
theorem mo_T_clear : MO M_T_clear 2 := ⟨gt 712 rfl rfl, gt 1 (by decide +kernel) (by decide +kernel), plainFor_of_name (by decide +kernel), by decide +kernel, by decide +kernel, by decide +kernel⟩
set_option maxRecDepth 1000000 in
set_option maxHeartbeats 4000000 in
theorem mo_M_kindAt : MO M_M_kindAt 1 := ⟨gt 1411 rfl rfl, gt 8 (by decide +kernel) (by decide +kernel), plainFor_of_name (by decide +kernel), by decide +kernel, by decide +kernel, by decide +kernel⟩
set_option maxRecDepth 1000000 in
set_option maxHeartbeats 4000000 in
theorem mo_M_clear : MO M_M_clear 2 := ⟨gt 1407 rfl rfl, gt 8 (by decide +kernel) (by decide +kernel), plainFor_of_name (by decide +kernel), by decide +kernel, by decide +kernel, by decide +kernel⟩
set_option maxRecDepth 1000000 in
set_option maxHeartbeats 4000000 in
theorem mo_T_kind : MO M_T_kind 2 := ⟨gt 721 rfl rfl, gt 1 (by decide +kernel) (by decide +kernel), plainFor_of_name (by decide +kernel), by decide +kernel, by decide +kernel, by decide +kernel⟩
set_option maxRecDepth 1000000 in
set_option maxHeartbeats 4000000 in
theorem mo_M_kind : MO M_M_kind 2 := ⟨gt 1415 rfl rfl, gt 8 (by decide +kernel) (by decide +kernel), plainFor_of_name (by decide +kernel), by decide +kernel, by decide +kernel, by decide +kernel⟩
set_option maxRecDepth 1000000 in
set_option maxHeartbeats 4000000 in
theorem mo_T_refuseHeld : MO M_T_refuseHeld 3 := ⟨gt 729 rfl rfl, gt 1 (by decide +kernel) (by decide +kernel), plainFor_of_name (by decide +kernel), by decide +kernel, by decide +kernel, by decide +kernel⟩
set_option maxRecDepth 1000000 in
set_option maxHeartbeats 4000000 in
theorem mo_T_read : MO M_T_read 2 := ⟨gt 725 rfl rfl, gt 1 (by decide +kernel) (by decide +kernel), plainFor_of_name (by decide +kernel), by decide +kernel, by decide +kernel, by decide +kernel⟩
set_option maxRecDepth 1000000 in
set_option maxHeartbeats 4000000 in
theorem mo_M_lacksAs : MO M_M_lacksAs 3 := ⟨gt 1423 rfl rfl, gt 8 (by decide +kernel) (by decide +kernel), plainFor_of_name (by decide +kernel), by decide +kernel, by decide +kernel, by decide +kernel⟩
set_option maxRecDepth 1000000 in
set_option maxHeartbeats 4000000 in
theorem mo_M_read : MO M_M_read 2 := ⟨gt 1419 rfl rfl, gt 8 (by decide +kernel) (by decide +kernel), plainFor_of_name (by decide +kernel), by decide +kernel, by decide +kernel, by decide +kernel⟩
set_option maxRecDepth 1000000 in
set_option maxHeartbeats 4000000 in
theorem mo_T_refuseCell : MO M_T_refuseCell 4 := ⟨gt 737 rfl rfl, gt 1 (by decide +kernel) (by decide +kernel), plainFor_of_name (by decide +kernel), by decide +kernel, by decide +kernel, by decide +kernel⟩
set_option maxRecDepth 1000000 in
set_option maxHeartbeats 4000000 in
theorem mo_T_letter : MO M_T_letter 3 := ⟨gt 733 rfl rfl, gt 1 (by decide +kernel) (by decide +kernel), plainFor_of_name (by decide +kernel), by decide +kernel, by decide +kernel, by decide +kernel⟩
set_option maxRecDepth 1000000 in
set_option maxHeartbeats 4000000 in
theorem mo_M_lacksItem : MO M_M_lacksItem 4 := ⟨gt 1431 rfl rfl, gt 8 (by decide +kernel) (by decide +kernel), plainFor_of_name (by decide +kernel), by decide +kernel, by decide +kernel, by decide +kernel⟩
set_option maxRecDepth 1000000 in
set_option maxHeartbeats 4000000 in
theorem mo_M_letter : MO M_M_letter 3 := ⟨gt 1427 rfl rfl, gt 8 (by decide +kernel) (by decide +kernel), plainFor_of_name (by decide +kernel), by decide +kernel, by decide +kernel, by decide +kernel⟩
set_option maxRecDepth 1000000 in
set_option maxHeartbeats 4000000 in
theorem mo_T_coin : MO M_T_coin 4 := ⟨gt 741 rfl rfl, gt 1 (by decide +kernel) (by decide +kernel), plainFor_of_name (by decide +kernel), by decide +kernel, by decide +kernel, by decide +kernel⟩
set_option maxRecDepth 1000000 in
set_option maxHeartbeats 4000000 in
theorem mo_M_coin : MO M_M_coin 4 := ⟨gt 1435 rfl rfl, gt 8 (by decide +kernel) (by decide +kernel), plainFor_of_name (by decide +kernel), by decide +kernel, by decide +kernel, by decide +kernel⟩
set_option maxRecDepth 1000000 in
set_option maxHeartbeats 4000000 in
theorem mo_T_coinAt : MO M_T_coinAt 3 := ⟨gt 745 rfl rfl, gt 1 (by decide +kernel) (by decide +kernel), plainFor_of_name (by decide +kernel), by decide +kernel, by decide +kernel, by decide +kernel⟩
set_option maxRecDepth 1000000 in
set_option maxHeartbeats 4000000 in
theorem mo_M_none : MO M_M_none 1 := ⟨gt 1443 rfl rfl, gt 8 (by decide +kernel) (by decide +kernel), plainFor_of_name (by decide +kernel), by decide +kernel, by decide +kernel, by decide +kernel⟩
set_option maxRecDepth 1000000 in
set_option maxHeartbeats 4000000 in
theorem mo_M_coinAt : MO M_M_coinAt 3 := ⟨gt 1439 rfl rfl, gt 8 (by decide +kernel) (by decide +kernel), plainFor_of_name (by decide +kernel), by decide +kernel, by decide +kernel, by decide +kernel⟩
set_option maxRecDepth 1000000 in
set_option maxHeartbeats 4000000 in
theorem mo_T_change : MO M_T_change 4 := ⟨gt 749 rfl rfl, gt 1 (by decide +kernel) (by decide +kernel), plainFor_of_name (by decide +kernel), by decide +kernel, by decide +kernel, by decide +kernel⟩
set_option maxRecDepth 1000000 in
set_option maxHeartbeats 4000000 in
theorem mo_M_change : MO M_M_change 4 := ⟨gt 1447 rfl rfl, gt 8 (by decide +kernel) (by decide +kernel), plainFor_of_name (by decide +kernel), by decide +kernel, by decide +kernel, by decide +kernel⟩
set_option maxRecDepth 1000000 in
set_option maxHeartbeats 4000000 in
theorem mo_T_isSatchel : MO M_T_isSatchel 1 := ⟨gt 756 rfl rfl, gt 1 (by decide +kernel) (by decide +kernel), plainFor_of_name (by decide +kernel), by decide +kernel, by decide +kernel, by decide +kernel⟩
set_option maxRecDepth 1000000 in
set_option maxHeartbeats 4000000 in
theorem mo_Sa_begin : MO M_Sa_begin 2 := ⟨gt 760 rfl rfl, gt 7 (by decide +kernel) (by decide +kernel), plainFor_of_name (by decide +kernel), by decide +kernel, by decide +kernel, by decide +kernel⟩
set_option maxRecDepth 1000000 in
set_option maxHeartbeats 4000000 in
theorem mo_T_satchel : MO M_T_satchel 3 := ⟨gt 753 rfl rfl, gt 1 (by decide +kernel) (by decide +kernel), plainFor_of_name (by decide +kernel), by decide +kernel, by decide +kernel, by decide +kernel⟩
set_option maxRecDepth 1000000 in
set_option maxHeartbeats 4000000 in
theorem mo_M_isSatchel : MO M_M_isSatchel 1 := ⟨gt 1454 rfl rfl, gt 8 (by decide +kernel) (by decide +kernel), plainFor_of_name (by decide +kernel), by decide +kernel, by decide +kernel, by decide +kernel⟩
set_option maxRecDepth 1000000 in
set_option maxHeartbeats 4000000 in
theorem mo_M_satchel : MO M_M_satchel 3 := ⟨gt 1451 rfl rfl, gt 8 (by decide +kernel) (by decide +kernel), plainFor_of_name (by decide +kernel), by decide +kernel, by decide +kernel, by decide +kernel⟩
set_option maxRecDepth 1000000 in
set_option maxHeartbeats 4000000 in
theorem mo_Sl_brings : MO M_Sl_brings 0 := ⟨gt 769 rfl rfl, gt 6 (by decide +kernel) (by decide +kernel), plainFor_of_name (by decide +kernel), by decide +kernel, by decide +kernel, by decide +kernel⟩
set_option maxRecDepth 1000000 in
set_option maxHeartbeats 4000000 in
theorem mo_T_refusePlace : MO M_T_refusePlace 2 := ⟨gt 777 rfl rfl, gt 1 (by decide +kernel) (by decide +kernel), plainFor_of_name (by decide +kernel), by decide +kernel, by decide +kernel, by decide +kernel⟩
set_option maxRecDepth 1000000 in
set_option maxHeartbeats 4000000 in
theorem mo_Sa_takes : MO M_Sa_takes 1 := ⟨gt 781 rfl rfl, gt 7 (by decide +kernel) (by decide +kernel), plainFor_of_name (by decide +kernel), by decide +kernel, by decide +kernel, by decide +kernel⟩
set_option maxRecDepth 1000000 in
set_option maxHeartbeats 4000000 in
theorem mo_T_putIn : MO M_T_putIn 3 := ⟨gt 773 rfl rfl, gt 1 (by decide +kernel) (by decide +kernel), plainFor_of_name (by decide +kernel), by decide +kernel, by decide +kernel, by decide +kernel⟩
set_option maxRecDepth 1000000 in
set_option maxHeartbeats 4000000 in
theorem mo_T_gather : MO M_T_gather 5 := ⟨gt 765 rfl rfl, gt 1 (by decide +kernel) (by decide +kernel), plainFor_of_name (by decide +kernel), by decide +kernel, by decide +kernel, by decide +kernel⟩
set_option maxRecDepth 1000000 in
set_option maxHeartbeats 4000000 in
theorem mo_M_takes : MO M_M_takes 2 := ⟨gt 1462 rfl rfl, gt 8 (by decide +kernel) (by decide +kernel), plainFor_of_name (by decide +kernel), by decide +kernel, by decide +kernel, by decide +kernel⟩
set_option maxRecDepth 1000000 in
set_option maxHeartbeats 4000000 in
theorem mo_M_gather : MO M_M_gather 5 := ⟨gt 1458 rfl rfl, gt 8 (by decide +kernel) (by decide +kernel), plainFor_of_name (by decide +kernel), by decide +kernel, by decide +kernel, by decide +kernel⟩
set_option maxRecDepth 1000000 in
set_option maxHeartbeats 4000000 in
theorem mo_T_shift : MO M_T_shift 5 := ⟨gt 785 rfl rfl, gt 1 (by decide +kernel) (by decide +kernel), plainFor_of_name (by decide +kernel), by decide +kernel, by decide +kernel, by decide +kernel⟩
set_option maxRecDepth 1000000 in
set_option maxHeartbeats 4000000 in
theorem mo_M_shift : MO M_M_shift 5 := ⟨gt 1466 rfl rfl, gt 8 (by decide +kernel) (by decide +kernel), plainFor_of_name (by decide +kernel), by decide +kernel, by decide +kernel, by decide +kernel⟩
set_option maxRecDepth 1000000 in
set_option maxHeartbeats 4000000 in
theorem mo_T_came : MO M_T_came 0 := ⟨gt 792 rfl rfl, gt 1 (by decide +kernel) (by decide +kernel), plainFor_of_name (by decide +kernel), by decide +kernel, by decide +kernel, by decide +kernel⟩
set_option maxRecDepth 1000000 in
set_option maxHeartbeats 4000000 in
theorem mo_M_came : MO M_M_came 0 := ⟨gt 1470 rfl rfl, gt 8 (by decide +kernel) (by decide +kernel), plainFor_of_name (by decide +kernel), by decide +kernel, by decide +kernel, by decide +kernel⟩
set_option maxRecDepth 1000000 in
set_option maxHeartbeats 4000000 in
theorem mo_T_held : MO M_T_held 2 := ⟨gt 796 rfl rfl, gt 1 (by decide +kernel) (by decide +kernel), plainFor_of_name (by decide +kernel), by decide +kernel, by decide +kernel, by decide +kernel⟩
set_option maxRecDepth 1000000 in
set_option maxHeartbeats 4000000 in
theorem mo_M_held : MO M_M_held 2 := ⟨gt 1474 rfl rfl, gt 8 (by decide +kernel) (by decide +kernel), plainFor_of_name (by decide +kernel), by decide +kernel, by decide +kernel, by decide +kernel⟩
set_option maxRecDepth 1000000 in
set_option maxHeartbeats 4000000 in
theorem mo_T_cash : MO M_T_cash 1 := ⟨gt 800 rfl rfl, gt 1 (by decide +kernel) (by decide +kernel), plainFor_of_name (by decide +kernel), by decide +kernel, by decide +kernel, by decide +kernel⟩
set_option maxRecDepth 1000000 in
set_option maxHeartbeats 4000000 in
theorem mo_M_cash : MO M_M_cash 1 := ⟨gt 1478 rfl rfl, gt 8 (by decide +kernel) (by decide +kernel), plainFor_of_name (by decide +kernel), by decide +kernel, by decide +kernel, by decide +kernel⟩
set_option maxRecDepth 1000000 in
set_option maxHeartbeats 4000000 in
theorem mo_Fl_isNoNumber : MO M_Fl_isNoNumber 1 := ⟨gt 807 rfl rfl, gt 15 (by decide +kernel) (by decide +kernel), plainFor_of_name (by decide +kernel), by decide +kernel, by decide +kernel, by decide +kernel⟩
set_option maxRecDepth 1000000 in
set_option maxHeartbeats 4000000 in
theorem mo_T_lap : MO M_T_lap 2 := ⟨gt 804 rfl rfl, gt 1 (by decide +kernel) (by decide +kernel), plainFor_of_name (by decide +kernel), by decide +kernel, by decide +kernel, by decide +kernel⟩
set_option maxRecDepth 1000000 in
set_option maxHeartbeats 4000000 in
theorem mo_M_isNoNumber : MO M_M_isNoNumber 1 := ⟨gt 1488 rfl rfl, gt 8 (by decide +kernel) (by decide +kernel), plainFor_of_name (by decide +kernel), by decide +kernel, by decide +kernel, by decide +kernel⟩
set_option maxRecDepth 1000000 in
set_option maxHeartbeats 4000000 in
theorem mo_M_single : MO M_M_single 1 := ⟨gt 1485 rfl rfl, gt 8 (by decide +kernel) (by decide +kernel), plainFor_of_name (by decide +kernel), by decide +kernel, by decide +kernel, by decide +kernel⟩
set_option maxRecDepth 1000000 in
set_option maxHeartbeats 4000000 in
theorem mo_M_lap : MO M_M_lap 2 := ⟨gt 1482 rfl rfl, gt 8 (by decide +kernel) (by decide +kernel), plainFor_of_name (by decide +kernel), by decide +kernel, by decide +kernel, by decide +kernel⟩
set_option maxRecDepth 1000000 in
set_option maxHeartbeats 4000000 in
theorem mo_T_isLap : MO M_T_isLap 2 := ⟨gt 818 rfl rfl, gt 1 (by decide +kernel) (by decide +kernel), plainFor_of_name (by decide +kernel), by decide +kernel, by decide +kernel, by decide +kernel⟩
set_option maxRecDepth 1000000 in
set_option maxHeartbeats 4000000 in
theorem mo_T_lapAt : MO M_T_lapAt 2 := ⟨gt 814 rfl rfl, gt 1 (by decide +kernel) (by decide +kernel), plainFor_of_name (by decide +kernel), by decide +kernel, by decide +kernel, by decide +kernel⟩
set_option maxRecDepth 1000000 in
set_option maxHeartbeats 4000000 in
theorem mo_Jf_isNaN : MO M_Jf_isNaN 1 := ⟨gt 1507 rfl rfl, gt 17 (by decide +kernel) (by decide +kernel), by decide +kernel, by decide +kernel, by decide +kernel, by decide +kernel⟩
set_option maxRecDepth 1000000 in
set_option maxHeartbeats 4000000 in
theorem mo_Jf_floatToIntBits : MO M_Jf_floatToIntBits 1 := ⟨gt 1504 rfl rfl, gt 17 (by decide +kernel) (by decide +kernel), by decide +kernel, by decide +kernel, by decide +kernel, by decide +kernel⟩
set_option maxRecDepth 1000000 in
set_option maxHeartbeats 4000000 in
theorem mo_M_bitsOf : MO M_M_bitsOf 1 := ⟨gt 1501 rfl rfl, gt 8 (by decide +kernel) (by decide +kernel), plainFor_of_name (by decide +kernel), by decide +kernel, by decide +kernel, by decide +kernel⟩
set_option maxRecDepth 1000000 in
set_option maxHeartbeats 4000000 in
theorem mo_M_lapAt : MO M_M_lapAt 2 := ⟨gt 1498 rfl rfl, gt 8 (by decide +kernel) (by decide +kernel), plainFor_of_name (by decide +kernel), by decide +kernel, by decide +kernel, by decide +kernel⟩
set_option maxRecDepth 1000000 in
set_option maxHeartbeats 4000000 in
theorem mo_Fl_isNumber : MO M_Fl_isNumber 1 := ⟨gt 829 rfl rfl, gt 15 (by decide +kernel) (by decide +kernel), plainFor_of_name (by decide +kernel), by decide +kernel, by decide +kernel, by decide +kernel⟩
set_option maxRecDepth 1000000 in
set_option maxHeartbeats 4000000 in
theorem mo_R_countNumbers : MO M_R_countNumbers 0 := ⟨gt 826 rfl rfl, gt 9 (by decide +kernel) (by decide +kernel), plainFor_of_name (by decide +kernel), by decide +kernel, by decide +kernel, by decide +kernel⟩
set_option maxRecDepth 1000000 in
set_option maxHeartbeats 4000000 in
theorem mo_Fl_mantissa : MO M_Fl_mantissa 1 := ⟨gt 840 rfl rfl, gt 15 (by decide +kernel) (by decide +kernel), plainFor_of_name (by decide +kernel), by decide +kernel, by decide +kernel, by decide +kernel⟩
set_option maxRecDepth 1000000 in
set_option maxHeartbeats 4000000 in
theorem mo_Fl_power : MO M_Fl_power 1 := ⟨gt 845 rfl rfl, gt 15 (by decide +kernel) (by decide +kernel), plainFor_of_name (by decide +kernel), by decide +kernel, by decide +kernel, by decide +kernel⟩
set_option maxRecDepth 1000000 in
set_option maxHeartbeats 4000000 in
theorem mo_Fl_toFloat : MO M_Fl_toFloat 1 := ⟨gt 837 rfl rfl, gt 15 (by decide +kernel) (by decide +kernel), plainFor_of_name (by decide +kernel), by decide +kernel, by decide +kernel, by decide +kernel⟩
set_option maxRecDepth 1000000 in
set_option maxHeartbeats 4000000 in
theorem mo_R_extremeLap : MO M_R_extremeLap 1 := ⟨gt 833 rfl rfl, gt 9 (by decide +kernel) (by decide +kernel), plainFor_of_name (by decide +kernel), by decide +kernel, by decide +kernel, by decide +kernel⟩
set_option maxRecDepth 1000000 in
set_option maxHeartbeats 4000000 in
theorem mo_R_sumOfNumbers : MO M_R_sumOfNumbers 0 := ⟨gt 851 rfl rfl, gt 9 (by decide +kernel) (by decide +kernel), plainFor_of_name (by decide +kernel), by decide +kernel, by decide +kernel, by decide +kernel⟩
set_option maxRecDepth 1000000 in
set_option maxHeartbeats 4000000 in
theorem mo_Fl_pack : MO M_Fl_pack 2 := ⟨gt 863 rfl rfl, gt 15 (by decide +kernel) (by decide +kernel), plainFor_of_name (by decide +kernel), by decide +kernel, by decide +kernel, by decide +kernel⟩
set_option maxRecDepth 1000000 in
set_option maxHeartbeats 4000000 in
theorem mo_Fl_sizeBits : MO M_Fl_sizeBits 1 := ⟨gt 857 rfl rfl, gt 15 (by decide +kernel) (by decide +kernel), plainFor_of_name (by decide +kernel), by decide +kernel, by decide +kernel, by decide +kernel⟩
set_option maxRecDepth 1000000 in
set_option maxHeartbeats 4000000 in
theorem mo_Fl_quotientBits : MO M_Fl_quotientBits 2 := ⟨gt 854 rfl rfl, gt 15 (by decide +kernel) (by decide +kernel), plainFor_of_name (by decide +kernel), by decide +kernel, by decide +kernel, by decide +kernel⟩
set_option maxRecDepth 1000000 in
set_option maxHeartbeats 4000000 in
theorem mo_T_pace : MO M_T_pace 2 := ⟨gt 822 rfl rfl, gt 1 (by decide +kernel) (by decide +kernel), plainFor_of_name (by decide +kernel), by decide +kernel, by decide +kernel, by decide +kernel⟩
set_option maxRecDepth 1000000 in
set_option maxHeartbeats 4000000 in
theorem mo_M_isNumber : MO M_M_isNumber 1 := ⟨gt 1518 rfl rfl, gt 8 (by decide +kernel) (by decide +kernel), plainFor_of_name (by decide +kernel), by decide +kernel, by decide +kernel, by decide +kernel⟩
set_option maxRecDepth 1000000 in
set_option maxHeartbeats 4000000 in
theorem mo_M_pace : MO M_M_pace 2 := ⟨gt 1515 rfl rfl, gt 8 (by decide +kernel) (by decide +kernel), plainFor_of_name (by decide +kernel), by decide +kernel, by decide +kernel, by decide +kernel⟩
set_option maxRecDepth 1000000 in
set_option maxHeartbeats 4000000 in
theorem mo_Fl_sizeOfRemainder : MO M_Fl_sizeOfRemainder 2 := ⟨gt 877 rfl rfl, gt 15 (by decide +kernel) (by decide +kernel), plainFor_of_name (by decide +kernel), by decide +kernel, by decide +kernel, by decide +kernel⟩
set_option maxRecDepth 1000000 in
set_option maxHeartbeats 4000000 in
theorem mo_Fl_remainderBits : MO M_Fl_remainderBits 2 := ⟨gt 871 rfl rfl, gt 15 (by decide +kernel) (by decide +kernel), plainFor_of_name (by decide +kernel), by decide +kernel, by decide +kernel, by decide +kernel⟩
set_option maxRecDepth 1000000 in
set_option maxHeartbeats 4000000 in
theorem mo_T_remainder : MO M_T_remainder 3 := ⟨gt 868 rfl rfl, gt 1 (by decide +kernel) (by decide +kernel), plainFor_of_name (by decide +kernel), by decide +kernel, by decide +kernel, by decide +kernel⟩
set_option maxRecDepth 1000000 in
set_option maxHeartbeats 4000000 in
theorem mo_M_remainder : MO M_M_remainder 3 := ⟨gt 1524 rfl rfl, gt 8 (by decide +kernel) (by decide +kernel), plainFor_of_name (by decide +kernel), by decide +kernel, by decide +kernel, by decide +kernel⟩
set_option maxRecDepth 1000000 in
set_option maxHeartbeats 4000000 in
theorem mo_B_write : MO M_B_write 1 := ⟨gt 893 rfl rfl, gt 2 (by decide +kernel) (by decide +kernel), plainFor_of_name (by decide +kernel), by decide +kernel, by decide +kernel, by decide +kernel⟩
set_option maxRecDepth 1000000 in
set_option maxHeartbeats 4000000 in
theorem mo_B_weighWin : MO M_B_weighWin 1 := ⟨gt 897 rfl rfl, gt 2 (by decide +kernel) (by decide +kernel), plainFor_of_name (by decide +kernel), by decide +kernel, by decide +kernel, by decide +kernel⟩
set_option maxRecDepth 1000000 in
set_option maxHeartbeats 4000000 in
theorem mo_B_weighPlace : MO M_B_weighPlace 1 := ⟨gt 889 rfl rfl, gt 2 (by decide +kernel) (by decide +kernel), plainFor_of_name (by decide +kernel), by decide +kernel, by decide +kernel, by decide +kernel⟩
set_option maxRecDepth 1000000 in
set_option maxHeartbeats 4000000 in
theorem mo_B_weighPair : MO M_B_weighPair 1 := ⟨gt 901 rfl rfl, gt 2 (by decide +kernel) (by decide +kernel), plainFor_of_name (by decide +kernel), by decide +kernel, by decide +kernel, by decide +kernel⟩
set_option maxRecDepth 1000000 in
set_option maxHeartbeats 4000000 in
theorem mo_B_weighOrder : MO M_B_weighOrder 1 := ⟨gt 905 rfl rfl, gt 2 (by decide +kernel) (by decide +kernel), plainFor_of_name (by decide +kernel), by decide +kernel, by decide +kernel, by decide +kernel⟩
set_option maxRecDepth 1000000 in
set_option maxHeartbeats 4000000 in
theorem mo_B_weighDouble : MO M_B_weighDouble 1 := ⟨gt 909 rfl rfl, gt 2 (by decide +kernel) (by decide +kernel), plainFor_of_name (by decide +kernel), by decide +kernel, by decide +kernel, by decide +kernel⟩
set_option maxRecDepth 1000000 in
set_option maxHeartbeats 4000000 in
theorem mo_B_weigh : MO M_B_weigh 2 := ⟨gt 885 rfl rfl, gt 2 (by decide +kernel) (by decide +kernel), plainFor_of_name (by decide +kernel), by decide +kernel, by decide +kernel, by decide +kernel⟩
set_option maxRecDepth 1000000 in
set_option maxHeartbeats 4000000 in
theorem mo_B_score : MO M_B_score 2 := ⟨gt 913 rfl rfl, gt 2 (by decide +kernel) (by decide +kernel), plainFor_of_name (by decide +kernel), by decide +kernel, by decide +kernel, by decide +kernel⟩
set_option maxRecDepth 1000000 in
set_option maxHeartbeats 4000000 in
theorem mo_T_ask : MO M_T_ask 2 := ⟨gt 881 rfl rfl, gt 1 (by decide +kernel) (by decide +kernel), plainFor_of_name (by decide +kernel), by decide +kernel, by decide +kernel, by decide +kernel⟩
set_option maxRecDepth 1000000 in
set_option maxHeartbeats 4000000 in
theorem mo_M_begins : MO M_M_begins 1 := ⟨gt 1536 rfl rfl, gt 8 (by decide +kernel) (by decide +kernel), plainFor_of_name (by decide +kernel), by decide +kernel, by decide +kernel, by decide +kernel⟩
set_option maxRecDepth 1000000 in
set_option maxHeartbeats 4000000 in
theorem mo_M_weight : MO M_M_weight 1 := ⟨gt 1532 rfl rfl, gt 8 (by decide +kernel) (by decide +kernel), plainFor_of_name (by decide +kernel), by decide +kernel, by decide +kernel, by decide +kernel⟩
set_option maxRecDepth 1000000 in
set_option maxHeartbeats 4000000 in
theorem mo_M_points : MO M_M_points 1 := ⟨gt 1540 rfl rfl, gt 8 (by decide +kernel) (by decide +kernel), plainFor_of_name (by decide +kernel), by decide +kernel, by decide +kernel, by decide +kernel⟩
set_option maxRecDepth 1000000 in
set_option maxHeartbeats 4000000 in
theorem mo_M_ask : MO M_M_ask 2 := ⟨gt 1528 rfl rfl, gt 8 (by decide +kernel) (by decide +kernel), plainFor_of_name (by decide +kernel), by decide +kernel, by decide +kernel, by decide +kernel⟩
set_option maxRecDepth 1000000 in
set_option maxHeartbeats 4000000 in
theorem mo_T_trace : MO M_T_trace 1 := ⟨gt 918 rfl rfl, gt 1 (by decide +kernel) (by decide +kernel), plainFor_of_name (by decide +kernel), by decide +kernel, by decide +kernel, by decide +kernel⟩
set_option maxRecDepth 1000000 in
set_option maxHeartbeats 4000000 in
theorem mo_M_trace : MO M_M_trace 1 := ⟨gt 1544 rfl rfl, gt 8 (by decide +kernel) (by decide +kernel), plainFor_of_name (by decide +kernel), by decide +kernel, by decide +kernel, by decide +kernel⟩
set_option maxRecDepth 1000000 in
set_option maxHeartbeats 4000000 in
theorem mo_T_finding : MO M_T_finding 0 := ⟨gt 922 rfl rfl, gt 1 (by decide +kernel) (by decide +kernel), plainFor_of_name (by decide +kernel), by decide +kernel, by decide +kernel, by decide +kernel⟩
set_option maxRecDepth 1000000 in
set_option maxHeartbeats 4000000 in
theorem mo_M_finding : MO M_M_finding 0 := ⟨gt 1548 rfl rfl, gt 8 (by decide +kernel) (by decide +kernel), plainFor_of_name (by decide +kernel), by decide +kernel, by decide +kernel, by decide +kernel⟩
set_option maxRecDepth 1000000 in
set_option maxHeartbeats 4000000 in
theorem mo_T_countPools : MO M_T_countPools 0 := ⟨gt 930 rfl rfl, gt 1 (by decide +kernel) (by decide +kernel), plainFor_of_name (by decide +kernel), by decide +kernel, by decide +kernel, by decide +kernel⟩
set_option maxRecDepth 1000000 in
set_option maxHeartbeats 4000000 in
theorem mo_T_countLive : MO M_T_countLive 0 := ⟨gt 934 rfl rfl, gt 1 (by decide +kernel) (by decide +kernel), plainFor_of_name (by decide +kernel), by decide +kernel, by decide +kernel, by decide +kernel⟩
set_option maxRecDepth 1000000 in
set_option maxHeartbeats 4000000 in
theorem mo_T_count : MO M_T_count 1 := ⟨gt 926 rfl rfl, gt 1 (by decide +kernel) (by decide +kernel), plainFor_of_name (by decide +kernel), by decide +kernel, by decide +kernel, by decide +kernel⟩
set_option maxRecDepth 1000000 in
set_option maxHeartbeats 4000000 in
theorem mo_M_pools : MO M_M_pools 0 := ⟨gt 1556 rfl rfl, gt 8 (by decide +kernel) (by decide +kernel), plainFor_of_name (by decide +kernel), by decide +kernel, by decide +kernel, by decide +kernel⟩
set_option maxRecDepth 1000000 in
set_option maxHeartbeats 4000000 in
theorem mo_M_count : MO M_M_count 1 := ⟨gt 1552 rfl rfl, gt 8 (by decide +kernel) (by decide +kernel), plainFor_of_name (by decide +kernel), by decide +kernel, by decide +kernel, by decide +kernel⟩
set_option maxRecDepth 1000000 in
set_option maxHeartbeats 4000000 in
theorem mo_Po_digestOnto : MO M_Po_digestOnto 1 := ⟨gt 944 rfl rfl, gt 10 (by decide +kernel) (by decide +kernel), plainFor_of_name (by decide +kernel), by decide +kernel, by decide +kernel, by decide +kernel⟩
set_option maxRecDepth 1000000 in
set_option maxHeartbeats 4000000 in
theorem mo_T_digest : MO M_T_digest 0 := ⟨gt 938 rfl rfl, gt 1 (by decide +kernel) (by decide +kernel), plainFor_of_name (by decide +kernel), by decide +kernel, by decide +kernel, by decide +kernel⟩
set_option maxRecDepth 1000000 in
set_option maxHeartbeats 4000000 in
theorem mo_M_digest : MO M_M_digest 0 := ⟨gt 1560 rfl rfl, gt 8 (by decide +kernel) (by decide +kernel), plainFor_of_name (by decide +kernel), by decide +kernel, by decide +kernel, by decide +kernel⟩
theorem lo_X0_3 : Cond.methodLink RX0 3 Lib.objectInit ∈ gw := gt 41 (by decide +kernel) (by decide +kernel)
theorem ac_int : Cond.arrayClass .int ∈ gw := gt 51 (by decide +kernel) (by decide +kernel)
theorem fl_X0_9 : Cond.fieldLink RX0 9 (TX0 0).1 (TX0 0).2.1 (TX0 0).2.2.1 ∈ gw := gt 42 (by decide +kernel) (by decide +kernel)
theorem lo_X2_3 : Cond.methodLink RX2 3 Lib.objectInit ∈ gw := gt 57 (by decide +kernel) (by decide +kernel)
theorem fl_X2_9 : Cond.fieldLink RX2 9 (TX2 0).1 (TX2 0).2.1 (TX2 0).2.2.1 ∈ gw := gt 58 (by decide +kernel) (by decide +kernel)
theorem fl_X2_15 : Cond.fieldLink RX2 15 (TX2 1).1 (TX2 1).2.1 (TX2 1).2.2.1 ∈ gw := gt 60 (by decide +kernel) (by decide +kernel)
theorem lo_X7_3 : Cond.methodLink RX7 3 Lib.objectInit ∈ gw := gt 81 (by decide +kernel) (by decide +kernel)
theorem fl_X7_9 : Cond.fieldLink RX7 9 (TX7 0).1 (TX7 0).2.1 (TX7 0).2.2.1 ∈ gw := gt 82 (by decide +kernel) (by decide +kernel)
theorem fl_X7_15 : Cond.fieldLink RX7 15 (TX7 1).1 (TX7 1).2.1 (TX7 1).2.2.1 ∈ gw := gt 83 (by decide +kernel) (by decide +kernel)
theorem lo_X8_3 : Cond.methodLink RX8 3 Lib.objectInit ∈ gw := gt 123 (by decide +kernel) (by decide +kernel)
theorem fl_X8_9 : Cond.fieldLink RX8 9 (TX8 0).1 (TX8 0).2.1 (TX8 0).2.2.1 ∈ gw := gt 124 (by decide +kernel) (by decide +kernel)
theorem fl_X8_15 : Cond.fieldLink RX8 15 (TX8 1).1 (TX8 1).2.1 (TX8 1).2.2.1 ∈ gw := gt 126 (by decide +kernel) (by decide +kernel)
theorem fl_X8_19 : Cond.fieldLink RX8 19 (TX8 2).1 (TX8 2).2.1 (TX8 2).2.2.1 ∈ gw := gt 128 (by decide +kernel) (by decide +kernel)
theorem lo_X1_3 : Cond.methodLink RX1 3 Lib.objectInit ∈ gw := gt 116 (by decide +kernel) (by decide +kernel)
theorem cla_X1_9 : Cond.classLink RX1 9 RX8 ∈ gw ∧ Cond.arrayOver (.object RX8) ∈ nw := ⟨gt 117 (by decide +kernel) (by decide +kernel), gn 118 (by decide +kernel) (by decide +kernel)⟩
theorem fl_X1_11 : Cond.fieldLink RX1 11 (TX1 0).1 (TX1 0).2.1 (TX1 0).2.2.1 ∈ gw := gt 141 (by decide +kernel) (by decide +kernel)
theorem fl_X1_17 : Cond.fieldLink RX1 17 (TX1 1).1 (TX1 1).2.1 (TX1 1).2.2.1 ∈ gw := gt 143 (by decide +kernel) (by decide +kernel)
theorem cl_X1_9 : Cond.classLink RX1 9 RX8 ∈ gw ∧ Cond.instantiable RX8 4 ∈ gw ∧ Cond.initialized RX8 ∈ gw := ⟨gt 117 (by decide +kernel) (by decide +kernel), gt 119 (by decide +kernel) (by decide +kernel), gt 6 (by decide +kernel) (by decide +kernel)⟩
theorem lN_X1_21 : LkN RX1 21 yX8_init "ToteHouse" := ⟨gn 120 (by decide +kernel) (by decide +kernel), gt 121 (by decide +kernel) (by decide +kernel)⟩
theorem lo_X6_3 : Cond.methodLink RX6 3 Lib.objectInit ∈ gw := gt 154 (by decide +kernel) (by decide +kernel)
theorem fl_X6_9 : Cond.fieldLink RX6 9 (TX6 0).1 (TX6 0).2.1 (TX6 0).2.2.1 ∈ gw := gt 155 (by decide +kernel) (by decide +kernel)
theorem fl_X6_15 : Cond.fieldLink RX6 15 (TX6 2).1 (TX6 2).2.1 (TX6 2).2.2.1 ∈ gw := gt 158 (by decide +kernel) (by decide +kernel)
theorem lo_X10_1 : Cond.methodLink RX10 1 Lib.objectInit ∈ gw := gt 23 (by decide +kernel) (by decide +kernel)
theorem cla_X10_9 : Cond.classLink RX10 9 RX5 ∈ gw ∧ Cond.arrayOver (.object RX5) ∈ nw := ⟨gt 26 (by decide +kernel) (by decide +kernel), gn 27 (by decide +kernel) (by decide +kernel)⟩
theorem fl_X10_11 : Cond.fieldLink RX10 11 (TX10 0).1 (TX10 0).2.1 (TX10 0).2.2.1 ∈ gw := gt 167 (by decide +kernel) (by decide +kernel)
theorem cla_X10_15 : Cond.classLink RX10 15 RX4 ∈ gw ∧ Cond.arrayOver (.object RX4) ∈ nw := ⟨gt 28 (by decide +kernel) (by decide +kernel), gn 29 (by decide +kernel) (by decide +kernel)⟩
theorem fl_X10_17 : Cond.fieldLink RX10 17 (TX10 1).1 (TX10 1).2.1 (TX10 1).2.2.1 ∈ gw := gt 168 (by decide +kernel) (by decide +kernel)
theorem cla_X10_21 : Cond.classLink RX10 21 RX9 ∈ gw ∧ Cond.arrayOver (.object RX9) ∈ nw := ⟨gt 30 (by decide +kernel) (by decide +kernel), gn 31 (by decide +kernel) (by decide +kernel)⟩
theorem fl_X10_23 : Cond.fieldLink RX10 23 (TX10 2).1 (TX10 2).2.1 (TX10 2).2.2.1 ∈ gw := gt 169 (by decide +kernel) (by decide +kernel)
theorem cla_X10_27 : Cond.classLink RX10 27 RX1 ∈ gw ∧ Cond.arrayOver (.object RX1) ∈ nw := ⟨gt 32 (by decide +kernel) (by decide +kernel), gn 33 (by decide +kernel) (by decide +kernel)⟩
theorem fl_X10_29 : Cond.fieldLink RX10 29 (TX10 3).1 (TX10 3).2.1 (TX10 3).2.2.1 ∈ gw := gt 170 (by decide +kernel) (by decide +kernel)
theorem cla_X10_33 : Cond.classLink RX10 33 RX6 ∈ gw ∧ Cond.arrayOver (.object RX6) ∈ nw := ⟨gt 34 (by decide +kernel) (by decide +kernel), gn 35 (by decide +kernel) (by decide +kernel)⟩
theorem fl_X10_35 : Cond.fieldLink RX10 35 (TX10 4).1 (TX10 4).2.1 (TX10 4).2.2.1 ∈ gw := gt 171 (by decide +kernel) (by decide +kernel)
theorem cl_X10_39 : Cond.classLink RX10 39 RX0 ∈ gw ∧ Cond.instantiable RX0 2 ∈ gw ∧ Cond.initialized RX0 ∈ gw := ⟨gt 36 (by decide +kernel) (by decide +kernel), gt 37 (by decide +kernel) (by decide +kernel), gt 2 (by decide +kernel) (by decide +kernel)⟩
theorem lN_X10_41 : LkN RX10 41 yX0_init "ToteHouse" := ⟨gn 38 (by decide +kernel) (by decide +kernel), gt 39 (by decide +kernel) (by decide +kernel)⟩
theorem fl_X10_42 : Cond.fieldLink RX10 42 (TX10 5).1 (TX10 5).2.1 (TX10 5).2.2.1 ∈ gw := gt 172 (by decide +kernel) (by decide +kernel)
theorem cl_X10_46 : Cond.classLink RX10 46 RX2 ∈ gw ∧ Cond.instantiable RX2 4 ∈ gw ∧ Cond.initialized RX2 ∈ gw := ⟨gt 52 (by decide +kernel) (by decide +kernel), gt 53 (by decide +kernel) (by decide +kernel), gt 3 (by decide +kernel) (by decide +kernel)⟩
theorem lN_X10_48 : LkN RX10 48 yX2_init "ToteHouse" := ⟨gn 54 (by decide +kernel) (by decide +kernel), gt 55 (by decide +kernel) (by decide +kernel)⟩
theorem fl_X10_49 : Cond.fieldLink RX10 49 (TX10 6).1 (TX10 6).2.1 (TX10 6).2.2.1 ∈ gw := gt 173 (by decide +kernel) (by decide +kernel)
theorem cl_X10_53 : Cond.classLink RX10 53 RX7 ∈ gw ∧ Cond.instantiable RX7 9 ∈ gw ∧ Cond.initialized RX7 ∈ gw := ⟨gt 76 (by decide +kernel) (by decide +kernel), gt 77 (by decide +kernel) (by decide +kernel), gt 4 (by decide +kernel) (by decide +kernel)⟩
theorem lN_X10_55 : LkN RX10 55 yX7_init "ToteHouse" := ⟨gn 78 (by decide +kernel) (by decide +kernel), gt 79 (by decide +kernel) (by decide +kernel)⟩
theorem fl_X10_56 : Cond.fieldLink RX10 56 (TX10 7).1 (TX10 7).2.1 (TX10 7).2.2.1 ∈ gw := gt 174 (by decide +kernel) (by decide +kernel)
theorem fl_X10_60 : Cond.fieldLink RX10 60 (TX10 8).1 (TX10 8).2.1 (TX10 8).2.2.1 ∈ gw := gt 175 (by decide +kernel) (by decide +kernel)
theorem fl_X10_64 : Cond.fieldLink RX10 64 (TX10 9).1 (TX10 9).2.1 (TX10 9).2.2.1 ∈ gw := gt 176 (by decide +kernel) (by decide +kernel)
theorem cl_X10_27 : Cond.classLink RX10 27 RX1 ∈ gw ∧ Cond.instantiable RX1 2 ∈ gw ∧ Cond.initialized RX1 ∈ gw := ⟨gt 32 (by decide +kernel) (by decide +kernel), gt 112 (by decide +kernel) (by decide +kernel), gt 5 (by decide +kernel) (by decide +kernel)⟩
theorem lI_X10_67 : LkI RX10 67 yX1_init := ⟨gt 113 (by decide +kernel) (by decide +kernel), gt 114 (by decide +kernel) (by decide +kernel)⟩
theorem cl_X10_33 : Cond.classLink RX10 33 RX6 ∈ gw ∧ Cond.instantiable RX6 3 ∈ gw ∧ Cond.initialized RX6 ∈ gw := ⟨gt 34 (by decide +kernel) (by decide +kernel), gt 150 (by decide +kernel) (by decide +kernel), gt 7 (by decide +kernel) (by decide +kernel)⟩
theorem lN_X10_68 : LkN RX10 68 yX6_init "ToteHouse" := ⟨gn 151 (by decide +kernel) (by decide +kernel), gt 152 (by decide +kernel) (by decide +kernel)⟩
theorem lo_X11_1 : Cond.methodLink RX11 1 Lib.objectInit ∈ gw := gt 951 (by decide +kernel) (by decide +kernel)
theorem fl_X11_7 : Cond.fieldLink RX11 7 (TX11 1).1 (TX11 1).2.1 (TX11 1).2.2.1 ∈ gw := gt 953 (by decide +kernel) (by decide +kernel)
theorem fl_X11_13 : Cond.fieldLink RX11 13 (TX11 2).1 (TX11 2).2.1 (TX11 2).2.2.1 ∈ gw := gt 954 (by decide +kernel) (by decide +kernel)
theorem fl_X11_16 : Cond.fieldLink RX11 16 (TX11 3).1 (TX11 3).2.1 (TX11 3).2.2.1 ∈ gw := gt 955 (by decide +kernel) (by decide +kernel)
theorem ac_boolean : Cond.arrayClass .boolean ∈ gw := gt 263 (by decide +kernel) (by decide +kernel)
theorem fl_X11_19 : Cond.fieldLink RX11 19 (TX11 4).1 (TX11 4).2.1 (TX11 4).2.2.1 ∈ gw := gt 956 (by decide +kernel) (by decide +kernel)
theorem fl_X11_23 : Cond.fieldLink RX11 23 (TX11 5).1 (TX11 5).2.1 (TX11 5).2.2.1 ∈ gw := gt 957 (by decide +kernel) (by decide +kernel)
theorem fl_X11_26 : Cond.fieldLink RX11 26 (TX11 6).1 (TX11 6).2.1 (TX11 6).2.2.1 ∈ gw := gt 958 (by decide +kernel) (by decide +kernel)
theorem fl_X11_29 : Cond.fieldLink RX11 29 (TX11 7).1 (TX11 7).2.1 (TX11 7).2.2.1 ∈ gw := gt 959 (by decide +kernel) (by decide +kernel)
theorem fl_X11_32 : Cond.fieldLink RX11 32 (TX11 8).1 (TX11 8).2.1 (TX11 8).2.2.1 ∈ gw := gt 960 (by decide +kernel) (by decide +kernel)
theorem fl_X11_35 : Cond.fieldLink RX11 35 (TX11 9).1 (TX11 9).2.1 (TX11 9).2.2.1 ∈ gw := gt 961 (by decide +kernel) (by decide +kernel)
theorem fl_X11_38 : Cond.fieldLink RX11 38 (TX11 12).1 (TX11 12).2.1 (TX11 12).2.2.1 ∈ gw := gt 964 (by decide +kernel) (by decide +kernel)
theorem fl_X11_41 : Cond.fieldLink RX11 41 (TX11 13).1 (TX11 13).2.1 (TX11 13).2.2.1 ∈ gw := gt 965 (by decide +kernel) (by decide +kernel)
theorem fl_X11_44 : Cond.fieldLink RX11 44 (TX11 14).1 (TX11 14).2.1 (TX11 14).2.2.1 ∈ gw := gt 966 (by decide +kernel) (by decide +kernel)
theorem fl_X11_47 : Cond.fieldLink RX11 47 (TX11 15).1 (TX11 15).2.1 (TX11 15).2.2.1 ∈ gw := gt 967 (by decide +kernel) (by decide +kernel)
theorem fl_X11_50 : Cond.fieldLink RX11 50 (TX11 16).1 (TX11 16).2.1 (TX11 16).2.2.1 ∈ gw := gt 968 (by decide +kernel) (by decide +kernel)
theorem fl_X11_53 : Cond.fieldLink RX11 53 (TX11 17).1 (TX11 17).2.1 (TX11 17).2.2.1 ∈ gw := gt 969 (by decide +kernel) (by decide +kernel)
theorem fl_X11_56 : Cond.fieldLink RX11 56 (TX11 18).1 (TX11 18).2.1 (TX11 18).2.2.1 ∈ gw := gt 970 (by decide +kernel) (by decide +kernel)
theorem fl_X11_59 : Cond.fieldLink RX11 59 (TX11 19).1 (TX11 19).2.1 (TX11 19).2.2.1 ∈ gw := gt 971 (by decide +kernel) (by decide +kernel)
theorem fl_X11_62 : Cond.fieldLink RX11 62 (TX11 20).1 (TX11 20).2.1 (TX11 20).2.2.1 ∈ gw := gt 972 (by decide +kernel) (by decide +kernel)
theorem fl_X11_65 : Cond.fieldLink RX11 65 (TX11 21).1 (TX11 21).2.1 (TX11 21).2.2.1 ∈ gw := gt 973 (by decide +kernel) (by decide +kernel)
theorem fl_X11_68 : Cond.fieldLink RX11 68 (TX11 24).1 (TX11 24).2.1 (TX11 24).2.2.1 ∈ gw := gt 976 (by decide +kernel) (by decide +kernel)
theorem fl_X11_71 : Cond.fieldLink RX11 71 (TX11 25).1 (TX11 25).2.1 (TX11 25).2.2.1 ∈ gw := gt 977 (by decide +kernel) (by decide +kernel)
theorem fl_X11_74 : Cond.fieldLink RX11 74 (TX11 26).1 (TX11 26).2.1 (TX11 26).2.2.1 ∈ gw := gt 978 (by decide +kernel) (by decide +kernel)
theorem fl_X11_77 : Cond.fieldLink RX11 77 (TX11 27).1 (TX11 27).2.1 (TX11 27).2.2.1 ∈ gw := gt 979 (by decide +kernel) (by decide +kernel)
theorem fl_X11_80 : Cond.fieldLink RX11 80 (TX11 28).1 (TX11 28).2.1 (TX11 28).2.2.1 ∈ gw := gt 980 (by decide +kernel) (by decide +kernel)
theorem fl_X11_83 : Cond.fieldLink RX11 83 (TX11 29).1 (TX11 29).2.1 (TX11 29).2.2.1 ∈ gw := gt 981 (by decide +kernel) (by decide +kernel)
theorem fl_X11_86 : Cond.fieldLink RX11 86 (TX11 30).1 (TX11 30).2.1 (TX11 30).2.2.1 ∈ gw := gt 982 (by decide +kernel) (by decide +kernel)
theorem fl_X11_89 : Cond.fieldLink RX11 89 (TX11 31).1 (TX11 31).2.1 (TX11 31).2.2.1 ∈ gw := gt 983 (by decide +kernel) (by decide +kernel)
theorem fl_X11_92 : Cond.fieldLink RX11 92 (TX11 32).1 (TX11 32).2.1 (TX11 32).2.2.1 ∈ gw := gt 984 (by decide +kernel) (by decide +kernel)
theorem fl_X11_95 : Cond.fieldLink RX11 95 (TX11 33).1 (TX11 33).2.1 (TX11 33).2.2.1 ∈ gw := gt 985 (by decide +kernel) (by decide +kernel)
theorem fl_X11_98 : Cond.fieldLink RX11 98 (TX11 34).1 (TX11 34).2.1 (TX11 34).2.2.1 ∈ gw := gt 986 (by decide +kernel) (by decide +kernel)
theorem fl_X11_101 : Cond.fieldLink RX11 101 (TX11 36).1 (TX11 36).2.1 (TX11 36).2.2.1 ∈ gw := gt 988 (by decide +kernel) (by decide +kernel)
theorem fl_X11_104 : Cond.fieldLink RX11 104 (TX11 37).1 (TX11 37).2.1 (TX11 37).2.2.1 ∈ gw := gt 989 (by decide +kernel) (by decide +kernel)
theorem fl_X11_107 : Cond.fieldLink RX11 107 (TX11 38).1 (TX11 38).2.1 (TX11 38).2.2.1 ∈ gw := gt 990 (by decide +kernel) (by decide +kernel)
theorem fl_X11_110 : Cond.fieldLink RX11 110 (TX11 39).1 (TX11 39).2.1 (TX11 39).2.2.1 ∈ gw := gt 991 (by decide +kernel) (by decide +kernel)
theorem fl_X11_113 : Cond.fieldLink RX11 113 (TX11 40).1 (TX11 40).2.1 (TX11 40).2.2.1 ∈ gw := gt 992 (by decide +kernel) (by decide +kernel)
theorem fl_X11_116 : Cond.fieldLink RX11 116 (TX11 48).1 (TX11 48).2.1 (TX11 48).2.2.1 ∈ gw := gt 1000 (by decide +kernel) (by decide +kernel)
theorem fl_X11_119 : Cond.fieldLink RX11 119 (TX11 50).1 (TX11 50).2.1 (TX11 50).2.2.1 ∈ gw := gt 1002 (by decide +kernel) (by decide +kernel)
theorem fl_X11_122 : Cond.fieldLink RX11 122 (TX11 51).1 (TX11 51).2.1 (TX11 51).2.2.1 ∈ gw := gt 1003 (by decide +kernel) (by decide +kernel)
theorem fl_X11_125 : Cond.fieldLink RX11 125 (TX11 52).1 (TX11 52).2.1 (TX11 52).2.2.1 ∈ gw := gt 1004 (by decide +kernel) (by decide +kernel)
theorem fl_X11_128 : Cond.fieldLink RX11 128 (TX11 53).1 (TX11 53).2.1 (TX11 53).2.2.1 ∈ gw := gt 1005 (by decide +kernel) (by decide +kernel)
theorem fl_X11_131 : Cond.fieldLink RX11 131 (TX11 54).1 (TX11 54).2.1 (TX11 54).2.2.1 ∈ gw := gt 1006 (by decide +kernel) (by decide +kernel)
theorem fl_X11_134 : Cond.fieldLink RX11 134 (TX11 55).1 (TX11 55).2.1 (TX11 55).2.2.1 ∈ gw := gt 1007 (by decide +kernel) (by decide +kernel)
theorem fl_X11_137 : Cond.fieldLink RX11 137 (TX11 56).1 (TX11 56).2.1 (TX11 56).2.2.1 ∈ gw := gt 1008 (by decide +kernel) (by decide +kernel)
theorem fl_X11_140 : Cond.fieldLink RX11 140 (TX11 57).1 (TX11 57).2.1 (TX11 57).2.2.1 ∈ gw := gt 1009 (by decide +kernel) (by decide +kernel)
theorem fl_X11_143 : Cond.fieldLink RX11 143 (TX11 58).1 (TX11 58).2.1 (TX11 58).2.2.1 ∈ gw := gt 1010 (by decide +kernel) (by decide +kernel)
theorem fl_X11_146 : Cond.fieldLink RX11 146 (TX11 59).1 (TX11 59).2.1 (TX11 59).2.2.1 ∈ gw := gt 1011 (by decide +kernel) (by decide +kernel)
theorem fl_X11_149 : Cond.fieldLink RX11 149 (TX11 60).1 (TX11 60).2.1 (TX11 60).2.2.1 ∈ gw := gt 1012 (by decide +kernel) (by decide +kernel)
theorem fl_X11_152 : Cond.fieldLink RX11 152 (TX11 61).1 (TX11 61).2.1 (TX11 61).2.2.1 ∈ gw := gt 1013 (by decide +kernel) (by decide +kernel)
theorem fl_X11_155 : Cond.fieldLink RX11 155 (TX11 63).1 (TX11 63).2.1 (TX11 63).2.2.1 ∈ gw := gt 1015 (by decide +kernel) (by decide +kernel)
theorem fl_X11_158 : Cond.fieldLink RX11 158 (TX11 64).1 (TX11 64).2.1 (TX11 64).2.2.1 ∈ gw := gt 1016 (by decide +kernel) (by decide +kernel)
theorem ac_float : Cond.arrayClass .float ∈ gw := gt 1157 (by decide +kernel) (by decide +kernel)
theorem fl_X11_161 : Cond.fieldLink RX11 161 (TX11 65).1 (TX11 65).2.1 (TX11 65).2.2.1 ∈ gw := gt 1017 (by decide +kernel) (by decide +kernel)
theorem fl_X11_165 : Cond.fieldLink RX11 165 (TX11 67).1 (TX11 67).2.1 (TX11 67).2.2.1 ∈ gw := gt 1019 (by decide +kernel) (by decide +kernel)
theorem lo_X5_3 : Cond.methodLink RX5 3 Lib.objectInit ∈ gw := gt 224 (by decide +kernel) (by decide +kernel)
theorem fl_X5_9 : Cond.fieldLink RX5 9 (TX5 1).1 (TX5 1).2.1 (TX5 1).2.2.1 ∈ gw := gt 229 (by decide +kernel) (by decide +kernel)
theorem fl_X5_15 : Cond.fieldLink RX5 15 (TX5 2).1 (TX5 2).2.1 (TX5 2).2.2.1 ∈ gw := gt 230 (by decide +kernel) (by decide +kernel)
theorem cl_X5_19 : Cond.classLink RX5 19 RX2 ∈ gw ∧ Cond.instantiable RX2 4 ∈ gw ∧ Cond.initialized RX2 ∈ gw := ⟨gt 225 (by decide +kernel) (by decide +kernel), gt 53 (by decide +kernel) (by decide +kernel), gt 3 (by decide +kernel) (by decide +kernel)⟩
theorem lN_X5_21 : LkN RX5 21 yX2_init "ToteHouse" := ⟨gn 226 (by decide +kernel) (by decide +kernel), gt 55 (by decide +kernel) (by decide +kernel)⟩
theorem fl_X5_22 : Cond.fieldLink RX5 22 (TX5 3).1 (TX5 3).2.1 (TX5 3).2.2.1 ∈ gw := gt 232 (by decide +kernel) (by decide +kernel)
theorem fl_X5_26 : Cond.fieldLink RX5 26 (TX5 4).1 (TX5 4).2.1 (TX5 4).2.2.1 ∈ gw := gt 234 (by decide +kernel) (by decide +kernel)
theorem fl_X5_29 : Cond.fieldLink RX5 29 (TX5 7).1 (TX5 7).2.1 (TX5 7).2.2.1 ∈ gw := gt 240 (by decide +kernel) (by decide +kernel)
theorem fl_X5_33 : Cond.fieldLink RX5 33 (TX5 0).1 (TX5 0).2.1 (TX5 0).2.2.1 ∈ gw := gt 227 (by decide +kernel) (by decide +kernel)
theorem fl_X5_36 : Cond.fieldLink RX5 36 (TX5 6).1 (TX5 6).2.1 (TX5 6).2.2.1 ∈ gw := gt 238 (by decide +kernel) (by decide +kernel)
theorem fl_X10_69 : Cond.fieldLink RX10 69 (TX10 10).1 (TX10 10).2.1 (TX10 10).2.2.1 ∈ gw := gt 177 (by decide +kernel) (by decide +kernel)
theorem cl_X10_9 : Cond.classLink RX10 9 RX5 ∈ gw ∧ Cond.instantiable RX5 9 ∈ gw ∧ Cond.initialized RX5 ∈ gw := ⟨gt 26 (by decide +kernel) (by decide +kernel), gt 220 (by decide +kernel) (by decide +kernel), gt 9 (by decide +kernel) (by decide +kernel)⟩
theorem lI_X10_73 : LkI RX10 73 yX5_init := ⟨gt 221 (by decide +kernel) (by decide +kernel), gt 222 (by decide +kernel) (by decide +kernel)⟩
theorem ls_X11_172 : LkS RX11 172 yX11_in := ⟨gt 1162 (by decide +kernel) (by decide +kernel), gt 1163 (by decide +kernel) (by decide +kernel)⟩
theorem fl_X11_168 : Cond.fieldLink RX11 168 (TX11 0).1 (TX11 0).2.1 (TX11 0).2.2.1 ∈ gw := gt 952 (by decide +kernel) (by decide +kernel)
theorem lo_X4_3 : Cond.methodLink RX4 3 Lib.objectInit ∈ gw := gt 282 (by decide +kernel) (by decide +kernel)
theorem fl_X4_9 : Cond.fieldLink RX4 9 (TX4 8).1 (TX4 8).2.1 (TX4 8).2.2.1 ∈ gw := gt 307 (by decide +kernel) (by decide +kernel)
theorem fl_X4_15 : Cond.fieldLink RX4 15 (TX4 0).1 (TX4 0).2.1 (TX4 0).2.2.1 ∈ gw := gt 283 (by decide +kernel) (by decide +kernel)
theorem fl_X4_19 : Cond.fieldLink RX4 19 (TX4 1).1 (TX4 1).2.1 (TX4 1).2.2.1 ∈ gw := gt 285 (by decide +kernel) (by decide +kernel)
theorem fl_X4_22 : Cond.fieldLink RX4 22 (TX4 2).1 (TX4 2).2.1 (TX4 2).2.2.1 ∈ gw := gt 289 (by decide +kernel) (by decide +kernel)
theorem fl_X4_26 : Cond.fieldLink RX4 26 (TX4 3).1 (TX4 3).2.1 (TX4 3).2.2.1 ∈ gw := gt 292 (by decide +kernel) (by decide +kernel)
theorem fl_X4_29 : Cond.fieldLink RX4 29 (TX4 4).1 (TX4 4).2.1 (TX4 4).2.2.1 ∈ gw := gt 295 (by decide +kernel) (by decide +kernel)
theorem fl_X4_32 : Cond.fieldLink RX4 32 (TX4 5).1 (TX4 5).2.1 (TX4 5).2.2.1 ∈ gw := gt 297 (by decide +kernel) (by decide +kernel)
theorem fl_X4_35 : Cond.fieldLink RX4 35 (TX4 6).1 (TX4 6).2.1 (TX4 6).2.2.1 ∈ gw := gt 300 (by decide +kernel) (by decide +kernel)
theorem fl_X4_38 : Cond.fieldLink RX4 38 (TX4 7).1 (TX4 7).2.1 (TX4 7).2.2.1 ∈ gw := gt 303 (by decide +kernel) (by decide +kernel)
theorem lv_X10_76 : LkV RX10 76 yX10_findRace RX10 := ⟨gt 268 (by decide +kernel) (by decide +kernel), gt 270 (by decide +kernel) (by decide +kernel), gp 0 (by decide +kernel) (by decide +kernel)⟩
theorem ls_X10_80 : LkS RX10 80 yX10_areTerms := ⟨gt 272 (by decide +kernel) (by decide +kernel), gt 273 (by decide +kernel) (by decide +kernel)⟩
theorem ls_X10_84 : LkS RX10 84 yX10_poolNumber := ⟨gt 275 (by decide +kernel) (by decide +kernel), gt 276 (by decide +kernel) (by decide +kernel)⟩
theorem fl_X10_88 : Cond.fieldLink RX10 88 (TX5 7).1 (TX5 7).2.1 (TX5 7).2.2.1 ∈ gw := gt 241 (by decide +kernel) (by decide +kernel)
theorem cl_X10_15 : Cond.classLink RX10 15 RX4 ∈ gw ∧ Cond.instantiable RX4 10 ∈ gw ∧ Cond.initialized RX4 ∈ gw := ⟨gt 28 (by decide +kernel) (by decide +kernel), gt 278 (by decide +kernel) (by decide +kernel), gt 10 (by decide +kernel) (by decide +kernel)⟩
theorem lI_X10_91 : LkI RX10 91 yX4_init := ⟨gt 279 (by decide +kernel) (by decide +kernel), gt 280 (by decide +kernel) (by decide +kernel)⟩
theorem lv_X11_179 : LkV RX11 179 yX11_isRace RX11 := ⟨gt 1169 (by decide +kernel) (by decide +kernel), gt 1171 (by decide +kernel) (by decide +kernel), gp 34 (by decide +kernel) (by decide +kernel)⟩
theorem ls_X11_183 : LkS RX11 183 yX11_areTerms := ⟨gt 1173 (by decide +kernel) (by decide +kernel), gt 1174 (by decide +kernel) (by decide +kernel)⟩
theorem lv_X11_187 : LkV RX11 187 yX11_tellPool RX11 := ⟨gt 1176 (by decide +kernel) (by decide +kernel), gt 1178 (by decide +kernel) (by decide +kernel), gp 35 (by decide +kernel) (by decide +kernel)⟩
theorem fl_X11_176 : Cond.fieldLink RX11 176 (TX11 10).1 (TX11 10).2.1 (TX11 10).2.2.1 ∈ gw := gt 962 (by decide +kernel) (by decide +kernel)
theorem fl_X11_191 : Cond.fieldLink RX11 191 (TX11 11).1 (TX11 11).2.1 (TX11 11).2.2.1 ∈ gw := gt 963 (by decide +kernel) (by decide +kernel)
theorem lv_X5_39 : LkV RX5 39 yX5_hasRunner RX5 := ⟨gt 353 (by decide +kernel) (by decide +kernel), gt 346 (by decide +kernel) (by decide +kernel), gt 347 (by decide +kernel) (by decide +kernel)⟩
theorem lv_X10_151 : LkV RX10 151 yX5_hasRunner RX5 := ⟨gt 345 (by decide +kernel) (by decide +kernel), gt 346 (by decide +kernel) (by decide +kernel), gt 347 (by decide +kernel) (by decide +kernel)⟩
theorem lv_X10_414 : LkV RX10 414 yX5_isOut RX5 := ⟨gt 349 (by decide +kernel) (by decide +kernel), gt 350 (by decide +kernel) (by decide +kernel), gt 351 (by decide +kernel) (by decide +kernel)⟩
theorem ls_X10_94 : LkS RX10 94 yX10_refuseRunner := ⟨gt 342 (by decide +kernel) (by decide +kernel), gt 343 (by decide +kernel) (by decide +kernel)⟩
theorem fl_X10_98 : Cond.fieldLink RX10 98 (TX5 8).1 (TX5 8).2.1 (TX5 8).2.2.1 ∈ gw := gt 242 (by decide +kernel) (by decide +kernel)
theorem lv_X11_194 : LkV RX11 194 yX11_isRunner RX11 := ⟨gt 1192 (by decide +kernel) (by decide +kernel), gt 1194 (by decide +kernel) (by decide +kernel), gp 37 (by decide +kernel) (by decide +kernel)⟩
theorem lv_X11_197 : LkV RX11 197 yX11_bars RX11 := ⟨gt 1188 (by decide +kernel) (by decide +kernel), gt 1190 (by decide +kernel) (by decide +kernel), gp 36 (by decide +kernel) (by decide +kernel)⟩
theorem fl_X9_15 : Cond.fieldLink RX9 15 (TX9 0).1 (TX9 0).2.1 (TX9 0).2.2.1 ∈ gw := gt 534 (by decide +kernel) (by decide +kernel)
theorem fl_X9_25 : Cond.fieldLink RX9 25 (TX4 1).1 (TX4 1).2.1 (TX4 1).2.2.1 ∈ gw := gt 286 (by decide +kernel) (by decide +kernel)
theorem fl_X9_72 : Cond.fieldLink RX9 72 (TX4 2).1 (TX4 2).2.1 (TX4 2).2.2.1 ∈ gw := gt 290 (by decide +kernel) (by decide +kernel)
theorem fl_X9_30 : Cond.fieldLink RX9 30 (TX9 3).1 (TX9 3).2.1 (TX9 3).2.2.1 ∈ gw := gt 540 (by decide +kernel) (by decide +kernel)
theorem fl_X9_33 : Cond.fieldLink RX9 33 (TX9 4).1 (TX9 4).2.1 (TX9 4).2.2.1 ∈ gw := gt 542 (by decide +kernel) (by decide +kernel)
theorem fl_X9_36 : Cond.fieldLink RX9 36 (TX9 5).1 (TX9 5).2.1 (TX9 5).2.2.1 ∈ gw := gt 544 (by decide +kernel) (by decide +kernel)
theorem fl_X9_76 : Cond.fieldLink RX9 76 (TX4 3).1 (TX4 3).2.1 (TX4 3).2.2.1 ∈ gw := gt 293 (by decide +kernel) (by decide +kernel)
theorem fl_X9_22 : Cond.fieldLink RX9 22 (TX9 2).1 (TX9 2).2.1 (TX9 2).2.2.1 ∈ gw := gt 538 (by decide +kernel) (by decide +kernel)
theorem fl_X9_58 : Cond.fieldLink RX9 58 (TX4 5).1 (TX4 5).2.1 (TX4 5).2.2.1 ∈ gw := gt 299 (by decide +kernel) (by decide +kernel)
theorem lv_X9_54 : LkV RX9 54 yX4_lineOf RX4 := ⟨gt 387 (by decide +kernel) (by decide +kernel), gt 388 (by decide +kernel) (by decide +kernel), gt 389 (by decide +kernel) (by decide +kernel)⟩
theorem fl_X4_50 : Cond.fieldLink RX4 50 (TX4 9).1 (TX4 9).2.1 (TX4 9).2.2.1 ∈ gw := gt 312 (by decide +kernel) (by decide +kernel)
theorem lv_X9_39 : LkV RX9 39 yX9_line RX9 := ⟨gt 383 (by decide +kernel) (by decide +kernel), gt 384 (by decide +kernel) (by decide +kernel), gt 385 (by decide +kernel) (by decide +kernel)⟩
theorem lv_X9_43 : LkV RX9 43 yX4_addLive RX4 := ⟨gt 391 (by decide +kernel) (by decide +kernel), gt 392 (by decide +kernel) (by decide +kernel), gt 393 (by decide +kernel) (by decide +kernel)⟩
theorem fl_X9_47 : Cond.fieldLink RX9 47 (TX4 8).1 (TX4 8).2.1 (TX4 8).2.2.1 ∈ gw := gt 308 (by decide +kernel) (by decide +kernel)
theorem fl_X9_9 : Cond.fieldLink RX9 9 (TX9 6).1 (TX9 6).2.1 (TX9 6).2.2.1 ∈ gw := gt 546 (by decide +kernel) (by decide +kernel)
theorem lv_X9_51 : LkV RX9 51 yX9_stake RX9 := ⟨gt 375 (by decide +kernel) (by decide +kernel), gt 376 (by decide +kernel) (by decide +kernel), gt 377 (by decide +kernel) (by decide +kernel)⟩
theorem lv_X9_68 : LkV RX9 68 yX9_end RX9 := ⟨gt 379 (by decide +kernel) (by decide +kernel), gt 380 (by decide +kernel) (by decide +kernel), gt 381 (by decide +kernel) (by decide +kernel)⟩
theorem lv_X9_88 : LkV RX9 88 yX9_refund RX9 := ⟨gt 371 (by decide +kernel) (by decide +kernel), gt 372 (by decide +kernel) (by decide +kernel), gt 373 (by decide +kernel) (by decide +kernel)⟩
theorem fl_X9_79 : Cond.fieldLink RX9 79 (TX5 8).1 (TX5 8).2.1 (TX5 8).2.2.1 ∈ gw := gt 243 (by decide +kernel) (by decide +kernel)
theorem lv_X9_84 : LkV RX9 84 yX5_isOut RX5 := ⟨gt 370 (by decide +kernel) (by decide +kernel), gt 350 (by decide +kernel) (by decide +kernel), gt 351 (by decide +kernel) (by decide +kernel)⟩
theorem lv_X10_101 : LkV RX10 101 yX5_takeOut RX5 := ⟨gt 358 (by decide +kernel) (by decide +kernel), gt 359 (by decide +kernel) (by decide +kernel), gt 360 (by decide +kernel) (by decide +kernel)⟩
theorem fl_X10_104 : Cond.fieldLink RX10 104 (TX10 11).1 (TX10 11).2.1 (TX10 11).2.2.1 ∈ gw := gt 178 (by decide +kernel) (by decide +kernel)
theorem fl_X10_107 : Cond.fieldLink RX10 107 (TX9 6).1 (TX9 6).2.1 (TX9 6).2.2.1 ∈ gw := gt 547 (by decide +kernel) (by decide +kernel)
theorem lv_X10_108 : LkV RX10 108 yX9_isFor RX9 := ⟨gt 362 (by decide +kernel) (by decide +kernel), gt 363 (by decide +kernel) (by decide +kernel), gt 364 (by decide +kernel) (by decide +kernel)⟩
theorem lv_X10_112 : LkV RX10 112 yX9_loseRunner RX9 := ⟨gt 366 (by decide +kernel) (by decide +kernel), gt 367 (by decide +kernel) (by decide +kernel), gt 368 (by decide +kernel) (by decide +kernel)⟩
theorem lv_X11_201 : LkV RX11 201 yX11_stake RX11 := ⟨gt 1204 (by decide +kernel) (by decide +kernel), gt 1206 (by decide +kernel) (by decide +kernel), gp 39 (by decide +kernel) (by decide +kernel)⟩
theorem fl_X11_205 : Cond.fieldLink RX11 205 (TX11 23).1 (TX11 23).2.1 (TX11 23).2.2.1 ∈ gw := gt 975 (by decide +kernel) (by decide +kernel)
theorem lv_X11_208 : LkV RX11 208 yX11_refund RX11 := ⟨gt 1200 (by decide +kernel) (by decide +kernel), gt 1202 (by decide +kernel) (by decide +kernel), gp 38 (by decide +kernel) (by decide +kernel)⟩
theorem fl_X10_116 : Cond.fieldLink RX10 116 (TX5 6).1 (TX5 6).2.1 (TX5 6).2.2.1 ∈ gw := gt 239 (by decide +kernel) (by decide +kernel)
theorem lv_X11_212 : LkV RX11 212 yX11_running RX11 := ⟨gt 1212 (by decide +kernel) (by decide +kernel), gt 1214 (by decide +kernel) (by decide +kernel), gp 40 (by decide +kernel) (by decide +kernel)⟩
theorem fl_X10_119 : Cond.fieldLink RX10 119 (TX5 2).1 (TX5 2).2.1 (TX5 2).2.2.1 ∈ gw := gt 231 (by decide +kernel) (by decide +kernel)
theorem fl_X2_18 : Cond.fieldLink RX2 18 (TX2 3).1 (TX2 3).2.1 (TX2 3).2.2.1 ∈ gw := gt 65 (by decide +kernel) (by decide +kernel)
theorem fl_X2_22 : Cond.fieldLink RX2 22 (TX2 2).1 (TX2 2).2.1 (TX2 2).2.2.1 ∈ gw := gt 62 (by decide +kernel) (by decide +kernel)
theorem lv_X5_46 : LkV RX5 46 yX2_begin RX2 := ⟨gt 411 (by decide +kernel) (by decide +kernel), gt 412 (by decide +kernel) (by decide +kernel), gt 413 (by decide +kernel) (by decide +kernel)⟩
theorem lv_X5_50 : LkV RX5 50 yX2_add RX2 := ⟨gt 415 (by decide +kernel) (by decide +kernel), gt 416 (by decide +kernel) (by decide +kernel), gt 417 (by decide +kernel) (by decide +kernel)⟩
theorem fl_X7_18 : Cond.fieldLink RX7 18 (TX7 2).1 (TX7 2).2.1 (TX7 2).2.2.1 ∈ gw := gt 84 (by decide +kernel) (by decide +kernel)
theorem lv_X7_104 : LkV RX7 104 yX4_lineOf RX4 := ⟨gt 454 (by decide +kernel) (by decide +kernel), gt 388 (by decide +kernel) (by decide +kernel), gt 389 (by decide +kernel) (by decide +kernel)⟩
theorem fl_X7_108 : Cond.fieldLink RX7 108 (TX4 6).1 (TX4 6).2.1 (TX4 6).2.2.1 ∈ gw := gt 301 (by decide +kernel) (by decide +kernel)
theorem lv_X7_111 : LkV RX7 111 yX7_indexOf RX7 := ⟨gt 455 (by decide +kernel) (by decide +kernel), gt 457 (by decide +kernel) (by decide +kernel), gp 5 (by decide +kernel) (by decide +kernel)⟩
theorem fl_X7_37 : Cond.fieldLink RX7 37 (TX2 3).1 (TX2 3).2.1 (TX2 3).2.2.1 ∈ gw := gt 66 (by decide +kernel) (by decide +kernel)
theorem fl_X7_87 : Cond.fieldLink RX7 87 (TX2 2).1 (TX2 2).2.1 (TX2 2).2.2.1 ∈ gw := gt 63 (by decide +kernel) (by decide +kernel)
theorem fl_X7_101 : Cond.fieldLink RX7 101 (TX2 1).1 (TX2 1).2.1 (TX2 1).2.2.1 ∈ gw := gt 61 (by decide +kernel) (by decide +kernel)
theorem fl_X7_94 : Cond.fieldLink RX7 94 (TX2 0).1 (TX2 0).2.1 (TX2 0).2.2.1 ∈ gw := gt 59 (by decide +kernel) (by decide +kernel)
theorem lv_X7_97 : LkV RX7 97 yX7_take RX7 := ⟨gt 450 (by decide +kernel) (by decide +kernel), gt 452 (by decide +kernel) (by decide +kernel), gp 4 (by decide +kernel) (by decide +kernel)⟩
theorem lv_X7_90 : LkV RX7 90 yX2_isNext RX2 := ⟨gt 463 (by decide +kernel) (by decide +kernel), gt 464 (by decide +kernel) (by decide +kernel), gt 465 (by decide +kernel) (by decide +kernel)⟩
theorem fl_X7_52 : Cond.fieldLink RX7 52 (TX4 1).1 (TX4 1).2.1 (TX4 1).2.2.1 ∈ gw := gt 287 (by decide +kernel) (by decide +kernel)
theorem lv_X7_77 : LkV RX7 77 yX7_takePlaced RX7 := ⟨gt 446 (by decide +kernel) (by decide +kernel), gt 448 (by decide +kernel) (by decide +kernel), gp 3 (by decide +kernel) (by decide +kernel)⟩
theorem lv_X7_81 : LkV RX7 81 yX7_takeDoubles RX7 := ⟨gt 459 (by decide +kernel) (by decide +kernel), gt 461 (by decide +kernel) (by decide +kernel), gp 6 (by decide +kernel) (by decide +kernel)⟩
theorem lv_X7_84 : LkV RX7 84 yX7_takeRows RX7 := ⟨gt 467 (by decide +kernel) (by decide +kernel), gt 469 (by decide +kernel) (by decide +kernel), gp 7 (by decide +kernel) (by decide +kernel)⟩
theorem ls_X7_119 : LkS RX7 119 yJ9_max_7cf53 := ⟨gt 480 (by decide +kernel) (by decide +kernel), gt 481 (by decide +kernel) (by decide +kernel)⟩
theorem fl_X7_34 : Cond.fieldLink RX7 34 (TX7 8).1 (TX7 8).2.1 (TX7 8).2.2.1 ∈ gw := gt 91 (by decide +kernel) (by decide +kernel)
theorem fl_X7_31 : Cond.fieldLink RX7 31 (TX7 7).1 (TX7 7).2.1 (TX7 7).2.2.1 ∈ gw := gt 90 (by decide +kernel) (by decide +kernel)
theorem fl_X7_28 : Cond.fieldLink RX7 28 (TX7 6).1 (TX7 6).2.1 (TX7 6).2.2.1 ∈ gw := gt 89 (by decide +kernel) (by decide +kernel)
theorem fl_X7_65 : Cond.fieldLink RX7 65 (TX4 5).1 (TX4 5).2.1 (TX4 5).2.2.1 ∈ gw := gt 298 (by decide +kernel) (by decide +kernel)
theorem lv_X7_115 : LkV RX7 115 yX7_unitsOfTakers RX7 := ⟨gt 476 (by decide +kernel) (by decide +kernel), gt 478 (by decide +kernel) (by decide +kernel), gp 9 (by decide +kernel) (by decide +kernel)⟩
theorem fl_X7_22 : Cond.fieldLink RX7 22 (TX7 4).1 (TX7 4).2.1 (TX7 4).2.2.1 ∈ gw := gt 87 (by decide +kernel) (by decide +kernel)
theorem fl_X7_25 : Cond.fieldLink RX7 25 (TX7 5).1 (TX7 5).2.1 (TX7 5).2.2.1 ∈ gw := gt 88 (by decide +kernel) (by decide +kernel)
theorem lv_X7_42 : LkV RX7 42 yX4_isVoid RX4 := ⟨gt 438 (by decide +kernel) (by decide +kernel), gt 439 (by decide +kernel) (by decide +kernel), gt 440 (by decide +kernel) (by decide +kernel)⟩
theorem fl_X7_55 : Cond.fieldLink RX7 55 (TX7 3).1 (TX7 3).2.1 (TX7 3).2.2.1 ∈ gw := gt 85 (by decide +kernel) (by decide +kernel)
theorem fl_X7_62 : Cond.fieldLink RX7 62 (TX4 9).1 (TX4 9).2.1 (TX4 9).2.2.1 ∈ gw := gt 311 (by decide +kernel) (by decide +kernel)
theorem fl_X7_68 : Cond.fieldLink RX7 68 (TX4 4).1 (TX4 4).2.1 (TX4 4).2.2.1 ∈ gw := gt 296 (by decide +kernel) (by decide +kernel)
theorem cL_X7_71 : Cond.constantLong RX7 71 (1000 : Int64) ∈ gw := gt 471 (by decide +kernel) (by decide +kernel)
theorem fl_X7_59 : Cond.fieldLink RX7 59 (TX4 8).1 (TX4 8).2.1 (TX4 8).2.2.1 ∈ gw := gt 309 (by decide +kernel) (by decide +kernel)
theorem lv_X7_73 : LkV RX7 73 yX7_share RX7 := ⟨gt 472 (by decide +kernel) (by decide +kernel), gt 474 (by decide +kernel) (by decide +kernel), gp 8 (by decide +kernel) (by decide +kernel)⟩
theorem lv_X7_48 : LkV RX7 48 yX7_findTakers RX7 := ⟨gt 442 (by decide +kernel) (by decide +kernel), gt 444 (by decide +kernel) (by decide +kernel), gp 2 (by decide +kernel) (by decide +kernel)⟩
theorem fl_X10_191 : Cond.fieldLink RX10 191 (TX9 0).1 (TX9 0).2.1 (TX9 0).2.2.1 ∈ gw := gt 535 (by decide +kernel) (by decide +kernel)
theorem lv_X10_431 : LkV RX10 431 yX9_refund RX9 := ⟨gt 487 (by decide +kernel) (by decide +kernel), gt 372 (by decide +kernel) (by decide +kernel), gt 373 (by decide +kernel) (by decide +kernel)⟩
theorem fl_X7_125 : Cond.fieldLink RX7 125 (TX4 7).1 (TX4 7).2.1 (TX4 7).2.2.1 ∈ gw := gt 305 (by decide +kernel) (by decide +kernel)
theorem fl_X10_259 : Cond.fieldLink RX10 259 (TX4 8).1 (TX4 8).2.1 (TX4 8).2.2.1 ∈ gw := gt 310 (by decide +kernel) (by decide +kernel)
theorem fl_X10_209 : Cond.fieldLink RX10 209 (TX4 0).1 (TX4 0).2.1 (TX4 0).2.2.1 ∈ gw := gt 284 (by decide +kernel) (by decide +kernel)
theorem fl_X10_262 : Cond.fieldLink RX10 262 (TX10 12).1 (TX10 12).2.1 (TX10 12).2.2.1 ∈ gw := gt 179 (by decide +kernel) (by decide +kernel)
theorem lv_X10_236 : LkV RX10 236 yX4_isSettled RX4 := ⟨gt 430 (by decide +kernel) (by decide +kernel), gt 431 (by decide +kernel) (by decide +kernel), gt 432 (by decide +kernel) (by decide +kernel)⟩
theorem fl_X10_173 : Cond.fieldLink RX10 173 (TX4 2).1 (TX4 2).2.1 (TX4 2).2.2.1 ∈ gw := gt 291 (by decide +kernel) (by decide +kernel)
theorem fl_X10_177 : Cond.fieldLink RX10 177 (TX4 3).1 (TX4 3).2.1 (TX4 3).2.2.1 ∈ gw := gt 294 (by decide +kernel) (by decide +kernel)
theorem fl_X10_125 : Cond.fieldLink RX10 125 (TX5 3).1 (TX5 3).2.1 (TX5 3).2.2.1 ∈ gw := gt 233 (by decide +kernel) (by decide +kernel)
theorem lv_X10_252 : LkV RX10 252 yX7_reckon RX7 := ⟨gt 434 (by decide +kernel) (by decide +kernel), gt 435 (by decide +kernel) (by decide +kernel), gt 436 (by decide +kernel) (by decide +kernel)⟩
theorem fl_X10_417 : Cond.fieldLink RX10 417 (TX7 3).1 (TX7 3).2.1 (TX7 3).2.2.1 ∈ gw := gt 86 (by decide +kernel) (by decide +kernel)
theorem lv_X10_425 : LkV RX10 425 yX7_enterInto RX7 := ⟨gt 488 (by decide +kernel) (by decide +kernel), gt 489 (by decide +kernel) (by decide +kernel), gt 490 (by decide +kernel) (by decide +kernel)⟩
theorem lv_X10_428 : LkV RX10 428 yX10_carryOn RX10 := ⟨gt 492 (by decide +kernel) (by decide +kernel), gt 494 (by decide +kernel) (by decide +kernel), gp 11 (by decide +kernel) (by decide +kernel)⟩
theorem lv_X10_421 : LkV RX10 421 yX10_refundAll RX10 := ⟨gt 483 (by decide +kernel) (by decide +kernel), gt 485 (by decide +kernel) (by decide +kernel), gp 10 (by decide +kernel) (by decide +kernel)⟩
theorem lv_X10_122 : LkV RX10 122 yX5_readFinish RX5 := ⟨gt 407 (by decide +kernel) (by decide +kernel), gt 408 (by decide +kernel) (by decide +kernel), gt 409 (by decide +kernel) (by decide +kernel)⟩
theorem lv_X10_128 : LkV RX10 128 yX2_isRight RX2 := ⟨gt 419 (by decide +kernel) (by decide +kernel), gt 420 (by decide +kernel) (by decide +kernel), gt 421 (by decide +kernel) (by decide +kernel)⟩
theorem fl_X10_132 : Cond.fieldLink RX10 132 (TX2 2).1 (TX2 2).2.1 (TX2 2).2.2.1 ∈ gw := gt 64 (by decide +kernel) (by decide +kernel)
theorem ls_X10_135 : LkS RX10 135 yJ9_min_7cf53 := ⟨gt 423 (by decide +kernel) (by decide +kernel), gt 424 (by decide +kernel) (by decide +kernel)⟩
theorem lv_X10_140 : LkV RX10 140 yX10_settleIfRipe RX10 := ⟨gt 426 (by decide +kernel) (by decide +kernel), gt 428 (by decide +kernel) (by decide +kernel), gp 1 (by decide +kernel) (by decide +kernel)⟩
theorem fl_X11_215 : Cond.fieldLink RX11 215 (TX11 35).1 (TX11 35).2.1 (TX11 35).2.2.1 ∈ gw := gt 987 (by decide +kernel) (by decide +kernel)
theorem ls_X11_218 : LkS RX11 218 yX11_kindOf := ⟨gt 1248 (by decide +kernel) (by decide +kernel), gt 1249 (by decide +kernel) (by decide +kernel)⟩
theorem lv_X11_221 : LkV RX11 221 yX11_fits RX11 := ⟨gt 1255 (by decide +kernel) (by decide +kernel), gt 1257 (by decide +kernel) (by decide +kernel), gp 48 (by decide +kernel) (by decide +kernel)⟩
theorem fl_X11_225 : Cond.fieldLink RX11 225 (TX11 41).1 (TX11 41).2.1 (TX11 41).2.2.1 ∈ gw := gt 993 (by decide +kernel) (by decide +kernel)
theorem fl_X11_228 : Cond.fieldLink RX11 228 (TX11 42).1 (TX11 42).2.1 (TX11 42).2.2.1 ∈ gw := gt 994 (by decide +kernel) (by decide +kernel)
theorem lv_X11_231 : LkV RX11 231 yX11_isVoid RX11 := ⟨gt 1244 (by decide +kernel) (by decide +kernel), gt 1246 (by decide +kernel) (by decide +kernel), gp 46 (by decide +kernel) (by decide +kernel)⟩
theorem lv_X11_234 : LkV RX11 234 yX11_wins RX11 := ⟨gt 1251 (by decide +kernel) (by decide +kernel), gt 1253 (by decide +kernel) (by decide +kernel), gp 47 (by decide +kernel) (by decide +kernel)⟩
theorem cL_X11_238 : Cond.constantLong RX11 238 (1000 : Int64) ∈ gw := gt 1259 (by decide +kernel) (by decide +kernel)
theorem fl_X11_240 : Cond.fieldLink RX11 240 (TX11 43).1 (TX11 43).2.1 (TX11 43).2.2.1 ∈ gw := gt 995 (by decide +kernel) (by decide +kernel)
theorem fl_X11_243 : Cond.fieldLink RX11 243 (TX11 44).1 (TX11 44).2.1 (TX11 44).2.2.1 ∈ gw := gt 996 (by decide +kernel) (by decide +kernel)
theorem fl_X11_246 : Cond.fieldLink RX11 246 (TX11 45).1 (TX11 45).2.1 (TX11 45).2.2.1 ∈ gw := gt 997 (by decide +kernel) (by decide +kernel)
theorem fl_X11_249 : Cond.fieldLink RX11 249 (TX11 46).1 (TX11 46).2.1 (TX11 46).2.2.1 ∈ gw := gt 998 (by decide +kernel) (by decide +kernel)
theorem fl_X11_252 : Cond.fieldLink RX11 252 (TX11 22).1 (TX11 22).2.1 (TX11 22).2.2.1 ∈ gw := gt 974 (by decide +kernel) (by decide +kernel)
theorem lv_X11_255 : LkV RX11 255 yX11_group RX11 := ⟨gt 1236 (by decide +kernel) (by decide +kernel), gt 1238 (by decide +kernel) (by decide +kernel), gp 44 (by decide +kernel) (by decide +kernel)⟩
theorem lv_X11_258 : LkV RX11 258 yX11_figure RX11 := ⟨gt 1240 (by decide +kernel) (by decide +kernel), gt 1242 (by decide +kernel) (by decide +kernel), gp 45 (by decide +kernel) (by decide +kernel)⟩
theorem lv_X11_265 : LkV RX11 265 yX11_groupOf RX11 := ⟨gt 1264 (by decide +kernel) (by decide +kernel), gt 1266 (by decide +kernel) (by decide +kernel), gp 50 (by decide +kernel) (by decide +kernel)⟩
theorem lv_X11_261 : LkV RX11 261 yX11_carry RX11 := ⟨gt 1260 (by decide +kernel) (by decide +kernel), gt 1262 (by decide +kernel) (by decide +kernel), gp 49 (by decide +kernel) (by decide +kernel)⟩
theorem lv_X11_268 : LkV RX11 268 yX11_areRight RX11 := ⟨gt 1224 (by decide +kernel) (by decide +kernel), gt 1226 (by decide +kernel) (by decide +kernel), gp 41 (by decide +kernel) (by decide +kernel)⟩
theorem lv_X11_271 : LkV RX11 271 yX11_takePositions RX11 := ⟨gt 1228 (by decide +kernel) (by decide +kernel), gt 1230 (by decide +kernel) (by decide +kernel), gp 42 (by decide +kernel) (by decide +kernel)⟩
theorem lv_X11_275 : LkV RX11 275 yX11_settle RX11 := ⟨gt 1232 (by decide +kernel) (by decide +kernel), gt 1234 (by decide +kernel) (by decide +kernel), gp 43 (by decide +kernel) (by decide +kernel)⟩
theorem fl_X10_144 : Cond.fieldLink RX10 144 (TX5 0).1 (TX5 0).2.1 (TX5 0).2.2.1 ∈ gw := gt 228 (by decide +kernel) (by decide +kernel)
theorem lv_X10_147 : LkV RX10 147 yX10_carriedInto RX10 := ⟨gt 500 (by decide +kernel) (by decide +kernel), gt 502 (by decide +kernel) (by decide +kernel), gp 12 (by decide +kernel) (by decide +kernel)⟩
theorem lv_X10_155 : LkV RX10 155 yX5_standing RX5 := ⟨gt 504 (by decide +kernel) (by decide +kernel), gt 505 (by decide +kernel) (by decide +kernel), gt 506 (by decide +kernel) (by decide +kernel)⟩
theorem lv_X4_41 : LkV RX4 41 yX5_hasRunner RX5 := ⟨gt 523 (by decide +kernel) (by decide +kernel), gt 346 (by decide +kernel) (by decide +kernel), gt 347 (by decide +kernel) (by decide +kernel)⟩
theorem lv_X4_47 : LkV RX4 47 yX5_isOut RX5 := ⟨gt 528 (by decide +kernel) (by decide +kernel), gt 350 (by decide +kernel) (by decide +kernel), gt 351 (by decide +kernel) (by decide +kernel)⟩
theorem lo_X9_3 : Cond.methodLink RX9 3 Lib.objectInit ∈ gw := gt 533 (by decide +kernel) (by decide +kernel)
theorem fl_X9_19 : Cond.fieldLink RX9 19 (TX9 1).1 (TX9 1).2.1 (TX9 1).2.2.1 ∈ gw := gt 536 (by decide +kernel) (by decide +kernel)
theorem lv_X10_158 : LkV RX10 158 yX10_findPool RX10 := ⟨gt 512 (by decide +kernel) (by decide +kernel), gt 514 (by decide +kernel) (by decide +kernel), gp 13 (by decide +kernel) (by decide +kernel)⟩
theorem ls_X10_162 : LkS RX10 162 yX10_isWindow := ⟨gt 516 (by decide +kernel) (by decide +kernel), gt 517 (by decide +kernel) (by decide +kernel)⟩
theorem lv_X10_165 : LkV RX10 165 yX4_refuseLine RX4 := ⟨gt 519 (by decide +kernel) (by decide +kernel), gt 520 (by decide +kernel) (by decide +kernel), gt 521 (by decide +kernel) (by decide +kernel)⟩
theorem lv_X10_169 : LkV RX10 169 yX4_hasOut RX4 := ⟨gt 524 (by decide +kernel) (by decide +kernel), gt 525 (by decide +kernel) (by decide +kernel), gt 526 (by decide +kernel) (by decide +kernel)⟩
theorem cl_X10_21 : Cond.classLink RX10 21 RX9 ∈ gw ∧ Cond.instantiable RX9 7 ∈ gw ∧ Cond.initialized RX9 ∈ gw := ⟨gt 30 (by decide +kernel) (by decide +kernel), gt 529 (by decide +kernel) (by decide +kernel), gt 12 (by decide +kernel) (by decide +kernel)⟩
theorem lI_X10_180 : LkI RX10 180 yX9_init := ⟨gt 530 (by decide +kernel) (by decide +kernel), gt 531 (by decide +kernel) (by decide +kernel)⟩
theorem lv_X10_183 : LkV RX10 183 yX9_begin RX9 := ⟨gt 563 (by decide +kernel) (by decide +kernel), gt 564 (by decide +kernel) (by decide +kernel), gt 565 (by decide +kernel) (by decide +kernel)⟩
theorem lv_X11_278 : LkV RX11 278 yX11_raceOf RX11 := ⟨gt 1284 (by decide +kernel) (by decide +kernel), gt 1286 (by decide +kernel) (by decide +kernel), gp 53 (by decide +kernel) (by decide +kernel)⟩
theorem lv_X11_281 : LkV RX11 281 yX11_isThere RX11 := ⟨gt 1276 (by decide +kernel) (by decide +kernel), gt 1278 (by decide +kernel) (by decide +kernel), gp 51 (by decide +kernel) (by decide +kernel)⟩
theorem lv_X11_284 : LkV RX11 284 yX11_barsRow RX11 := ⟨gt 1280 (by decide +kernel) (by decide +kernel), gt 1282 (by decide +kernel) (by decide +kernel), gp 52 (by decide +kernel) (by decide +kernel)⟩
theorem lv_X11_288 : LkV RX11 288 yX11_isGone RX11 := ⟨gt 1288 (by decide +kernel) (by decide +kernel), gt 1290 (by decide +kernel) (by decide +kernel), gp 54 (by decide +kernel) (by decide +kernel)⟩
theorem lv_X10_187 : LkV RX10 187 yX10_findTicket RX10 := ⟨gt 571 (by decide +kernel) (by decide +kernel), gt 573 (by decide +kernel) (by decide +kernel), gp 14 (by decide +kernel) (by decide +kernel)⟩
theorem lv_X10_195 : LkV RX10 195 yX9_stake RX9 := ⟨gt 575 (by decide +kernel) (by decide +kernel), gt 376 (by decide +kernel) (by decide +kernel), gt 377 (by decide +kernel) (by decide +kernel)⟩
theorem lv_X10_199 : LkV RX10 199 yX9_end RX9 := ⟨gt 576 (by decide +kernel) (by decide +kernel), gt 380 (by decide +kernel) (by decide +kernel), gt 381 (by decide +kernel) (by decide +kernel)⟩
theorem lv_X11_291 : LkV RX11 291 yX11_isTicket RX11 := ⟨gt 1296 (by decide +kernel) (by decide +kernel), gt 1298 (by decide +kernel) (by decide +kernel), gp 55 (by decide +kernel) (by decide +kernel)⟩
theorem lv_X9_61 : LkV RX9 61 yX4_isSettled RX4 := ⟨gt 585 (by decide +kernel) (by decide +kernel), gt 431 (by decide +kernel) (by decide +kernel), gt 432 (by decide +kernel) (by decide +kernel)⟩
theorem fl_X9_65 : Cond.fieldLink RX9 65 (TX4 7).1 (TX4 7).2.1 (TX4 7).2.2.1 ∈ gw := gt 304 (by decide +kernel) (by decide +kernel)
theorem lv_X10_227 : LkV RX10 227 yX9_due RX9 := ⟨gt 589 (by decide +kernel) (by decide +kernel), gt 590 (by decide +kernel) (by decide +kernel), gt 591 (by decide +kernel) (by decide +kernel)⟩
theorem lv_X10_202 : LkV RX10 202 yX9_isPayable RX9 := ⟨gt 581 (by decide +kernel) (by decide +kernel), gt 582 (by decide +kernel) (by decide +kernel), gt 583 (by decide +kernel) (by decide +kernel)⟩
theorem ls_X10_205 : LkS RX10 205 yX10_payOut := ⟨gt 586 (by decide +kernel) (by decide +kernel), gt 587 (by decide +kernel) (by decide +kernel)⟩
theorem lv_X11_294 : LkV RX11 294 yX11_dueTo RX11 := ⟨gt 1312 (by decide +kernel) (by decide +kernel), gt 1314 (by decide +kernel) (by decide +kernel), gp 58 (by decide +kernel) (by decide +kernel)⟩
theorem lv_X11_297 : LkV RX11 297 yX11_mayPay RX11 := ⟨gt 1304 (by decide +kernel) (by decide +kernel), gt 1306 (by decide +kernel) (by decide +kernel), gp 56 (by decide +kernel) (by decide +kernel)⟩
theorem lv_X11_300 : LkV RX11 300 yX11_payOne RX11 := ⟨gt 1308 (by decide +kernel) (by decide +kernel), gt 1310 (by decide +kernel) (by decide +kernel), gp 57 (by decide +kernel) (by decide +kernel)⟩
theorem fl_X10_212 : Cond.fieldLink RX10 212 (TX9 3).1 (TX9 3).2.1 (TX9 3).2.2.1 ∈ gw := gt 541 (by decide +kernel) (by decide +kernel)
theorem fl_X10_215 : Cond.fieldLink RX10 215 (TX9 4).1 (TX9 4).2.1 (TX9 4).2.2.1 ∈ gw := gt 543 (by decide +kernel) (by decide +kernel)
theorem fl_X10_218 : Cond.fieldLink RX10 218 (TX9 5).1 (TX9 5).2.1 (TX9 5).2.2.1 ∈ gw := gt 545 (by decide +kernel) (by decide +kernel)
theorem fl_X10_221 : Cond.fieldLink RX10 221 (TX9 2).1 (TX9 2).2.1 (TX9 2).2.2.1 ∈ gw := gt 539 (by decide +kernel) (by decide +kernel)
theorem fl_X10_224 : Cond.fieldLink RX10 224 (TX9 1).1 (TX9 1).2.1 (TX9 1).2.2.1 ∈ gw := gt 537 (by decide +kernel) (by decide +kernel)
theorem fl_X10_230 : Cond.fieldLink RX10 230 (TX4 6).1 (TX4 6).2.1 (TX4 6).2.2.1 ∈ gw := gt 302 (by decide +kernel) (by decide +kernel)
theorem lv_X10_233 : LkV RX10 233 yX4_lineOf RX4 := ⟨gt 601 (by decide +kernel) (by decide +kernel), gt 388 (by decide +kernel) (by decide +kernel), gt 389 (by decide +kernel) (by decide +kernel)⟩
theorem lv_X11_303 : LkV RX11 303 yX11_isFor RX11 := ⟨gt 1324 (by decide +kernel) (by decide +kernel), gt 1326 (by decide +kernel) (by decide +kernel), gp 59 (by decide +kernel) (by decide +kernel)⟩
theorem fl_X10_239 : Cond.fieldLink RX10 239 (TX4 7).1 (TX4 7).2.1 (TX4 7).2.2.1 ∈ gw := gt 306 (by decide +kernel) (by decide +kernel)
theorem lv_X5_43 : LkV RX5 43 yX5_isOut RX5 := ⟨gt 614 (by decide +kernel) (by decide +kernel), gt 350 (by decide +kernel) (by decide +kernel), gt 351 (by decide +kernel) (by decide +kernel)⟩
theorem lv_X10_434 : LkV RX10 434 yX2_begin RX2 := ⟨gt 619 (by decide +kernel) (by decide +kernel), gt 412 (by decide +kernel) (by decide +kernel), gt 413 (by decide +kernel) (by decide +kernel)⟩
theorem lv_X10_436 : LkV RX10 436 yX2_add RX2 := ⟨gt 620 (by decide +kernel) (by decide +kernel), gt 416 (by decide +kernel) (by decide +kernel), gt 417 (by decide +kernel) (by decide +kernel)⟩
theorem fl_X10_242 : Cond.fieldLink RX10 242 (TX4 1).1 (TX4 1).2.1 (TX4 1).2.2.1 ∈ gw := gt 288 (by decide +kernel) (by decide +kernel)
theorem lv_X10_245 : LkV RX10 245 yX5_areRow RX5 := ⟨gt 610 (by decide +kernel) (by decide +kernel), gt 611 (by decide +kernel) (by decide +kernel), gt 612 (by decide +kernel) (by decide +kernel)⟩
theorem lv_X10_248 : LkV RX10 248 yX10_suppose RX10 := ⟨gt 615 (by decide +kernel) (by decide +kernel), gt 617 (by decide +kernel) (by decide +kernel), gp 15 (by decide +kernel) (by decide +kernel)⟩
theorem lv_X10_256 : LkV RX10 256 yX7_dividendOf RX7 := ⟨gt 621 (by decide +kernel) (by decide +kernel), gt 622 (by decide +kernel) (by decide +kernel), gt 623 (by decide +kernel) (by decide +kernel)⟩
theorem lv_X11_307 : LkV RX11 307 yX11_suppose RX11 := ⟨gt 1336 (by decide +kernel) (by decide +kernel), gt 1338 (by decide +kernel) (by decide +kernel), gp 60 (by decide +kernel) (by decide +kernel)⟩
theorem fl_X10_439 : Cond.fieldLink RX10 439 (TX7 8).1 (TX7 8).2.1 (TX7 8).2.2.1 ∈ gw := gt 92 (by decide +kernel) (by decide +kernel)
theorem lv_X10_265 : LkV RX10 265 yX10_dueIf RX10 := ⟨gt 641 (by decide +kernel) (by decide +kernel), gt 643 (by decide +kernel) (by decide +kernel), gp 16 (by decide +kernel) (by decide +kernel)⟩
theorem fl_X10_269 : Cond.fieldLink RX10 269 (TX10 13).1 (TX10 13).2.1 (TX10 13).2.2.1 ∈ gw := gt 180 (by decide +kernel) (by decide +kernel)
theorem fl_X11_310 : Cond.fieldLink RX11 310 (TX11 47).1 (TX11 47).2.1 (TX11 47).2.2.1 ∈ gw := gt 999 (by decide +kernel) (by decide +kernel)
theorem lv_X11_313 : LkV RX11 313 yX11_dueNow RX11 := ⟨gt 1356 (by decide +kernel) (by decide +kernel), gt 1358 (by decide +kernel) (by decide +kernel), gp 61 (by decide +kernel) (by decide +kernel)⟩
theorem fl_X10_397 : Cond.fieldLink RX10 397 (TX10 15).1 (TX10 15).2.1 (TX10 15).2.2.1 ∈ gw := gt 182 (by decide +kernel) (by decide +kernel)
theorem lv_X10_275 : LkV RX10 275 yX10_allDeducted RX10 := ⟨gt 657 (by decide +kernel) (by decide +kernel), gt 659 (by decide +kernel) (by decide +kernel), gp 18 (by decide +kernel) (by decide +kernel)⟩
theorem lv_X10_272 : LkV RX10 272 yX10_found RX10 := ⟨gt 653 (by decide +kernel) (by decide +kernel), gt 655 (by decide +kernel) (by decide +kernel), gp 17 (by decide +kernel) (by decide +kernel)⟩
theorem fl_X11_323 : Cond.fieldLink RX11 323 (TX11 49).1 (TX11 49).2.1 (TX11 49).2.2.1 ∈ gw := gt 1001 (by decide +kernel) (by decide +kernel)
theorem lv_X11_319 : LkV RX11 319 yX11_allDeducted RX11 := ⟨gt 1372 (by decide +kernel) (by decide +kernel), gt 1374 (by decide +kernel) (by decide +kernel), gp 63 (by decide +kernel) (by decide +kernel)⟩
theorem lv_X11_316 : LkV RX11 316 yX11_meets RX11 := ⟨gt 1368 (by decide +kernel) (by decide +kernel), gt 1370 (by decide +kernel) (by decide +kernel), gp 62 (by decide +kernel) (by decide +kernel)⟩
theorem lv_X1_22 : LkV RX1 22 yX8_holdNothing RX8 := ⟨gt 669 (by decide +kernel) (by decide +kernel), gt 670 (by decide +kernel) (by decide +kernel), gt 671 (by decide +kernel) (by decide +kernel)⟩
theorem lv_X10_279 : LkV RX10 279 yX1_open RX1 := ⟨gt 665 (by decide +kernel) (by decide +kernel), gt 666 (by decide +kernel) (by decide +kernel), gt 667 (by decide +kernel) (by decide +kernel)⟩
theorem ls_X11_326 : LkS RX11 326 yX11_isWindow := ⟨gt 1380 (by decide +kernel) (by decide +kernel), gt 1381 (by decide +kernel) (by decide +kernel)⟩
theorem fl_X10_282 : Cond.fieldLink RX10 282 (TX1 1).1 (TX1 1).2.1 (TX1 1).2.2.1 ∈ gw := gt 144 (by decide +kernel) (by decide +kernel)
theorem lv_X10_285 : LkV RX10 285 yX10_refuseSlip RX10 := ⟨gt 681 (by decide +kernel) (by decide +kernel), gt 683 (by decide +kernel) (by decide +kernel), gp 19 (by decide +kernel) (by decide +kernel)⟩
theorem fl_X10_288 : Cond.fieldLink RX10 288 (TX1 0).1 (TX1 0).2.1 (TX1 0).2.2.1 ∈ gw := gt 142 (by decide +kernel) (by decide +kernel)
theorem lv_X10_292 : LkV RX10 292 yX8_holdTicket RX8 := ⟨gt 685 (by decide +kernel) (by decide +kernel), gt 686 (by decide +kernel) (by decide +kernel), gt 687 (by decide +kernel) (by decide +kernel)⟩
theorem lv_X11_329 : LkV RX11 329 yX11_lacks RX11 := ⟨gt 1391 (by decide +kernel) (by decide +kernel), gt 1393 (by decide +kernel) (by decide +kernel), gp 64 (by decide +kernel) (by decide +kernel)⟩
theorem fl_X8_22 : Cond.fieldLink RX8 22 (TX8 3).1 (TX8 3).2.1 (TX8 3).2.2.1 ∈ gw := gt 130 (by decide +kernel) (by decide +kernel)
theorem cI_X8_25 : Cond.constant RX8 25 (65535 : Int32) ∈ gw := gt 697 (by decide +kernel) (by decide +kernel)
theorem lv_X10_297 : LkV RX10 297 yX8_holdNote RX8 := ⟨gt 693 (by decide +kernel) (by decide +kernel), gt 694 (by decide +kernel) (by decide +kernel), gt 695 (by decide +kernel) (by decide +kernel)⟩
theorem cL_X11_332 : Cond.constantLong RX11 332 (65535 : Int64) ∈ gw := gt 1399 (by decide +kernel) (by decide +kernel)
theorem ls_X8_26 : LkS RX8 26 yJ7_fill_53178 := ⟨gt 706 (by decide +kernel) (by decide +kernel), gt 707 (by decide +kernel) (by decide +kernel)⟩
theorem lv_X10_301 : LkV RX10 301 yX8_holdCoins RX8 := ⟨gt 702 (by decide +kernel) (by decide +kernel), gt 703 (by decide +kernel) (by decide +kernel), gt 704 (by decide +kernel) (by decide +kernel)⟩
theorem fl_X10_314 : Cond.fieldLink RX10 314 (TX8 2).1 (TX8 2).2.1 (TX8 2).2.2.1 ∈ gw := gt 129 (by decide +kernel) (by decide +kernel)
theorem fl_X10_441 : Cond.fieldLink RX10 441 (TX8 1).1 (TX8 1).2.1 (TX8 1).2.2.1 ∈ gw := gt 127 (by decide +kernel) (by decide +kernel)
theorem lv_X10_304 : LkV RX10 304 yX10_kindOf RX10 := ⟨gt 713 (by decide +kernel) (by decide +kernel), gt 715 (by decide +kernel) (by decide +kernel), gp 20 (by decide +kernel) (by decide +kernel)⟩
theorem lv_X10_308 : LkV RX10 308 yX8_holdNothing RX8 := ⟨gt 717 (by decide +kernel) (by decide +kernel), gt 670 (by decide +kernel) (by decide +kernel), gt 671 (by decide +kernel) (by decide +kernel)⟩
theorem lv_X11_334 : LkV RX11 334 yX11_kindAt RX11 := ⟨gt 1408 (by decide +kernel) (by decide +kernel), gt 1410 (by decide +kernel) (by decide +kernel), gp 65 (by decide +kernel) (by decide +kernel)⟩
theorem lv_X10_311 : LkV RX10 311 yX10_refuseHeld RX10 := ⟨gt 726 (by decide +kernel) (by decide +kernel), gt 728 (by decide +kernel) (by decide +kernel), gp 21 (by decide +kernel) (by decide +kernel)⟩
theorem lv_X11_337 : LkV RX11 337 yX11_lacksAs RX11 := ⟨gt 1420 (by decide +kernel) (by decide +kernel), gt 1422 (by decide +kernel) (by decide +kernel), gp 66 (by decide +kernel) (by decide +kernel)⟩
theorem fl_X10_444 : Cond.fieldLink RX10 444 (TX8 3).1 (TX8 3).2.1 (TX8 3).2.2.1 ∈ gw := gt 131 (by decide +kernel) (by decide +kernel)
theorem lv_X10_317 : LkV RX10 317 yX10_refuseCell RX10 := ⟨gt 734 (by decide +kernel) (by decide +kernel), gt 736 (by decide +kernel) (by decide +kernel), gp 22 (by decide +kernel) (by decide +kernel)⟩
theorem fl_X10_321 : Cond.fieldLink RX10 321 (TX8 0).1 (TX8 0).2.1 (TX8 0).2.2.1 ∈ gw := gt 125 (by decide +kernel) (by decide +kernel)
theorem lv_X11_341 : LkV RX11 341 yX11_lacksItem RX11 := ⟨gt 1428 (by decide +kernel) (by decide +kernel), gt 1430 (by decide +kernel) (by decide +kernel), gp 67 (by decide +kernel) (by decide +kernel)⟩
theorem lv_X11_344 : LkV RX11 344 yX11_none RX11 := ⟨gt 1440 (by decide +kernel) (by decide +kernel), gt 1442 (by decide +kernel) (by decide +kernel), gp 68 (by decide +kernel) (by decide +kernel)⟩
theorem fl_X6_19 : Cond.fieldLink RX6 19 (TX6 1).1 (TX6 1).2.1 (TX6 1).2.2.1 ∈ gw := gt 157 (by decide +kernel) (by decide +kernel)
theorem ls_X6_22 : LkS RX6 22 yJ7_fill_53178 := ⟨gt 761 (by decide +kernel) (by decide +kernel), gt 707 (by decide +kernel) (by decide +kernel)⟩
theorem ls_X10_324 : LkS RX10 324 yX10_isSatchel := ⟨gt 754 (by decide +kernel) (by decide +kernel), gt 755 (by decide +kernel) (by decide +kernel)⟩
theorem lv_X10_327 : LkV RX10 327 yX6_begin RX6 := ⟨gt 757 (by decide +kernel) (by decide +kernel), gt 758 (by decide +kernel) (by decide +kernel), gt 759 (by decide +kernel) (by decide +kernel)⟩
theorem ls_X11_347 : LkS RX11 347 yX11_isSatchel := ⟨gt 1452 (by decide +kernel) (by decide +kernel), gt 1453 (by decide +kernel) (by decide +kernel)⟩
theorem fl_X10_339 : Cond.fieldLink RX10 339 (TX6 2).1 (TX6 2).2.1 (TX6 2).2.2.1 ∈ gw := gt 159 (by decide +kernel) (by decide +kernel)
theorem lv_X10_349 : LkV RX10 349 yX10_refusePlace RX10 := ⟨gt 774 (by decide +kernel) (by decide +kernel), gt 776 (by decide +kernel) (by decide +kernel), gp 24 (by decide +kernel) (by decide +kernel)⟩
theorem lv_X10_445 : LkV RX10 445 yX6_takes RX6 := ⟨gt 778 (by decide +kernel) (by decide +kernel), gt 779 (by decide +kernel) (by decide +kernel), gt 780 (by decide +kernel) (by decide +kernel)⟩
theorem fl_X10_340 : Cond.fieldLink RX10 340 (TX6 0).1 (TX6 0).2.1 (TX6 0).2.2.1 ∈ gw := gt 156 (by decide +kernel) (by decide +kernel)
theorem fl_X10_330 : Cond.fieldLink RX10 330 (TX10 14).1 (TX10 14).2.1 (TX10 14).2.2.1 ∈ gw := gt 181 (by decide +kernel) (by decide +kernel)
theorem lv_X10_333 : LkV RX10 333 yX8_brings RX8 := ⟨gt 766 (by decide +kernel) (by decide +kernel), gt 767 (by decide +kernel) (by decide +kernel), gt 768 (by decide +kernel) (by decide +kernel)⟩
theorem lv_X10_336 : LkV RX10 336 yX10_putIn RX10 := ⟨gt 770 (by decide +kernel) (by decide +kernel), gt 772 (by decide +kernel) (by decide +kernel), gp 23 (by decide +kernel) (by decide +kernel)⟩
theorem fl_X11_350 : Cond.fieldLink RX11 350 (TX11 62).1 (TX11 62).2.1 (TX11 62).2.2.1 ∈ gw := gt 1014 (by decide +kernel) (by decide +kernel)
theorem lv_X11_353 : LkV RX11 353 yX11_takes RX11 := ⟨gt 1459 (by decide +kernel) (by decide +kernel), gt 1461 (by decide +kernel) (by decide +kernel), gp 69 (by decide +kernel) (by decide +kernel)⟩
theorem ln_X10_343 : Cond.methodLink RX10 343 arraycopyName ∈ gw := gt 786 (by decide +kernel) (by decide +kernel)
theorem nt_acopy : Cond.native arraycopyName ∈ gw ∧ Cond.static arraycopyName ∈ gw ∧ Cond.initialized "java/lang/System" ∈ gw := ⟨gt 788 (by decide +kernel) (by decide +kernel), gt 787 (by decide +kernel) (by decide +kernel), gt 14 (by decide +kernel) (by decide +kernel)⟩
theorem cI_X3_10 : Cond.constant RX3 10 (2147483647 : Int32) ∈ gw := gt 808 (by decide +kernel) (by decide +kernel)
theorem cI_X3_9 : Cond.constant RX3 9 (2139095040 : Int32) ∈ gw := gt 809 (by decide +kernel) (by decide +kernel)
theorem fl_X10_352 : Cond.fieldLink RX10 352 (TX5 5).1 (TX5 5).2.1 (TX5 5).2.2.1 ∈ gw := gt 237 (by decide +kernel) (by decide +kernel)
theorem fl_X10_355 : Cond.fieldLink RX10 355 (TX5 4).1 (TX5 4).2.1 (TX5 4).2.2.1 ∈ gw := gt 235 (by decide +kernel) (by decide +kernel)
theorem ls_X10_358 : LkS RX10 358 yX3_isNoNumber := ⟨gt 805 (by decide +kernel) (by decide +kernel), gt 806 (by decide +kernel) (by decide +kernel)⟩
theorem cI_X10_363 : Cond.constant RX10 363 (2143289344 : Int32) ∈ gw := gt 810 (by decide +kernel) (by decide +kernel)
theorem cI_X11_356 : Cond.constant RX11 356 (2147483647 : Int32) ∈ gw := gt 1489 (by decide +kernel) (by decide +kernel)
theorem cI_X11_357 : Cond.constant RX11 357 (2139095040 : Int32) ∈ gw := gt 1490 (by decide +kernel) (by decide +kernel)
theorem ls_X11_358 : LkS RX11 358 yX11_isNoNumber := ⟨gt 1486 (by decide +kernel) (by decide +kernel), gt 1487 (by decide +kernel) (by decide +kernel)⟩
theorem ln_X11_362 : Cond.methodLink RX11 362 ⟨"java/lang/Float", "intBitsToFloat", "(I)F"⟩ ∈ gw := gt 1492 (by decide +kernel) (by decide +kernel)
theorem nt_i2fN : Cond.native ⟨"java/lang/Float", "intBitsToFloat", "(I)F"⟩ ∈ gw ∧ Cond.static ⟨"java/lang/Float", "intBitsToFloat", "(I)F"⟩ ∈ gw ∧ Cond.initialized "java/lang/Float" ∈ gw := ⟨gt 1494 (by decide +kernel) (by decide +kernel), gt 1493 (by decide +kernel) (by decide +kernel), gt 17 (by decide +kernel) (by decide +kernel)⟩
theorem cI_X11_361 : Cond.constant RX11 361 (2143289344 : Int32) ∈ gw := gt 1491 (by decide +kernel) (by decide +kernel)
theorem ls_X11_374 : LkS RX11 374 yX11_single := ⟨gt 1483 (by decide +kernel) (by decide +kernel), gt 1484 (by decide +kernel) (by decide +kernel)⟩
theorem lv_X10_364 : LkV RX10 364 yX10_isLap RX10 := ⟨gt 815 (by decide +kernel) (by decide +kernel), gt 817 (by decide +kernel) (by decide +kernel), gp 25 (by decide +kernel) (by decide +kernel)⟩
theorem ls_Jxf58ca_59 : LkS RJxf58ca 59 yJxf58ca_isNaN_12338 := ⟨gt 1505 (by decide +kernel) (by decide +kernel), gt 1506 (by decide +kernel) (by decide +kernel)⟩
theorem cI_Jxf58ca_77 : Cond.constant RJxf58ca 77 (2143289344 : Int32) ∈ gw := gt 1511 (by decide +kernel) (by decide +kernel)
theorem ln_Jxf58ca_74 : Cond.methodLink RJxf58ca 74 ⟨"java/lang/Float", "floatToRawIntBits", "(F)I"⟩ ∈ gw := gt 1508 (by decide +kernel) (by decide +kernel)
theorem nt_f2iN : Cond.native ⟨"java/lang/Float", "floatToRawIntBits", "(F)I"⟩ ∈ gw ∧ Cond.static ⟨"java/lang/Float", "floatToRawIntBits", "(F)I"⟩ ∈ gw ∧ Cond.initialized "java/lang/Float" ∈ gw := ⟨gt 1510 (by decide +kernel) (by decide +kernel), gt 1509 (by decide +kernel) (by decide +kernel), gt 17 (by decide +kernel) (by decide +kernel)⟩
theorem ls_X11_370 : LkS RX11 370 yJxf58ca_floatToIntBits_5c35a := ⟨gt 1502 (by decide +kernel) (by decide +kernel), gt 1503 (by decide +kernel) (by decide +kernel)⟩
theorem ls_X11_377 : LkS RX11 377 yX11_bitsOf := ⟨gt 1499 (by decide +kernel) (by decide +kernel), gt 1500 (by decide +kernel) (by decide +kernel)⟩
theorem fl_X5_54 : Cond.fieldLink RX5 54 (TX5 5).1 (TX5 5).2.1 (TX5 5).2.2.1 ∈ gw := gt 236 (by decide +kernel) (by decide +kernel)
theorem ls_X5_57 : LkS RX5 57 yX3_isNumber := ⟨gt 827 (by decide +kernel) (by decide +kernel), gt 828 (by decide +kernel) (by decide +kernel)⟩
theorem cI_X3_11 : Cond.constant RX3 11 (8388607 : Int32) ∈ gw := gt 841 (by decide +kernel) (by decide +kernel)
theorem cI_X3_12 : Cond.constant RX3 12 (8388608 : Int32) ∈ gw := gt 842 (by decide +kernel) (by decide +kernel)
theorem ls_X3_13 : LkS RX3 13 yJ9_max_7cf53 := ⟨gt 846 (by decide +kernel) (by decide +kernel), gt 481 (by decide +kernel) (by decide +kernel)⟩
theorem ls_X3_19 : LkS RX3 19 yX3_mantissa := ⟨gt 838 (by decide +kernel) (by decide +kernel), gt 839 (by decide +kernel) (by decide +kernel)⟩
theorem ls_X3_23 : LkS RX3 23 yX3_power := ⟨gt 843 (by decide +kernel) (by decide +kernel), gt 844 (by decide +kernel) (by decide +kernel)⟩
theorem cF_X3_26 : Cond.constantFloat RX3 26 (1056964608 : UInt32) ∈ gw := gt 847 (by decide +kernel) (by decide +kernel)
theorem cI_X5_66 : Cond.constant RX5 66 (2143289344 : Int32) ∈ gw := gt 834 (by decide +kernel) (by decide +kernel)
theorem ls_X5_62 : LkS RX5 62 yX3_toFloat := ⟨gt 835 (by decide +kernel) (by decide +kernel), gt 836 (by decide +kernel) (by decide +kernel)⟩
theorem cF_X3_32 : Cond.constantFloat RX3 32 (2139095039 : UInt32) ∈ gw := gt 858 (by decide +kernel) (by decide +kernel)
theorem cF_X3_33 : Cond.constantFloat RX3 33 (1266679808 : UInt32) ∈ gw := gt 859 (by decide +kernel) (by decide +kernel)
theorem cF_X3_34 : Cond.constantFloat RX3 34 (1258291200 : UInt32) ∈ gw := gt 860 (by decide +kernel) (by decide +kernel)
theorem ls_X3_35 : LkS RX3 35 yX3_pack := ⟨gt 861 (by decide +kernel) (by decide +kernel), gt 862 (by decide +kernel) (by decide +kernel)⟩
theorem ls_X3_27 : LkS RX3 27 yX3_sizeBits := ⟨gt 855 (by decide +kernel) (by decide +kernel), gt 856 (by decide +kernel) (by decide +kernel)⟩
theorem cI_X3_31 : Cond.constant RX3 31 (-2147483648 : Int32) ∈ gw := gt 864 (by decide +kernel) (by decide +kernel)
theorem lv_X10_367 : LkV RX10 367 yX5_countNumbers RX5 := ⟨gt 823 (by decide +kernel) (by decide +kernel), gt 824 (by decide +kernel) (by decide +kernel), gt 825 (by decide +kernel) (by decide +kernel)⟩
theorem lv_X10_370 : LkV RX10 370 yX5_extremeLap RX5 := ⟨gt 830 (by decide +kernel) (by decide +kernel), gt 831 (by decide +kernel) (by decide +kernel), gt 832 (by decide +kernel) (by decide +kernel)⟩
theorem lv_X10_374 : LkV RX10 374 yX5_sumOfNumbers RX5 := ⟨gt 848 (by decide +kernel) (by decide +kernel), gt 849 (by decide +kernel) (by decide +kernel), gt 850 (by decide +kernel) (by decide +kernel)⟩
theorem ls_X10_378 : LkS RX10 378 yX3_quotientBits := ⟨gt 852 (by decide +kernel) (by decide +kernel), gt 853 (by decide +kernel) (by decide +kernel)⟩
theorem cF_X11_368 : Cond.constantFloat RX11 368 (4286578687 : UInt32) ∈ gw := gt 1519 (by decide +kernel) (by decide +kernel)
theorem cF_X11_369 : Cond.constantFloat RX11 369 (2139095039 : UInt32) ∈ gw := gt 1520 (by decide +kernel) (by decide +kernel)
theorem ls_X11_380 : LkS RX11 380 yX11_isNumber := ⟨gt 1516 (by decide +kernel) (by decide +kernel), gt 1517 (by decide +kernel) (by decide +kernel)⟩
theorem ls_X3_38 : LkS RX3 38 yX3_isNumber := ⟨gt 872 (by decide +kernel) (by decide +kernel), gt 828 (by decide +kernel) (by decide +kernel)⟩
theorem cI_X3_45 : Cond.constant RX3 45 (2143289344 : Int32) ∈ gw := gt 874 (by decide +kernel) (by decide +kernel)
theorem ls_X3_42 : LkS RX3 42 yX3_isNoNumber := ⟨gt 873 (by decide +kernel) (by decide +kernel), gt 806 (by decide +kernel) (by decide +kernel)⟩
theorem ls_X3_46 : LkS RX3 46 yX3_sizeOfRemainder := ⟨gt 875 (by decide +kernel) (by decide +kernel), gt 876 (by decide +kernel) (by decide +kernel)⟩
theorem ls_X10_382 : LkS RX10 382 yX3_remainderBits := ⟨gt 869 (by decide +kernel) (by decide +kernel), gt 870 (by decide +kernel) (by decide +kernel)⟩
theorem fl_X0_15 : Cond.fieldLink RX0 15 (TX0 1).1 (TX0 1).2.1 (TX0 1).2.2.1 ∈ gw := gt 44 (by decide +kernel) (by decide +kernel)
theorem lv_X0_35 : LkV RX0 35 yX0_write RX0 := ⟨gt 890 (by decide +kernel) (by decide +kernel), gt 892 (by decide +kernel) (by decide +kernel), gp 27 (by decide +kernel) (by decide +kernel)⟩
theorem lv_X0_32 : LkV RX0 32 yX0_weighWin RX0 := ⟨gt 894 (by decide +kernel) (by decide +kernel), gt 896 (by decide +kernel) (by decide +kernel), gp 28 (by decide +kernel) (by decide +kernel)⟩
theorem lv_X0_23 : LkV RX0 23 yX0_weighPair RX0 := ⟨gt 898 (by decide +kernel) (by decide +kernel), gt 900 (by decide +kernel) (by decide +kernel), gp 29 (by decide +kernel) (by decide +kernel)⟩
theorem lv_X0_19 : LkV RX0 19 yX0_weighPlace RX0 := ⟨gt 886 (by decide +kernel) (by decide +kernel), gt 888 (by decide +kernel) (by decide +kernel), gp 26 (by decide +kernel) (by decide +kernel)⟩
theorem lv_X0_26 : LkV RX0 26 yX0_weighOrder RX0 := ⟨gt 902 (by decide +kernel) (by decide +kernel), gt 904 (by decide +kernel) (by decide +kernel), gp 30 (by decide +kernel) (by decide +kernel)⟩
theorem lv_X0_29 : LkV RX0 29 yX0_weighDouble RX0 := ⟨gt 906 (by decide +kernel) (by decide +kernel), gt 908 (by decide +kernel) (by decide +kernel), gp 31 (by decide +kernel) (by decide +kernel)⟩
theorem lv_X0_39 : LkV RX0 39 yX0_weigh RX0 := ⟨gt 914 (by decide +kernel) (by decide +kernel), gt 883 (by decide +kernel) (by decide +kernel), gt 884 (by decide +kernel) (by decide +kernel)⟩
theorem fl_X10_385 : Cond.fieldLink RX10 385 (TX0 1).1 (TX0 1).2.1 (TX0 1).2.2.1 ∈ gw := gt 45 (by decide +kernel) (by decide +kernel)
theorem lv_X10_391 : LkV RX10 391 yX0_score RX0 := ⟨gt 910 (by decide +kernel) (by decide +kernel), gt 911 (by decide +kernel) (by decide +kernel), gt 912 (by decide +kernel) (by decide +kernel)⟩
theorem lv_X10_388 : LkV RX10 388 yX0_weigh RX0 := ⟨gt 882 (by decide +kernel) (by decide +kernel), gt 883 (by decide +kernel) (by decide +kernel), gt 884 (by decide +kernel) (by decide +kernel)⟩
theorem fl_X11_384 : Cond.fieldLink RX11 384 (TX11 66).1 (TX11 66).2.1 (TX11 66).2.2.1 ∈ gw := gt 1018 (by decide +kernel) (by decide +kernel)
theorem lv_X11_387 : LkV RX11 387 yX11_begins RX11 := ⟨gt 1533 (by decide +kernel) (by decide +kernel), gt 1535 (by decide +kernel) (by decide +kernel), gp 71 (by decide +kernel) (by decide +kernel)⟩
theorem lv_X11_390 : LkV RX11 390 yX11_weight RX11 := ⟨gt 1529 (by decide +kernel) (by decide +kernel), gt 1531 (by decide +kernel) (by decide +kernel), gp 70 (by decide +kernel) (by decide +kernel)⟩
theorem lv_X11_393 : LkV RX11 393 yX11_points RX11 := ⟨gt 1537 (by decide +kernel) (by decide +kernel), gt 1539 (by decide +kernel) (by decide +kernel), gp 72 (by decide +kernel) (by decide +kernel)⟩
theorem fl_X10_394 : Cond.fieldLink RX10 394 (TX0 0).1 (TX0 0).2.1 (TX0 0).2.2.1 ∈ gw := gt 43 (by decide +kernel) (by decide +kernel)
theorem lv_X10_400 : LkV RX10 400 yX10_countPools RX10 := ⟨gt 927 (by decide +kernel) (by decide +kernel), gt 929 (by decide +kernel) (by decide +kernel), gp 32 (by decide +kernel) (by decide +kernel)⟩
theorem lv_X10_403 : LkV RX10 403 yX10_countLive RX10 := ⟨gt 931 (by decide +kernel) (by decide +kernel), gt 933 (by decide +kernel) (by decide +kernel), gp 33 (by decide +kernel) (by decide +kernel)⟩
theorem lv_X11_396 : LkV RX11 396 yX11_pools RX11 := ⟨gt 1553 (by decide +kernel) (by decide +kernel), gt 1555 (by decide +kernel) (by decide +kernel), gp 73 (by decide +kernel) (by decide +kernel)⟩
theorem cL_X4_53 : Cond.constantLong RX4 53 (31 : Int64) ∈ gw := gt 945 (by decide +kernel) (by decide +kernel)
theorem cL_X10_406 : Cond.constantLong RX10 406 (17 : Int64) ∈ gw := gt 939 (by decide +kernel) (by decide +kernel)
theorem cL_X10_408 : Cond.constantLong RX10 408 (31 : Int64) ∈ gw := gt 940 (by decide +kernel) (by decide +kernel)
theorem lv_X10_410 : LkV RX10 410 yX4_digestOnto RX4 := ⟨gt 941 (by decide +kernel) (by decide +kernel), gt 942 (by decide +kernel) (by decide +kernel), gt 943 (by decide +kernel) (by decide +kernel)⟩
theorem cL_X11_399 : Cond.constantLong RX11 399 (17 : Int64) ∈ gw := gt 1561 (by decide +kernel) (by decide +kernel)
theorem cL_X11_401 : Cond.constantLong RX11 401 (31 : Int64) ∈ gw := gt 1562 (by decide +kernel) (by decide +kernel)
theorem lv_X11_403 : LkV RX11 403 yX11_raceAt RX11 := ⟨gt 1563 (by decide +kernel) (by decide +kernel), gt 1269 (by decide +kernel) (by decide +kernel), gt 1270 (by decide +kernel) (by decide +kernel)⟩
theorem lv_X11_406 : LkV RX11 406 yX11_book RX11 := ⟨gt 1564 (by decide +kernel) (by decide +kernel), gt 1341 (by decide +kernel) (by decide +kernel), gt 1342 (by decide +kernel) (by decide +kernel)⟩
theorem cl_L_7 : Cond.classLink RL 7 RX10 ∈ gw ∧ Cond.instantiable RX10 16 ∈ gw ∧ Cond.initialized RX10 ∈ gw := ⟨gt 18 (by decide +kernel) (by decide +kernel), gt 19 (by decide +kernel) (by decide +kernel), gt 1 (by decide +kernel) (by decide +kernel)⟩
theorem lI_L_9 : LkI RL 9 yX10_init := ⟨gt 20 (by decide +kernel) (by decide +kernel), gt 21 (by decide +kernel) (by decide +kernel)⟩
theorem cl_L_10 : Cond.classLink RL 10 RX11 ∈ gw ∧ Cond.instantiable RX11 68 ∈ gw ∧ Cond.initialized RX11 ∈ gw := ⟨gt 946 (by decide +kernel) (by decide +kernel), gt 947 (by decide +kernel) (by decide +kernel), gt 8 (by decide +kernel) (by decide +kernel)⟩
theorem lI_L_12 : LkI RL 12 yX11_init := ⟨gt 948 (by decide +kernel) (by decide +kernel), gt 949 (by decide +kernel) (by decide +kernel)⟩
theorem lv_L_13 : LkV RL 13 yX10_race RX10 := ⟨gt 216 (by decide +kernel) (by decide +kernel), gt 217 (by decide +kernel) (by decide +kernel), gt 218 (by decide +kernel) (by decide +kernel)⟩
theorem lv_L_17 : LkV RL 17 yX11_race RX11 := ⟨gt 1158 (by decide +kernel) (by decide +kernel), gt 1159 (by decide +kernel) (by decide +kernel), gt 1160 (by decide +kernel) (by decide +kernel)⟩
theorem lv_L_18 : LkV RL 18 yX10_pool RX10 := ⟨gt 264 (by decide +kernel) (by decide +kernel), gt 265 (by decide +kernel) (by decide +kernel), gt 266 (by decide +kernel) (by decide +kernel)⟩
theorem lv_L_22 : LkV RL 22 yX11_pool RX11 := ⟨gt 1165 (by decide +kernel) (by decide +kernel), gt 1166 (by decide +kernel) (by decide +kernel), gt 1167 (by decide +kernel) (by decide +kernel)⟩
theorem lv_L_23 : LkV RL 23 yX10_twin RX10 := ⟨gt 334 (by decide +kernel) (by decide +kernel), gt 335 (by decide +kernel) (by decide +kernel), gt 336 (by decide +kernel) (by decide +kernel)⟩
theorem lv_L_26 : LkV RL 26 yX11_twin RX11 := ⟨gt 1180 (by decide +kernel) (by decide +kernel), gt 1181 (by decide +kernel) (by decide +kernel), gt 1182 (by decide +kernel) (by decide +kernel)⟩
theorem lv_L_27 : LkV RL 27 yX10_substitute RX10 := ⟨gt 338 (by decide +kernel) (by decide +kernel), gt 339 (by decide +kernel) (by decide +kernel), gt 340 (by decide +kernel) (by decide +kernel)⟩
theorem lv_L_31 : LkV RL 31 yX11_substitute RX11 := ⟨gt 1184 (by decide +kernel) (by decide +kernel), gt 1185 (by decide +kernel) (by decide +kernel), gt 1186 (by decide +kernel) (by decide +kernel)⟩
theorem lv_L_32 : LkV RL 32 yX10_scratch RX10 := ⟨gt 354 (by decide +kernel) (by decide +kernel), gt 355 (by decide +kernel) (by decide +kernel), gt 356 (by decide +kernel) (by decide +kernel)⟩
theorem lv_L_35 : LkV RL 35 yX11_scratch RX11 := ⟨gt 1196 (by decide +kernel) (by decide +kernel), gt 1197 (by decide +kernel) (by decide +kernel), gt 1198 (by decide +kernel) (by decide +kernel)⟩
theorem lv_L_36 : LkV RL 36 yX10_off RX10 := ⟨gt 395 (by decide +kernel) (by decide +kernel), gt 396 (by decide +kernel) (by decide +kernel), gt 397 (by decide +kernel) (by decide +kernel)⟩
theorem lv_L_39 : LkV RL 39 yX11_off RX11 := ⟨gt 1208 (by decide +kernel) (by decide +kernel), gt 1209 (by decide +kernel) (by decide +kernel), gt 1210 (by decide +kernel) (by decide +kernel)⟩
theorem lv_L_40 : LkV RL 40 yX10_place RX10 := ⟨gt 399 (by decide +kernel) (by decide +kernel), gt 400 (by decide +kernel) (by decide +kernel), gt 401 (by decide +kernel) (by decide +kernel)⟩
theorem lv_L_44 : LkV RL 44 yX11_place RX11 := ⟨gt 1216 (by decide +kernel) (by decide +kernel), gt 1217 (by decide +kernel) (by decide +kernel), gt 1218 (by decide +kernel) (by decide +kernel)⟩
theorem lv_L_45 : LkV RL 45 yX10_official RX10 := ⟨gt 403 (by decide +kernel) (by decide +kernel), gt 404 (by decide +kernel) (by decide +kernel), gt 405 (by decide +kernel) (by decide +kernel)⟩
theorem lv_L_48 : LkV RL 48 yX11_official RX11 := ⟨gt 1220 (by decide +kernel) (by decide +kernel), gt 1221 (by decide +kernel) (by decide +kernel), gt 1222 (by decide +kernel) (by decide +kernel)⟩
theorem lv_L_49 : LkV RL 49 yX10_raceAt RX10 := ⟨gt 496 (by decide +kernel) (by decide +kernel), gt 497 (by decide +kernel) (by decide +kernel), gt 498 (by decide +kernel) (by decide +kernel)⟩
theorem lv_L_52 : LkV RL 52 yX11_raceAt RX11 := ⟨gt 1268 (by decide +kernel) (by decide +kernel), gt 1269 (by decide +kernel) (by decide +kernel), gt 1270 (by decide +kernel) (by decide +kernel)⟩
theorem lv_L_53 : LkV RL 53 yX10_sell RX10 := ⟨gt 508 (by decide +kernel) (by decide +kernel), gt 509 (by decide +kernel) (by decide +kernel), gt 510 (by decide +kernel) (by decide +kernel)⟩
theorem lv_L_57 : LkV RL 57 yX11_sell RX11 := ⟨gt 1272 (by decide +kernel) (by decide +kernel), gt 1273 (by decide +kernel) (by decide +kernel), gt 1274 (by decide +kernel) (by decide +kernel)⟩
theorem lv_L_58 : LkV RL 58 yX10_cancel RX10 := ⟨gt 567 (by decide +kernel) (by decide +kernel), gt 568 (by decide +kernel) (by decide +kernel), gt 569 (by decide +kernel) (by decide +kernel)⟩
theorem lv_L_61 : LkV RL 61 yX11_cancel RX11 := ⟨gt 1292 (by decide +kernel) (by decide +kernel), gt 1293 (by decide +kernel) (by decide +kernel), gt 1294 (by decide +kernel) (by decide +kernel)⟩
theorem lv_L_62 : LkV RL 62 yX10_pay RX10 := ⟨gt 577 (by decide +kernel) (by decide +kernel), gt 578 (by decide +kernel) (by decide +kernel), gt 579 (by decide +kernel) (by decide +kernel)⟩
theorem lv_L_65 : LkV RL 65 yX11_pay RX11 := ⟨gt 1300 (by decide +kernel) (by decide +kernel), gt 1301 (by decide +kernel) (by decide +kernel), gt 1302 (by decide +kernel) (by decide +kernel)⟩
theorem lv_L_66 : LkV RL 66 yX10_ticket RX10 := ⟨gt 593 (by decide +kernel) (by decide +kernel), gt 594 (by decide +kernel) (by decide +kernel), gt 595 (by decide +kernel) (by decide +kernel)⟩
theorem lv_L_69 : LkV RL 69 yX11_ticket RX11 := ⟨gt 1316 (by decide +kernel) (by decide +kernel), gt 1317 (by decide +kernel) (by decide +kernel), gt 1318 (by decide +kernel) (by decide +kernel)⟩
theorem lv_L_70 : LkV RL 70 yX10_units RX10 := ⟨gt 597 (by decide +kernel) (by decide +kernel), gt 598 (by decide +kernel) (by decide +kernel), gt 599 (by decide +kernel) (by decide +kernel)⟩
theorem lv_L_73 : LkV RL 73 yX11_units RX11 := ⟨gt 1320 (by decide +kernel) (by decide +kernel), gt 1321 (by decide +kernel) (by decide +kernel), gt 1322 (by decide +kernel) (by decide +kernel)⟩
theorem lv_L_74 : LkV RL 74 yX10_dividend RX10 := ⟨gt 602 (by decide +kernel) (by decide +kernel), gt 603 (by decide +kernel) (by decide +kernel), gt 604 (by decide +kernel) (by decide +kernel)⟩
theorem lv_L_77 : LkV RL 77 yX11_dividend RX11 := ⟨gt 1328 (by decide +kernel) (by decide +kernel), gt 1329 (by decide +kernel) (by decide +kernel), gt 1330 (by decide +kernel) (by decide +kernel)⟩
theorem lv_L_78 : LkV RL 78 yX10_odds RX10 := ⟨gt 606 (by decide +kernel) (by decide +kernel), gt 607 (by decide +kernel) (by decide +kernel), gt 608 (by decide +kernel) (by decide +kernel)⟩
theorem lv_L_81 : LkV RL 81 yX11_odds RX11 := ⟨gt 1332 (by decide +kernel) (by decide +kernel), gt 1333 (by decide +kernel) (by decide +kernel), gt 1334 (by decide +kernel) (by decide +kernel)⟩
theorem lv_L_82 : LkV RL 82 yX10_book RX10 := ⟨gt 625 (by decide +kernel) (by decide +kernel), gt 626 (by decide +kernel) (by decide +kernel), gt 627 (by decide +kernel) (by decide +kernel)⟩
theorem lv_L_85 : LkV RL 85 yX11_book RX11 := ⟨gt 1340 (by decide +kernel) (by decide +kernel), gt 1341 (by decide +kernel) (by decide +kernel), gt 1342 (by decide +kernel) (by decide +kernel)⟩
theorem lv_L_86 : LkV RL 86 yX10_rest RX10 := ⟨gt 629 (by decide +kernel) (by decide +kernel), gt 630 (by decide +kernel) (by decide +kernel), gt 631 (by decide +kernel) (by decide +kernel)⟩
theorem lv_L_90 : LkV RL 90 yX11_rest RX11 := ⟨gt 1344 (by decide +kernel) (by decide +kernel), gt 1345 (by decide +kernel) (by decide +kernel), gt 1346 (by decide +kernel) (by decide +kernel)⟩
theorem lv_L_91 : LkV RL 91 yX10_unclaimed RX10 := ⟨gt 633 (by decide +kernel) (by decide +kernel), gt 634 (by decide +kernel) (by decide +kernel), gt 635 (by decide +kernel) (by decide +kernel)⟩
theorem lv_L_94 : LkV RL 94 yX11_unclaimed RX11 := ⟨gt 1348 (by decide +kernel) (by decide +kernel), gt 1349 (by decide +kernel) (by decide +kernel), gt 1350 (by decide +kernel) (by decide +kernel)⟩
theorem lv_L_95 : LkV RL 95 yX10_worst RX10 := ⟨gt 637 (by decide +kernel) (by decide +kernel), gt 638 (by decide +kernel) (by decide +kernel), gt 639 (by decide +kernel) (by decide +kernel)⟩
theorem lv_L_98 : LkV RL 98 yX11_worst RX11 := ⟨gt 1352 (by decide +kernel) (by decide +kernel), gt 1353 (by decide +kernel) (by decide +kernel), gt 1354 (by decide +kernel) (by decide +kernel)⟩
theorem lv_L_99 : LkV RL 99 yX10_worstDue RX10 := ⟨gt 645 (by decide +kernel) (by decide +kernel), gt 646 (by decide +kernel) (by decide +kernel), gt 647 (by decide +kernel) (by decide +kernel)⟩
theorem lv_L_102 : LkV RL 102 yX11_worstDue RX11 := ⟨gt 1360 (by decide +kernel) (by decide +kernel), gt 1361 (by decide +kernel) (by decide +kernel), gt 1362 (by decide +kernel) (by decide +kernel)⟩
theorem lv_L_103 : LkV RL 103 yX10_premium RX10 := ⟨gt 649 (by decide +kernel) (by decide +kernel), gt 650 (by decide +kernel) (by decide +kernel), gt 651 (by decide +kernel) (by decide +kernel)⟩
theorem lv_L_106 : LkV RL 106 yX11_premium RX11 := ⟨gt 1364 (by decide +kernel) (by decide +kernel), gt 1365 (by decide +kernel) (by decide +kernel), gt 1366 (by decide +kernel) (by decide +kernel)⟩
theorem lv_L_107 : LkV RL 107 yX10_drawer RX10 := ⟨gt 661 (by decide +kernel) (by decide +kernel), gt 662 (by decide +kernel) (by decide +kernel), gt 663 (by decide +kernel) (by decide +kernel)⟩
theorem lv_L_110 : LkV RL 110 yX11_drawer RX11 := ⟨gt 1376 (by decide +kernel) (by decide +kernel), gt 1377 (by decide +kernel) (by decide +kernel), gt 1378 (by decide +kernel) (by decide +kernel)⟩
theorem lv_L_111 : LkV RL 111 yX10_lose RX10 := ⟨gt 673 (by decide +kernel) (by decide +kernel), gt 674 (by decide +kernel) (by decide +kernel), gt 675 (by decide +kernel) (by decide +kernel)⟩
theorem lv_L_114 : LkV RL 114 yX11_lose RX11 := ⟨gt 1383 (by decide +kernel) (by decide +kernel), gt 1384 (by decide +kernel) (by decide +kernel), gt 1385 (by decide +kernel) (by decide +kernel)⟩
theorem lv_L_115 : LkV RL 115 yX10_keep RX10 := ⟨gt 677 (by decide +kernel) (by decide +kernel), gt 678 (by decide +kernel) (by decide +kernel), gt 679 (by decide +kernel) (by decide +kernel)⟩
theorem lv_L_118 : LkV RL 118 yX11_keep RX11 := ⟨gt 1387 (by decide +kernel) (by decide +kernel), gt 1388 (by decide +kernel) (by decide +kernel), gt 1389 (by decide +kernel) (by decide +kernel)⟩
theorem cL_L_119 : Cond.constantLong RL 119 (4294967295 : Int64) ∈ gw := gt 1565 (by decide +kernel) (by decide +kernel)
theorem lv_L_121 : LkV RL 121 yX10_note RX10 := ⟨gt 689 (by decide +kernel) (by decide +kernel), gt 690 (by decide +kernel) (by decide +kernel), gt 691 (by decide +kernel) (by decide +kernel)⟩
theorem lv_L_125 : LkV RL 125 yX11_note RX11 := ⟨gt 1395 (by decide +kernel) (by decide +kernel), gt 1396 (by decide +kernel) (by decide +kernel), gt 1397 (by decide +kernel) (by decide +kernel)⟩
theorem lv_L_126 : LkV RL 126 yX10_coins RX10 := ⟨gt 698 (by decide +kernel) (by decide +kernel), gt 699 (by decide +kernel) (by decide +kernel), gt 700 (by decide +kernel) (by decide +kernel)⟩
theorem lv_L_129 : LkV RL 129 yX11_coins RX11 := ⟨gt 1400 (by decide +kernel) (by decide +kernel), gt 1401 (by decide +kernel) (by decide +kernel), gt 1402 (by decide +kernel) (by decide +kernel)⟩
theorem lv_L_130 : LkV RL 130 yX10_clear RX10 := ⟨gt 709 (by decide +kernel) (by decide +kernel), gt 710 (by decide +kernel) (by decide +kernel), gt 711 (by decide +kernel) (by decide +kernel)⟩
theorem lv_L_133 : LkV RL 133 yX11_clear RX11 := ⟨gt 1404 (by decide +kernel) (by decide +kernel), gt 1405 (by decide +kernel) (by decide +kernel), gt 1406 (by decide +kernel) (by decide +kernel)⟩
theorem lv_L_134 : LkV RL 134 yX10_kind RX10 := ⟨gt 718 (by decide +kernel) (by decide +kernel), gt 719 (by decide +kernel) (by decide +kernel), gt 720 (by decide +kernel) (by decide +kernel)⟩
theorem lv_L_137 : LkV RL 137 yX11_kind RX11 := ⟨gt 1412 (by decide +kernel) (by decide +kernel), gt 1413 (by decide +kernel) (by decide +kernel), gt 1414 (by decide +kernel) (by decide +kernel)⟩
theorem lv_L_138 : LkV RL 138 yX10_read RX10 := ⟨gt 722 (by decide +kernel) (by decide +kernel), gt 723 (by decide +kernel) (by decide +kernel), gt 724 (by decide +kernel) (by decide +kernel)⟩
theorem lv_L_141 : LkV RL 141 yX11_read RX11 := ⟨gt 1416 (by decide +kernel) (by decide +kernel), gt 1417 (by decide +kernel) (by decide +kernel), gt 1418 (by decide +kernel) (by decide +kernel)⟩
theorem lv_L_142 : LkV RL 142 yX10_letter RX10 := ⟨gt 730 (by decide +kernel) (by decide +kernel), gt 731 (by decide +kernel) (by decide +kernel), gt 732 (by decide +kernel) (by decide +kernel)⟩
theorem lv_L_145 : LkV RL 145 yX11_letter RX11 := ⟨gt 1424 (by decide +kernel) (by decide +kernel), gt 1425 (by decide +kernel) (by decide +kernel), gt 1426 (by decide +kernel) (by decide +kernel)⟩
theorem lv_L_146 : LkV RL 146 yX10_coin RX10 := ⟨gt 738 (by decide +kernel) (by decide +kernel), gt 739 (by decide +kernel) (by decide +kernel), gt 740 (by decide +kernel) (by decide +kernel)⟩
theorem lv_L_149 : LkV RL 149 yX11_coin RX11 := ⟨gt 1432 (by decide +kernel) (by decide +kernel), gt 1433 (by decide +kernel) (by decide +kernel), gt 1434 (by decide +kernel) (by decide +kernel)⟩
theorem lv_L_150 : LkV RL 150 yX10_coinAt RX10 := ⟨gt 742 (by decide +kernel) (by decide +kernel), gt 743 (by decide +kernel) (by decide +kernel), gt 744 (by decide +kernel) (by decide +kernel)⟩
theorem lv_L_153 : LkV RL 153 yX11_coinAt RX11 := ⟨gt 1436 (by decide +kernel) (by decide +kernel), gt 1437 (by decide +kernel) (by decide +kernel), gt 1438 (by decide +kernel) (by decide +kernel)⟩
theorem lv_L_154 : LkV RL 154 yX10_change RX10 := ⟨gt 746 (by decide +kernel) (by decide +kernel), gt 747 (by decide +kernel) (by decide +kernel), gt 748 (by decide +kernel) (by decide +kernel)⟩
theorem lv_L_157 : LkV RL 157 yX11_change RX11 := ⟨gt 1444 (by decide +kernel) (by decide +kernel), gt 1445 (by decide +kernel) (by decide +kernel), gt 1446 (by decide +kernel) (by decide +kernel)⟩
theorem lv_L_158 : LkV RL 158 yX10_satchel RX10 := ⟨gt 750 (by decide +kernel) (by decide +kernel), gt 751 (by decide +kernel) (by decide +kernel), gt 752 (by decide +kernel) (by decide +kernel)⟩
theorem lv_L_161 : LkV RL 161 yX11_satchel RX11 := ⟨gt 1448 (by decide +kernel) (by decide +kernel), gt 1449 (by decide +kernel) (by decide +kernel), gt 1450 (by decide +kernel) (by decide +kernel)⟩
theorem lv_L_162 : LkV RL 162 yX10_gather RX10 := ⟨gt 762 (by decide +kernel) (by decide +kernel), gt 763 (by decide +kernel) (by decide +kernel), gt 764 (by decide +kernel) (by decide +kernel)⟩
theorem lv_L_166 : LkV RL 166 yX11_gather RX11 := ⟨gt 1455 (by decide +kernel) (by decide +kernel), gt 1456 (by decide +kernel) (by decide +kernel), gt 1457 (by decide +kernel) (by decide +kernel)⟩
theorem lv_L_167 : LkV RL 167 yX10_shift RX10 := ⟨gt 782 (by decide +kernel) (by decide +kernel), gt 783 (by decide +kernel) (by decide +kernel), gt 784 (by decide +kernel) (by decide +kernel)⟩
theorem lv_L_170 : LkV RL 170 yX11_shift RX11 := ⟨gt 1463 (by decide +kernel) (by decide +kernel), gt 1464 (by decide +kernel) (by decide +kernel), gt 1465 (by decide +kernel) (by decide +kernel)⟩
theorem lv_L_171 : LkV RL 171 yX10_came RX10 := ⟨gt 789 (by decide +kernel) (by decide +kernel), gt 790 (by decide +kernel) (by decide +kernel), gt 791 (by decide +kernel) (by decide +kernel)⟩
theorem lv_L_174 : LkV RL 174 yX11_came RX11 := ⟨gt 1467 (by decide +kernel) (by decide +kernel), gt 1468 (by decide +kernel) (by decide +kernel), gt 1469 (by decide +kernel) (by decide +kernel)⟩
theorem lv_L_175 : LkV RL 175 yX10_held RX10 := ⟨gt 793 (by decide +kernel) (by decide +kernel), gt 794 (by decide +kernel) (by decide +kernel), gt 795 (by decide +kernel) (by decide +kernel)⟩
theorem lv_L_178 : LkV RL 178 yX11_held RX11 := ⟨gt 1471 (by decide +kernel) (by decide +kernel), gt 1472 (by decide +kernel) (by decide +kernel), gt 1473 (by decide +kernel) (by decide +kernel)⟩
theorem lv_L_179 : LkV RL 179 yX10_cash RX10 := ⟨gt 797 (by decide +kernel) (by decide +kernel), gt 798 (by decide +kernel) (by decide +kernel), gt 799 (by decide +kernel) (by decide +kernel)⟩
theorem lv_L_182 : LkV RL 182 yX11_cash RX11 := ⟨gt 1475 (by decide +kernel) (by decide +kernel), gt 1476 (by decide +kernel) (by decide +kernel), gt 1477 (by decide +kernel) (by decide +kernel)⟩
theorem lv_L_183 : LkV RL 183 yX10_lap RX10 := ⟨gt 801 (by decide +kernel) (by decide +kernel), gt 802 (by decide +kernel) (by decide +kernel), gt 803 (by decide +kernel) (by decide +kernel)⟩
theorem lv_L_186 : LkV RL 186 yX11_lap RX11 := ⟨gt 1479 (by decide +kernel) (by decide +kernel), gt 1480 (by decide +kernel) (by decide +kernel), gt 1481 (by decide +kernel) (by decide +kernel)⟩
theorem lv_L_187 : LkV RL 187 yX10_lapAt RX10 := ⟨gt 811 (by decide +kernel) (by decide +kernel), gt 812 (by decide +kernel) (by decide +kernel), gt 813 (by decide +kernel) (by decide +kernel)⟩
theorem lv_L_190 : LkV RL 190 yX11_lapAt RX11 := ⟨gt 1495 (by decide +kernel) (by decide +kernel), gt 1496 (by decide +kernel) (by decide +kernel), gt 1497 (by decide +kernel) (by decide +kernel)⟩
theorem lv_L_191 : LkV RL 191 yX10_pace RX10 := ⟨gt 819 (by decide +kernel) (by decide +kernel), gt 820 (by decide +kernel) (by decide +kernel), gt 821 (by decide +kernel) (by decide +kernel)⟩
theorem lv_L_194 : LkV RL 194 yX11_pace RX11 := ⟨gt 1512 (by decide +kernel) (by decide +kernel), gt 1513 (by decide +kernel) (by decide +kernel), gt 1514 (by decide +kernel) (by decide +kernel)⟩
theorem lv_L_195 : LkV RL 195 yX10_remainder RX10 := ⟨gt 865 (by decide +kernel) (by decide +kernel), gt 866 (by decide +kernel) (by decide +kernel), gt 867 (by decide +kernel) (by decide +kernel)⟩
theorem lv_L_198 : LkV RL 198 yX11_remainder RX11 := ⟨gt 1521 (by decide +kernel) (by decide +kernel), gt 1522 (by decide +kernel) (by decide +kernel), gt 1523 (by decide +kernel) (by decide +kernel)⟩
theorem lv_L_199 : LkV RL 199 yX10_ask RX10 := ⟨gt 878 (by decide +kernel) (by decide +kernel), gt 879 (by decide +kernel) (by decide +kernel), gt 880 (by decide +kernel) (by decide +kernel)⟩
theorem lv_L_202 : LkV RL 202 yX11_ask RX11 := ⟨gt 1525 (by decide +kernel) (by decide +kernel), gt 1526 (by decide +kernel) (by decide +kernel), gt 1527 (by decide +kernel) (by decide +kernel)⟩
theorem lv_L_203 : LkV RL 203 yX10_trace RX10 := ⟨gt 915 (by decide +kernel) (by decide +kernel), gt 916 (by decide +kernel) (by decide +kernel), gt 917 (by decide +kernel) (by decide +kernel)⟩
theorem lv_L_206 : LkV RL 206 yX11_trace RX11 := ⟨gt 1541 (by decide +kernel) (by decide +kernel), gt 1542 (by decide +kernel) (by decide +kernel), gt 1543 (by decide +kernel) (by decide +kernel)⟩
theorem lv_L_207 : LkV RL 207 yX10_finding RX10 := ⟨gt 919 (by decide +kernel) (by decide +kernel), gt 920 (by decide +kernel) (by decide +kernel), gt 921 (by decide +kernel) (by decide +kernel)⟩
theorem lv_L_210 : LkV RL 210 yX11_finding RX11 := ⟨gt 1545 (by decide +kernel) (by decide +kernel), gt 1546 (by decide +kernel) (by decide +kernel), gt 1547 (by decide +kernel) (by decide +kernel)⟩
theorem lv_L_211 : LkV RL 211 yX10_count RX10 := ⟨gt 923 (by decide +kernel) (by decide +kernel), gt 924 (by decide +kernel) (by decide +kernel), gt 925 (by decide +kernel) (by decide +kernel)⟩
theorem lv_L_214 : LkV RL 214 yX11_count RX11 := ⟨gt 1549 (by decide +kernel) (by decide +kernel), gt 1550 (by decide +kernel) (by decide +kernel), gt 1551 (by decide +kernel) (by decide +kernel)⟩
theorem lv_L_215 : LkV RL 215 yX10_digest RX10 := ⟨gt 935 (by decide +kernel) (by decide +kernel), gt 936 (by decide +kernel) (by decide +kernel), gt 937 (by decide +kernel) (by decide +kernel)⟩
theorem lv_L_219 : LkV RL 219 yX11_digest RX11 := ⟨gt 1557 (by decide +kernel) (by decide +kernel), gt 1558 (by decide +kernel) (by decide +kernel), gt 1559 (by decide +kernel) (by decide +kernel)⟩
