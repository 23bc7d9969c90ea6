-- THE CODES STAND IN THE TABLES (written by wip/whole/emit2.py)
def iv_cw (m : iv_I) : Prop := m.2.2.2.2 = 13 ∨ Cond.code m.1 m.2.1 m.2.2.1 m.2.2.2.1 ∈ lw_g
theorem iv_cwi {y : MethodName} {c : ByteArray} {n : Nat} {rt : Option FieldType} {oc i : Nat} (h : lw_tbl[i]? = some (Cond.code y c n rt)) : iv_cw (y, c, n, rt, oc) := Or.inr (List.mem_filter.mpr ⟨List.mem_of_getElem? h, rfl⟩)
set_option maxRecDepth 100000 in
theorem vX0_init : iv_cw mX0_init := iv_cwi (i := 600) rfl
set_option maxRecDepth 100000 in
theorem vX0_spread : iv_cw mX0_spread := iv_cwi (i := 1317) rfl
set_option maxRecDepth 100000 in
theorem vX0_come : iv_cw mX0_come := iv_cwi (i := 1323) rfl
set_option maxRecDepth 100000 in
theorem vX0_fewest : iv_cw mX0_fewest := iv_cwi (i := 1336) rfl
set_option maxRecDepth 100000 in
theorem vX0_reachedRooms : iv_cw mX0_reachedRooms := iv_cwi (i := 1344) rfl
set_option maxRecDepth 100000 in
theorem vX0_reachedKeys : iv_cw mX0_reachedKeys := iv_cwi (i := 1348) rfl
set_option maxRecDepth 100000 in
theorem vX0_hearing : iv_cw mX0_hearing := iv_cwi (i := 1356) rfl
set_option maxRecDepth 100000 in
theorem vX0_besides : iv_cw mX0_besides := iv_cwi (i := 1360) rfl
set_option maxRecDepth 100000 in
theorem vX0_guarding : iv_cw mX0_guarding := iv_cwi (i := 1424) rfl
set_option maxRecDepth 100000 in
theorem vX0_isGuarded : iv_cw mX0_isGuarded := iv_cwi (i := 1429) rfl
set_option maxRecDepth 100000 in
theorem vX1_init : iv_cw mX1_init := iv_cwi (i := 188) rfl
set_option maxRecDepth 100000 in
theorem vX1_layOut : iv_cw mX1_layOut := iv_cwi (i := 726) rfl
set_option maxRecDepth 100000 in
theorem vX1_sweep : iv_cw mX1_sweep := iv_cwi (i := 730) rfl
set_option maxRecDepth 100000 in
theorem vX1_copyFrom : iv_cw mX1_copyFrom := iv_cwi (i := 1203) rfl
set_option maxRecDepth 100000 in
theorem vX1_arrange : iv_cw mX1_arrange := iv_cwi (i := 1158) rfl
set_option maxRecDepth 100000 in
theorem vX1_cellAt : iv_cw mX1_cellAt := iv_cwi (i := 734) rfl
set_option maxRecDepth 100000 in
theorem vX1_isEmptyCell : iv_cw mX1_isEmptyCell := iv_cwi (i := 1283) rfl
set_option maxRecDepth 100000 in
theorem vX1_emptyCells : iv_cw mX1_emptyCells := iv_cwi (i := 1272) rfl
set_option maxRecDepth 100000 in
theorem vX1_put : iv_cw mX1_put := iv_cwi (i := 845) rfl
set_option maxRecDepth 100000 in
theorem vX1_take : iv_cw mX1_take := iv_cwi (i := 1090) rfl
set_option maxRecDepth 100000 in
theorem vX1_sortOf : iv_cw mX1_sortOf := iv_cwi (i := 972) rfl
set_option maxRecDepth 100000 in
theorem vX1_setSort : iv_cw mX1_setSort := iv_cwi (i := 1021) rfl
set_option maxRecDepth 100000 in
theorem vX1_sideTo : iv_cw mX1_sideTo := iv_cwi (i := 1074) rfl
set_option maxRecDepth 100000 in
theorem vX1_canGo : iv_cw mX1_canGo := iv_cwi (i := 1070) rfl
set_option maxRecDepth 100000 in
theorem vX1_go : iv_cw mX1_go := iv_cwi (i := 1142) rfl
set_option maxRecDepth 100000 in
theorem vX1_goBack : iv_cw mX1_goBack := iv_cwi (i := 1249) rfl
set_option maxRecDepth 100000 in
theorem vX1_stir : iv_cw mX1_stir := iv_cwi (i := 1086) rfl
set_option maxRecDepth 100000 in
theorem vX1_gain : iv_cw mX1_gain := iv_cwi (i := 1078) rfl
set_option maxRecDepth 100000 in
theorem vX1_touching : iv_cw mX1_touching := iv_cwi (i := 1082) rfl
set_option maxRecDepth 100000 in
theorem vX1_border : iv_cw mX1_border := iv_cwi (i := 1009) rfl
theorem iv_V0 : ∀ q ∈ iv_Z0, iv_cw q.1 := List.forall_mem_cons.mpr ⟨vX0_init, List.forall_mem_cons.mpr ⟨vX0_spread, List.forall_mem_cons.mpr ⟨vX0_come, List.forall_mem_cons.mpr ⟨vX0_fewest, List.forall_mem_cons.mpr ⟨vX0_reachedRooms, List.forall_mem_cons.mpr ⟨vX0_reachedKeys, List.forall_mem_cons.mpr ⟨vX0_hearing, List.forall_mem_cons.mpr ⟨vX0_besides, List.forall_mem_cons.mpr ⟨vX0_guarding, List.forall_mem_cons.mpr ⟨vX0_isGuarded, List.forall_mem_cons.mpr ⟨vX1_init, List.forall_mem_cons.mpr ⟨vX1_layOut, List.forall_mem_cons.mpr ⟨vX1_sweep, List.forall_mem_cons.mpr ⟨vX1_copyFrom, List.forall_mem_cons.mpr ⟨vX1_arrange, List.forall_mem_cons.mpr ⟨vX1_cellAt, List.forall_mem_cons.mpr ⟨vX1_isEmptyCell, List.forall_mem_cons.mpr ⟨vX1_emptyCells, List.forall_mem_cons.mpr ⟨vX1_put, List.forall_mem_cons.mpr ⟨vX1_take, List.forall_mem_cons.mpr ⟨vX1_sortOf, List.forall_mem_cons.mpr ⟨vX1_setSort, List.forall_mem_cons.mpr ⟨vX1_sideTo, List.forall_mem_cons.mpr ⟨vX1_canGo, List.forall_mem_cons.mpr ⟨vX1_go, List.forall_mem_cons.mpr ⟨vX1_goBack, List.forall_mem_cons.mpr ⟨vX1_stir, List.forall_mem_cons.mpr ⟨vX1_gain, List.forall_mem_cons.mpr ⟨vX1_touching, List.forall_mem_cons.mpr ⟨vX1_border, fun _ h => absurd h List.not_mem_nil⟩⟩⟩⟩⟩⟩⟩⟩⟩⟩⟩⟩⟩⟩⟩⟩⟩⟩⟩⟩⟩⟩⟩⟩⟩⟩⟩⟩⟩⟩
set_option maxRecDepth 100000 in
theorem vX1_mismatches : iv_cw mX1_mismatches := iv_cwi (i := 1005) rfl
set_option maxRecDepth 100000 in
theorem vX1_firstMismatch : iv_cw mX1_firstMismatch := iv_cwi (i := 1013) rfl
set_option maxRecDepth 100000 in
theorem vX1_fits : iv_cw mX1_fits := iv_cwi (i := 1298) rfl
set_option maxRecDepth 100000 in
theorem vX1_doorsOf : iv_cw mX1_doorsOf := iv_cwi (i := 1107) rfl
set_option maxRecDepth 100000 in
theorem vX1_locksOf : iv_cw mX1_locksOf := iv_cwi (i := 1111) rfl
set_option maxRecDepth 100000 in
theorem vX1_throughDoor : iv_cw mX1_throughDoor := iv_cwi (i := 1327) rfl
set_option maxRecDepth 100000 in
theorem vX1_locksBetween : iv_cw mX1_locksBetween := iv_cwi (i := 1331) rfl
set_option maxRecDepth 100000 in
theorem vX1_doorToDoor : iv_cw mX1_doorToDoor := iv_cwi (i := 1514) rfl
set_option maxRecDepth 100000 in
theorem vX1_mostDoors : iv_cw mX1_mostDoors := iv_cwi (i := 1443) rfl
set_option maxRecDepth 100000 in
theorem vX1_doorsThatMeet : iv_cw mX1_doorsThatMeet := iv_cwi (i := 1448) rfl
set_option maxRecDepth 100000 in
theorem vX1_lockedDrift : iv_cw mX1_lockedDrift := iv_cwi (i := 1437) rfl
set_option maxRecDepth 100000 in
theorem vX1_sideToBuild : iv_cw mX1_sideToBuild := iv_cwi (i := 1487) rfl
set_option maxRecDepth 100000 in
theorem vX1_doorsTowards : iv_cw mX1_doorsTowards := iv_cwi (i := 1483) rfl
set_option maxRecDepth 100000 in
theorem vX2_init : iv_cw mX2_init := iv_cwi (i := 182) rfl
set_option maxRecDepth 100000 in
theorem vX2_build : iv_cw mX2_build := iv_cwi (i := 722) rfl
set_option maxRecDepth 100000 in
theorem vX2_copyFrom : iv_cw mX2_copyFrom := iv_cwi (i := 1531) rfl
set_option maxRecDepth 100000 in
theorem vX2_isRoom : iv_cw mX2_isRoom := iv_cwi (i := 968) rfl
set_option maxRecDepth 100000 in
theorem vX2_isPerson : iv_cw mX2_isPerson := iv_cwi (i := 997) rfl
set_option maxRecDepth 100000 in
theorem vX2_isFixed : iv_cw mX2_isFixed := iv_cwi (i := 976) rfl
set_option maxRecDepth 100000 in
theorem vX2_keysIn : iv_cw mX2_keysIn := iv_cwi (i := 980) rfl
set_option maxRecDepth 100000 in
theorem vX2_sleepersIn : iv_cw mX2_sleepersIn := iv_cwi (i := 984) rfl
set_option maxRecDepth 100000 in
theorem vX2_walkOf : iv_cw mX2_walkOf := iv_cwi (i := 1047) rfl
set_option maxRecDepth 100000 in
theorem vX2_keepPast : iv_cw mX2_keepPast := iv_cwi (i := 1129) rfl
set_option maxRecDepth 100000 in
theorem vX2_forgetPast : iv_cw mX2_forgetPast := iv_cwi (i := 739) rfl
set_option maxRecDepth 100000 in
theorem vX2_takeNightBack : iv_cw mX2_takeNightBack := iv_cwi (i := 1154) rfl
set_option maxRecDepth 100000 in
theorem vX2_hasDraft : iv_cw mX2_hasDraft := iv_cwi (i := 1195) rfl
set_option maxRecDepth 100000 in
theorem vX2_keepDraft : iv_cw mX2_keepDraft := iv_cwi (i := 1187) rfl
set_option maxRecDepth 100000 in
theorem vX2_draftCell : iv_cw mX2_draftCell := iv_cwi (i := 1216) rfl
set_option maxRecDepth 100000 in
theorem vX2_draftTurn : iv_cw mX2_draftTurn := iv_cwi (i := 1220) rfl
set_option maxRecDepth 100000 in
theorem vX3_init : iv_cw mX3_init := iv_cwi (i := 461) rfl
set_option maxRecDepth 100000 in
theorem vX3_open : iv_cw mX3_open := iv_cwi (i := 1056) rfl
set_option maxRecDepth 100000 in
theorem vX3_look : iv_cw mX3_look := iv_cwi (i := 1060) rfl
set_option maxRecDepth 100000 in
theorem vX3_broken : iv_cw mX3_broken := iv_cwi (i := 1065) rfl
theorem iv_V1 : ∀ q ∈ iv_Z1, iv_cw q.1 := List.forall_mem_cons.mpr ⟨vX1_mismatches, List.forall_mem_cons.mpr ⟨vX1_firstMismatch, List.forall_mem_cons.mpr ⟨vX1_fits, List.forall_mem_cons.mpr ⟨vX1_doorsOf, List.forall_mem_cons.mpr ⟨vX1_locksOf, List.forall_mem_cons.mpr ⟨vX1_throughDoor, List.forall_mem_cons.mpr ⟨vX1_locksBetween, List.forall_mem_cons.mpr ⟨vX1_doorToDoor, List.forall_mem_cons.mpr ⟨vX1_mostDoors, List.forall_mem_cons.mpr ⟨vX1_doorsThatMeet, List.forall_mem_cons.mpr ⟨vX1_lockedDrift, List.forall_mem_cons.mpr ⟨vX1_sideToBuild, List.forall_mem_cons.mpr ⟨vX1_doorsTowards, List.forall_mem_cons.mpr ⟨vX2_init, List.forall_mem_cons.mpr ⟨vX2_build, List.forall_mem_cons.mpr ⟨vX2_copyFrom, List.forall_mem_cons.mpr ⟨vX2_isRoom, List.forall_mem_cons.mpr ⟨vX2_isPerson, List.forall_mem_cons.mpr ⟨vX2_isFixed, List.forall_mem_cons.mpr ⟨vX2_keysIn, List.forall_mem_cons.mpr ⟨vX2_sleepersIn, List.forall_mem_cons.mpr ⟨vX2_walkOf, List.forall_mem_cons.mpr ⟨vX2_keepPast, List.forall_mem_cons.mpr ⟨vX2_forgetPast, List.forall_mem_cons.mpr ⟨vX2_takeNightBack, List.forall_mem_cons.mpr ⟨vX2_hasDraft, List.forall_mem_cons.mpr ⟨vX2_keepDraft, List.forall_mem_cons.mpr ⟨vX2_draftCell, List.forall_mem_cons.mpr ⟨vX2_draftTurn, List.forall_mem_cons.mpr ⟨vX3_init, List.forall_mem_cons.mpr ⟨vX3_open, List.forall_mem_cons.mpr ⟨vX3_look, List.forall_mem_cons.mpr ⟨vX3_broken, fun _ h => absurd h List.not_mem_nil⟩⟩⟩⟩⟩⟩⟩⟩⟩⟩⟩⟩⟩⟩⟩⟩⟩⟩⟩⟩⟩⟩⟩⟩⟩⟩⟩⟩⟩⟩⟩⟩⟩
set_option maxRecDepth 100000 in
theorem vX3_list : iv_cw mX3_list := iv_cwi (i := 1170) rfl
set_option maxRecDepth 100000 in
theorem vX3_isBarred : iv_cw mX3_isBarred := iv_cwi (i := 1094) rfl
set_option maxRecDepth 100000 in
theorem vX3_valueOf : iv_cw mX3_valueOf := iv_cwi (i := 1098) rfl
set_option maxRecDepth 100000 in
theorem vX3_goal : iv_cw mX3_goal := iv_cwi (i := 1103) rfl
set_option maxRecDepth 100000 in
theorem vX3_combine : iv_cw mX3_combine := iv_cwi (i := 1121) rfl
set_option maxRecDepth 100000 in
theorem vX4_init : iv_cw mX4_init := iv_cwi (i := 619) rfl
set_option maxRecDepth 100000 in
theorem vX4_layRooms : iv_cw mX4_layRooms := iv_cwi (i := 1291) rfl
set_option maxRecDepth 100000 in
theorem vX4_layFrom : iv_cw mX4_layFrom := iv_cwi (i := 1302) rfl
set_option maxRecDepth 100000 in
theorem vX4_layOne : iv_cw mX4_layOne := iv_cwi (i := 1308) rfl
set_option maxRecDepth 100000 in
theorem vX4_layPeople : iv_cw mX4_layPeople := iv_cwi (i := 1406) rfl
set_option maxRecDepth 100000 in
theorem vX4_firstBed : iv_cw mX4_firstBed := iv_cwi (i := 1411) rfl
set_option maxRecDepth 100000 in
theorem vX5_init : iv_cw mX5_init := iv_cwi (i := 378) rfl
set_option maxRecDepth 100000 in
theorem vX5_read : iv_cw mX5_read := iv_cwi (i := 711) rfl
set_option maxRecDepth 100000 in
theorem vX5_goesOn : iv_cw mX5_goesOn := iv_cwi (i := 863) rfl
set_option maxRecDepth 100000 in
theorem vX5_readClause : iv_cw mX5_readClause := iv_cwi (i := 743) rfl
set_option maxRecDepth 100000 in
theorem vX5_isTooMuch : iv_cw mX5_isTooMuch := iv_cwi (i := 819) rfl
set_option maxRecDepth 100000 in
theorem vX5_readFloor : iv_cw mX5_readFloor := iv_cwi (i := 824) rfl
set_option maxRecDepth 100000 in
theorem vX5_readRoom : iv_cw mX5_readRoom := iv_cwi (i := 835) rfl
set_option maxRecDepth 100000 in
theorem vX5_sortOf : iv_cw mX5_sortOf := iv_cwi (i := 840) rfl
set_option maxRecDepth 100000 in
theorem vX5_readFixed : iv_cw mX5_readFixed := iv_cwi (i := 851) rfl
set_option maxRecDepth 100000 in
theorem vX5_readKey : iv_cw mX5_readKey := iv_cwi (i := 855) rfl
set_option maxRecDepth 100000 in
theorem vX5_readPerson : iv_cw mX5_readPerson := iv_cwi (i := 859) rfl
theorem iv_V2 : ∀ q ∈ iv_Z2, iv_cw q.1 := List.forall_mem_cons.mpr ⟨vX3_list, List.forall_mem_cons.mpr ⟨vX3_isBarred, List.forall_mem_cons.mpr ⟨vX3_valueOf, List.forall_mem_cons.mpr ⟨vX3_goal, List.forall_mem_cons.mpr ⟨vX3_combine, List.forall_mem_cons.mpr ⟨vX4_init, List.forall_mem_cons.mpr ⟨vX4_layRooms, List.forall_mem_cons.mpr ⟨vX4_layFrom, List.forall_mem_cons.mpr ⟨vX4_layOne, List.forall_mem_cons.mpr ⟨vX4_layPeople, List.forall_mem_cons.mpr ⟨vX4_firstBed, List.forall_mem_cons.mpr ⟨vX5_init, List.forall_mem_cons.mpr ⟨vX5_read, List.forall_mem_cons.mpr ⟨vX5_goesOn, List.forall_mem_cons.mpr ⟨vX5_readClause, List.forall_mem_cons.mpr ⟨vX5_isTooMuch, List.forall_mem_cons.mpr ⟨vX5_readFloor, List.forall_mem_cons.mpr ⟨vX5_readRoom, List.forall_mem_cons.mpr ⟨vX5_sortOf, List.forall_mem_cons.mpr ⟨vX5_readFixed, List.forall_mem_cons.mpr ⟨vX5_readKey, List.forall_mem_cons.mpr ⟨vX5_readPerson, fun _ h => absurd h List.not_mem_nil⟩⟩⟩⟩⟩⟩⟩⟩⟩⟩⟩⟩⟩⟩⟩⟩⟩⟩⟩⟩⟩⟩
set_option maxRecDepth 100000 in
theorem vX6_init : iv_cw mX6_init := iv_cwi (i := 384) rfl
set_option maxRecDepth 100000 in
theorem vX6_open : iv_cw mX6_open := iv_cwi (i := 715) rfl
set_option maxRecDepth 100000 in
theorem vX6_fail : iv_cw mX6_fail := iv_cwi (i := 815) rfl
set_option maxRecDepth 100000 in
theorem vX6_here : iv_cw mX6_here := iv_cwi (i := 756) rfl
set_option maxRecDepth 100000 in
theorem vX6_skipBlanks : iv_cw mX6_skipBlanks := iv_cwi (i := 752) rfl
set_option maxRecDepth 100000 in
theorem vX6_readNumber : iv_cw mX6_readNumber := iv_cwi (i := 828) rfl
set_option maxRecDepth 100000 in
theorem vX6_readWord : iv_cw mX6_readWord := iv_cwi (i := 748) rfl
set_option maxRecDepth 100000 in
theorem vX6_indexOfWord : iv_cw mX6_indexOfWord := iv_cwi (i := 763) rfl
set_option maxRecDepth 100000 in
theorem vX6_isDigit : iv_cw mX6_isDigit := iv_cwi (i := 831) rfl
set_option maxRecDepth 100000 in
theorem vX6_isLetter : iv_cw mX6_isLetter := iv_cwi (i := 759) rfl
set_option maxRecDepth 100000 in
theorem vX7_init : iv_cw mX7_init := iv_cwi (i := 259) rfl
set_option maxRecDepth 100000 in
theorem vX7_add : iv_cw mX7_add := iv_cwi (i := 1138) rfl
set_option maxRecDepth 100000 in
theorem vX7_dropFirst : iv_cw mX7_dropFirst := iv_cwi (i := 1133) rfl
set_option maxRecDepth 100000 in
theorem vX7_copyFrom : iv_cw mX7_copyFrom := iv_cwi (i := 1537) rfl
set_option maxRecDepth 100000 in
theorem vX8_init : iv_cw mX8_init := iv_cwi (i := 419) rfl
set_option maxRecDepth 100000 in
theorem vX8_read : iv_cw mX8_read := iv_cwi (i := 871) rfl
set_option maxRecDepth 100000 in
theorem vX8_copyTo : iv_cw mX8_copyTo := iv_cwi (i := 947) rfl
set_option maxRecDepth 100000 in
theorem vX8_readNext : iv_cw mX8_readNext := iv_cwi (i := 877) rfl
set_option maxRecDepth 100000 in
theorem vX8_readBar : iv_cw mX8_readBar := iv_cwi (i := 881) rfl
set_option maxRecDepth 100000 in
theorem vX8_readFact : iv_cw mX8_readFact := iv_cwi (i := 888) rfl
set_option maxRecDepth 100000 in
theorem vX8_deepen : iv_cw mX8_deepen := iv_cwi (i := 892) rfl
set_option maxRecDepth 100000 in
theorem vX8_readValue : iv_cw mX8_readValue := iv_cwi (i := 901) rfl
set_option maxRecDepth 100000 in
theorem vX8_countOne : iv_cw mX8_countOne := iv_cwi (i := 908) rfl
set_option maxRecDepth 100000 in
theorem vX8_readBehind : iv_cw mX8_readBehind := iv_cwi (i := 917) rfl
set_option maxRecDepth 100000 in
theorem vX8_arithmeticOf : iv_cw mX8_arithmeticOf := iv_cwi (i := 920) rfl
set_option maxRecDepth 100000 in
theorem vX8_readComparison : iv_cw mX8_readComparison := iv_cwi (i := 934) rfl
set_option maxRecDepth 100000 in
theorem vX8_readClosing : iv_cw mX8_readClosing := iv_cwi (i := 940) rfl
set_option maxRecDepth 100000 in
theorem vX8_join : iv_cw mX8_join := iv_cwi (i := 924) rfl
set_option maxRecDepth 100000 in
theorem vX8_release : iv_cw mX8_release := iv_cwi (i := 930) rfl
set_option maxRecDepth 100000 in
theorem vX8_hold : iv_cw mX8_hold := iv_cwi (i := 896) rfl
set_option maxRecDepth 100000 in
theorem vX8_emit : iv_cw mX8_emit := iv_cwi (i := 912) rfl
set_option maxRecDepth 100000 in
theorem vX9_init : iv_cw mX9_init := iv_cwi (i := 493) rfl
set_option maxRecDepth 100000 in
theorem vX9_ask : iv_cw mX9_ask := iv_cwi (i := 1228) rfl
set_option maxRecDepth 100000 in
theorem vX9_find : iv_cw mX9_find := iv_cwi (i := 1234) rfl
theorem iv_V3 : ∀ q ∈ iv_Z3, iv_cw q.1 := List.forall_mem_cons.mpr ⟨vX6_init, List.forall_mem_cons.mpr ⟨vX6_open, List.forall_mem_cons.mpr ⟨vX6_fail, List.forall_mem_cons.mpr ⟨vX6_here, List.forall_mem_cons.mpr ⟨vX6_skipBlanks, List.forall_mem_cons.mpr ⟨vX6_readNumber, List.forall_mem_cons.mpr ⟨vX6_readWord, List.forall_mem_cons.mpr ⟨vX6_indexOfWord, List.forall_mem_cons.mpr ⟨vX6_isDigit, List.forall_mem_cons.mpr ⟨vX6_isLetter, List.forall_mem_cons.mpr ⟨vX7_init, List.forall_mem_cons.mpr ⟨vX7_add, List.forall_mem_cons.mpr ⟨vX7_dropFirst, List.forall_mem_cons.mpr ⟨vX7_copyFrom, List.forall_mem_cons.mpr ⟨vX8_init, List.forall_mem_cons.mpr ⟨vX8_read, List.forall_mem_cons.mpr ⟨vX8_copyTo, List.forall_mem_cons.mpr ⟨vX8_readNext, List.forall_mem_cons.mpr ⟨vX8_readBar, List.forall_mem_cons.mpr ⟨vX8_readFact, List.forall_mem_cons.mpr ⟨vX8_deepen, List.forall_mem_cons.mpr ⟨vX8_readValue, List.forall_mem_cons.mpr ⟨vX8_countOne, List.forall_mem_cons.mpr ⟨vX8_readBehind, List.forall_mem_cons.mpr ⟨vX8_arithmeticOf, List.forall_mem_cons.mpr ⟨vX8_readComparison, List.forall_mem_cons.mpr ⟨vX8_readClosing, List.forall_mem_cons.mpr ⟨vX8_join, List.forall_mem_cons.mpr ⟨vX8_release, List.forall_mem_cons.mpr ⟨vX8_hold, List.forall_mem_cons.mpr ⟨vX8_emit, List.forall_mem_cons.mpr ⟨vX9_init, List.forall_mem_cons.mpr ⟨vX9_ask, List.forall_mem_cons.mpr ⟨vX9_find, fun _ h => absurd h List.not_mem_nil⟩⟩⟩⟩⟩⟩⟩⟩⟩⟩⟩⟩⟩⟩⟩⟩⟩⟩⟩⟩⟩⟩⟩⟩⟩⟩⟩⟩⟩⟩⟩⟩⟩⟩
set_option maxRecDepth 100000 in
theorem vX9_add : iv_cw mX9_add := iv_cwi (i := 1239) rfl
set_option maxRecDepth 100000 in
theorem vX9_trace : iv_cw mX9_trace := iv_cwi (i := 1253) rfl
set_option maxRecDepth 100000 in
theorem vX9_marksOf : iv_cw mX9_marksOf := iv_cwi (i := 1265) rfl
set_option maxRecDepth 100000 in
theorem vX9_isOdd : iv_cw mX9_isOdd := iv_cwi (i := 1276) rfl
set_option maxRecDepth 100000 in
theorem vX9_emptyCell : iv_cw mX9_emptyCell := iv_cwi (i := 1279) rfl
set_option maxRecDepth 100000 in
theorem vX10_init : iv_cw mX10_init := iv_cwi (i := 545) rfl
set_option maxRecDepth 100000 in
theorem vX10_begin : iv_cw mX10_begin := iv_cwi (i := 1378) rfl
set_option maxRecDepth 100000 in
theorem vX10_liveOne : iv_cw mX10_liveOne := iv_cwi (i := 1383) rfl
set_option maxRecDepth 100000 in
theorem vX10_liveTo : iv_cw mX10_liveTo := iv_cwi (i := 1374) rfl
set_option maxRecDepth 100000 in
theorem vX10_roomsWished : iv_cw mX10_roomsWished := iv_cwi (i := 1401) rfl
set_option maxRecDepth 100000 in
theorem vX10_redraws : iv_cw mX10_redraws := iv_cwi (i := 1199) rfl
set_option maxRecDepth 100000 in
theorem vX10_askRows : iv_cw mX10_askRows := iv_cwi (i := 1461) rfl
set_option maxRecDepth 100000 in
theorem vX10_goRows : iv_cw mX10_goRows := iv_cwi (i := 1465) rfl
set_option maxRecDepth 100000 in
theorem vX10_isAsTheyWoke : iv_cw mX10_isAsTheyWoke := iv_cwi (i := 1469) rfl
set_option maxRecDepth 100000 in
theorem vX10_tally : iv_cw mX10_tally := iv_cwi (i := 1473) rfl
set_option maxRecDepth 100000 in
theorem vX10_drawTimes : iv_cw mX10_drawTimes := iv_cwi (i := 1505) rfl
set_option maxRecDepth 100000 in
theorem vX11_init : iv_cw mX11_init := iv_cwi (i := 172) rfl
set_option maxRecDepth 100000 in
theorem vX11_feed : iv_cw mX11_feed := iv_cwi (i := 695) rfl
set_option maxRecDepth 100000 in
theorem vX11_putBytes : iv_cw mX11_putBytes := iv_cwi (i := 699) rfl
set_option maxRecDepth 100000 in
theorem vX11_end : iv_cw mX11_end := iv_cwi (i := 703) rfl
set_option maxRecDepth 100000 in
theorem vX11_palace : iv_cw mX11_palace := iv_cwi (i := 707) rfl
set_option maxRecDepth 100000 in
theorem vX11_rule : iv_cw mX11_rule := iv_cwi (i := 867) rfl
set_option maxRecDepth 100000 in
theorem vX11_force : iv_cw mX11_force := iv_cwi (i := 956) rfl
set_option maxRecDepth 100000 in
theorem vX11_ruleInForce : iv_cw mX11_ruleInForce := iv_cwi (i := 1052) rfl
theorem iv_V4 : ∀ q ∈ iv_Z4, iv_cw q.1 := List.forall_mem_cons.mpr ⟨vX9_add, List.forall_mem_cons.mpr ⟨vX9_trace, List.forall_mem_cons.mpr ⟨vX9_marksOf, List.forall_mem_cons.mpr ⟨vX9_isOdd, List.forall_mem_cons.mpr ⟨vX9_emptyCell, List.forall_mem_cons.mpr ⟨vX10_init, List.forall_mem_cons.mpr ⟨vX10_begin, List.forall_mem_cons.mpr ⟨vX10_liveOne, List.forall_mem_cons.mpr ⟨vX10_liveTo, List.forall_mem_cons.mpr ⟨vX10_roomsWished, List.forall_mem_cons.mpr ⟨vX10_redraws, List.forall_mem_cons.mpr ⟨vX10_askRows, List.forall_mem_cons.mpr ⟨vX10_goRows, List.forall_mem_cons.mpr ⟨vX10_isAsTheyWoke, List.forall_mem_cons.mpr ⟨vX10_tally, List.forall_mem_cons.mpr ⟨vX10_drawTimes, List.forall_mem_cons.mpr ⟨vX11_init, List.forall_mem_cons.mpr ⟨vX11_feed, List.forall_mem_cons.mpr ⟨vX11_putBytes, List.forall_mem_cons.mpr ⟨vX11_end, List.forall_mem_cons.mpr ⟨vX11_palace, List.forall_mem_cons.mpr ⟨vX11_rule, List.forall_mem_cons.mpr ⟨vX11_force, List.forall_mem_cons.mpr ⟨vX11_ruleInForce, fun _ h => absurd h List.not_mem_nil⟩⟩⟩⟩⟩⟩⟩⟩⟩⟩⟩⟩⟩⟩⟩⟩⟩⟩⟩⟩⟩⟩⟩⟩
set_option maxRecDepth 100000 in
theorem vX11_law : iv_cw mX11_law := iv_cwi (i := 960) rfl
set_option maxRecDepth 100000 in
theorem vX11_room : iv_cw mX11_room := iv_cwi (i := 964) rfl
set_option maxRecDepth 100000 in
theorem vX11_at : iv_cw mX11_at := iv_cwi (i := 988) rfl
set_option maxRecDepth 100000 in
theorem vX11_sleeps : iv_cw mX11_sleeps := iv_cwi (i := 993) rfl
set_option maxRecDepth 100000 in
theorem vX11_mismatch : iv_cw mX11_mismatch := iv_cwi (i := 1001) rfl
set_option maxRecDepth 100000 in
theorem vX11_dayCame : iv_cw mX11_dayCame := iv_cwi (i := 1026) rfl
set_option maxRecDepth 100000 in
theorem vX11_brick : iv_cw mX11_brick := iv_cwi (i := 1017) rfl
set_option maxRecDepth 100000 in
theorem vX11_lay : iv_cw mX11_lay := iv_cwi (i := 1031) rfl
set_option maxRecDepth 100000 in
theorem vX11_bed : iv_cw mX11_bed := iv_cwi (i := 1035) rfl
set_option maxRecDepth 100000 in
theorem vX11_fix : iv_cw mX11_fix := iv_cwi (i := 1039) rfl
set_option maxRecDepth 100000 in
theorem vX11_walk : iv_cw mX11_walk := iv_cwi (i := 1043) rfl
set_option maxRecDepth 100000 in
theorem vX11_rest : iv_cw mX11_rest := iv_cwi (i := 1146) rfl
set_option maxRecDepth 100000 in
theorem vX11_nightComes : iv_cw mX11_nightComes := iv_cwi (i := 1125) rfl
set_option maxRecDepth 100000 in
theorem vX11_undo : iv_cw mX11_undo := iv_cwi (i := 1150) rfl
set_option maxRecDepth 100000 in
theorem vX11_can : iv_cw mX11_can := iv_cwi (i := 1162) rfl
set_option maxRecDepth 100000 in
theorem vX11_listWalks : iv_cw mX11_listWalks := iv_cwi (i := 1166) rfl
set_option maxRecDepth 100000 in
theorem vX11_choice : iv_cw mX11_choice := iv_cwi (i := 1175) rfl
set_option maxRecDepth 100000 in
theorem vX11_partOf : iv_cw mX11_partOf := iv_cwi (i := 1178) rfl
set_option maxRecDepth 100000 in
theorem vX11_draft : iv_cw mX11_draft := iv_cwi (i := 1183) rfl
set_option maxRecDepth 100000 in
theorem vX11_redraw : iv_cw mX11_redraw := iv_cwi (i := 1191) rfl
set_option maxRecDepth 100000 in
theorem vX11_drafted : iv_cw mX11_drafted := iv_cwi (i := 1212) rfl
set_option maxRecDepth 100000 in
theorem vX11_nights : iv_cw mX11_nights := iv_cwi (i := 1224) rfl
set_option maxRecDepth 100000 in
theorem vX11_row : iv_cw mX11_row := iv_cwi (i := 1257) rfl
set_option maxRecDepth 100000 in
theorem vX11_marks : iv_cw mX11_marks := iv_cwi (i := 1261) rfl
set_option maxRecDepth 100000 in
theorem vX11_floors : iv_cw mX11_floors := iv_cwi (i := 1287) rfl
set_option maxRecDepth 100000 in
theorem vX11_steps : iv_cw mX11_steps := iv_cwi (i := 1313) rfl
set_option maxRecDepth 100000 in
theorem vX11_reach : iv_cw mX11_reach := iv_cwi (i := 1340) rfl
set_option maxRecDepth 100000 in
theorem vX11_gossip : iv_cw mX11_gossip := iv_cwi (i := 1352) rfl
set_option maxRecDepth 100000 in
theorem vX11_almanac : iv_cw mX11_almanac := iv_cwi (i := 1365) rfl
set_option maxRecDepth 100000 in
theorem vX11_would : iv_cw mX11_would := iv_cwi (i := 1370) rfl
set_option maxRecDepth 100000 in
theorem vX11_follow : iv_cw mX11_follow := iv_cwi (i := 1389) rfl
set_option maxRecDepth 100000 in
theorem vX11_wish : iv_cw mX11_wish := iv_cwi (i := 1393) rfl
set_option maxRecDepth 100000 in
theorem vX11_beds : iv_cw mX11_beds := iv_cwi (i := 1397) rfl
set_option maxRecDepth 100000 in
theorem vX11_almost : iv_cw mX11_almost := iv_cwi (i := 1416) rfl
set_option maxRecDepth 100000 in
theorem vX11_guards : iv_cw mX11_guards := iv_cwi (i := 1420) rfl
set_option maxRecDepth 100000 in
theorem vX11_drift : iv_cw mX11_drift := iv_cwi (i := 1433) rfl
set_option maxRecDepth 100000 in
theorem vX11_woke : iv_cw mX11_woke := iv_cwi (i := 1453) rfl
theorem iv_V5 : ∀ q ∈ iv_Z5, iv_cw q.1 := List.forall_mem_cons.mpr ⟨vX11_law, List.forall_mem_cons.mpr ⟨vX11_room, List.forall_mem_cons.mpr ⟨vX11_at, List.forall_mem_cons.mpr ⟨vX11_sleeps, List.forall_mem_cons.mpr ⟨vX11_mismatch, List.forall_mem_cons.mpr ⟨vX11_dayCame, List.forall_mem_cons.mpr ⟨vX11_brick, List.forall_mem_cons.mpr ⟨vX11_lay, List.forall_mem_cons.mpr ⟨vX11_bed, List.forall_mem_cons.mpr ⟨vX11_fix, List.forall_mem_cons.mpr ⟨vX11_walk, List.forall_mem_cons.mpr ⟨vX11_rest, List.forall_mem_cons.mpr ⟨vX11_nightComes, List.forall_mem_cons.mpr ⟨vX11_undo, List.forall_mem_cons.mpr ⟨vX11_can, List.forall_mem_cons.mpr ⟨vX11_listWalks, List.forall_mem_cons.mpr ⟨vX11_choice, List.forall_mem_cons.mpr ⟨vX11_partOf, List.forall_mem_cons.mpr ⟨vX11_draft, List.forall_mem_cons.mpr ⟨vX11_redraw, List.forall_mem_cons.mpr ⟨vX11_drafted, List.forall_mem_cons.mpr ⟨vX11_nights, List.forall_mem_cons.mpr ⟨vX11_row, List.forall_mem_cons.mpr ⟨vX11_marks, List.forall_mem_cons.mpr ⟨vX11_floors, List.forall_mem_cons.mpr ⟨vX11_steps, List.forall_mem_cons.mpr ⟨vX11_reach, List.forall_mem_cons.mpr ⟨vX11_gossip, List.forall_mem_cons.mpr ⟨vX11_almanac, List.forall_mem_cons.mpr ⟨vX11_would, List.forall_mem_cons.mpr ⟨vX11_follow, List.forall_mem_cons.mpr ⟨vX11_wish, List.forall_mem_cons.mpr ⟨vX11_beds, List.forall_mem_cons.mpr ⟨vX11_almost, List.forall_mem_cons.mpr ⟨vX11_guards, List.forall_mem_cons.mpr ⟨vX11_drift, List.forall_mem_cons.mpr ⟨vX11_woke, fun _ h => absurd h List.not_mem_nil⟩⟩⟩⟩⟩⟩⟩⟩⟩⟩⟩⟩⟩⟩⟩⟩⟩⟩⟩⟩⟩⟩⟩⟩⟩⟩⟩⟩⟩⟩⟩⟩⟩⟩⟩⟩⟩
set_option maxRecDepth 100000 in
theorem vX11_how : iv_cw mX11_how := iv_cwi (i := 1457) rfl
set_option maxRecDepth 100000 in
theorem vX11_built : iv_cw mX11_built := iv_cwi (i := 1479) rfl
set_option maxRecDepth 100000 in
theorem vX11_best : iv_cw mX11_best := iv_cwi (i := 1492) rfl
set_option maxRecDepth 100000 in
theorem vX11_seed : iv_cw mX11_seed := iv_cwi (i := 1497) rfl
set_option maxRecDepth 100000 in
theorem vX11_drawn : iv_cw mX11_drawn := iv_cwi (i := 1501) rfl
set_option maxRecDepth 100000 in
theorem vX11_count : iv_cw mX11_count := iv_cwi (i := 1518) rfl
set_option maxRecDepth 100000 in
theorem vX11_countMore : iv_cw mX11_countMore := iv_cwi (i := 1522) rfl
set_option maxRecDepth 100000 in
theorem vX11_image : iv_cw mX11_image := iv_cwi (i := 1527) rfl
set_option maxRecDepth 100000 in
theorem vX11_back : iv_cw mX11_back := iv_cwi (i := 1542) rfl
set_option maxRecDepth 100000 in
theorem vX12_init : iv_cw mX12_init := iv_cwi (i := 1547) rfl
set_option maxRecDepth 100000 in
theorem vX12_in : iv_cw mX12_in := iv_cwi (i := 1879) rfl
set_option maxRecDepth 100000 in
theorem vX12_bits : iv_cw mX12_bits := iv_cwi (i := 2108) rfl
set_option maxRecDepth 100000 in
theorem vX12_apart : iv_cw mX12_apart := iv_cwi (i := 2267) rfl
set_option maxRecDepth 100000 in
theorem vX12_isPalace : iv_cw mX12_isPalace := iv_cwi (i := 1973) rfl
set_option maxRecDepth 100000 in
theorem vX12_isCell : iv_cw mX12_isCell := iv_cwi (i := 2011) rfl
set_option maxRecDepth 100000 in
theorem vX12_isFloor : iv_cw mX12_isFloor := iv_cwi (i := 2264) rfl
set_option maxRecDepth 100000 in
theorem vX12_isRoom : iv_cw mX12_isRoom := iv_cwi (i := 1987) rfl
set_option maxRecDepth 100000 in
theorem vX12_isPerson : iv_cw mX12_isPerson := iv_cwi (i := 2019) rfl
set_option maxRecDepth 100000 in
theorem vX12_by : iv_cw mX12_by := iv_cwi (i := 2040) rfl
set_option maxRecDepth 100000 in
theorem vX12_spotOf : iv_cw mX12_spotOf := iv_cwi (i := 1995) rfl
set_option maxRecDepth 100000 in
theorem vX12_sideOf : iv_cw mX12_sideOf := iv_cwi (i := 1991) rfl
set_option maxRecDepth 100000 in
theorem vX12_sortOf : iv_cw mX12_sortOf := iv_cwi (i := 2047) rfl
set_option maxRecDepth 100000 in
theorem vX12_sortAt : iv_cw mX12_sortAt := iv_cwi (i := 2044) rfl
set_option maxRecDepth 100000 in
theorem vX12_faced : iv_cw mX12_faced := iv_cwi (i := 2036) rfl
set_option maxRecDepth 100000 in
theorem vX12_isDoorToDoor : iv_cw mX12_isDoorToDoor := iv_cwi (i := 2303) rfl
set_option maxRecDepth 100000 in
theorem vX12_isMismatch : iv_cw mX12_isMismatch := iv_cwi (i := 2032) rfl
set_option maxRecDepth 100000 in
theorem vX12_mismatches : iv_cw mX12_mismatches := iv_cwi (i := 2028) rfl
set_option maxRecDepth 100000 in
theorem vX12_feed : iv_cw mX12_feed := iv_cwi (i := 1802) rfl
set_option maxRecDepth 100000 in
theorem vX12_put : iv_cw mX12_put := iv_cwi (i := 1806) rfl
set_option maxRecDepth 100000 in
theorem vX12_end : iv_cw mX12_end := iv_cwi (i := 1810) rfl
set_option maxRecDepth 100000 in
theorem vX12_wordOf : iv_cw mX12_wordOf := iv_cwi (i := 1943) rfl
set_option maxRecDepth 100000 in
theorem vX12_fails : iv_cw mX12_fails := iv_cwi (i := 1853) rfl
set_option maxRecDepth 100000 in
theorem vX12_sign : iv_cw mX12_sign := iv_cwi (i := 1834) rfl
theorem iv_V6 : ∀ q ∈ iv_Z6, iv_cw q.1 := List.forall_mem_cons.mpr ⟨vX11_how, List.forall_mem_cons.mpr ⟨vX11_built, List.forall_mem_cons.mpr ⟨vX11_best, List.forall_mem_cons.mpr ⟨vX11_seed, List.forall_mem_cons.mpr ⟨vX11_drawn, List.forall_mem_cons.mpr ⟨vX11_count, List.forall_mem_cons.mpr ⟨vX11_countMore, List.forall_mem_cons.mpr ⟨vX11_image, List.forall_mem_cons.mpr ⟨vX11_back, List.forall_mem_cons.mpr ⟨vX12_init, List.forall_mem_cons.mpr ⟨vX12_in, List.forall_mem_cons.mpr ⟨vX12_bits, List.forall_mem_cons.mpr ⟨vX12_apart, List.forall_mem_cons.mpr ⟨vX12_isPalace, List.forall_mem_cons.mpr ⟨vX12_isCell, List.forall_mem_cons.mpr ⟨vX12_isFloor, List.forall_mem_cons.mpr ⟨vX12_isRoom, List.forall_mem_cons.mpr ⟨vX12_isPerson, List.forall_mem_cons.mpr ⟨vX12_by, List.forall_mem_cons.mpr ⟨vX12_spotOf, List.forall_mem_cons.mpr ⟨vX12_sideOf, List.forall_mem_cons.mpr ⟨vX12_sortOf, List.forall_mem_cons.mpr ⟨vX12_sortAt, List.forall_mem_cons.mpr ⟨vX12_faced, List.forall_mem_cons.mpr ⟨vX12_isDoorToDoor, List.forall_mem_cons.mpr ⟨vX12_isMismatch, List.forall_mem_cons.mpr ⟨vX12_mismatches, List.forall_mem_cons.mpr ⟨vX12_feed, List.forall_mem_cons.mpr ⟨vX12_put, List.forall_mem_cons.mpr ⟨vX12_end, List.forall_mem_cons.mpr ⟨vX12_wordOf, List.forall_mem_cons.mpr ⟨vX12_fails, List.forall_mem_cons.mpr ⟨vX12_sign, fun _ h => absurd h List.not_mem_nil⟩⟩⟩⟩⟩⟩⟩⟩⟩⟩⟩⟩⟩⟩⟩⟩⟩⟩⟩⟩⟩⟩⟩⟩⟩⟩⟩⟩⟩⟩⟩⟩⟩
set_option maxRecDepth 100000 in
theorem vX12_blanks : iv_cw mX12_blanks := iv_cwi (i := 1830) rfl
set_option maxRecDepth 100000 in
theorem vX12_isDigit : iv_cw mX12_isDigit := iv_cwi (i := 1874) rfl
set_option maxRecDepth 100000 in
theorem vX12_stood : iv_cw mX12_stood := iv_cwi (i := 1847) rfl
set_option maxRecDepth 100000 in
theorem vX12_entry : iv_cw mX12_entry := iv_cwi (i := 1940) rfl
set_option maxRecDepth 100000 in
theorem vX12_isCounted : iv_cw mX12_isCounted := iv_cwi (i := 1936) rfl
set_option maxRecDepth 100000 in
theorem vX12_digits : iv_cw mX12_digits := iv_cwi (i := 1870) rfl
set_option maxRecDepth 100000 in
theorem vX12_value : iv_cw mX12_value := iv_cwi (i := 1932) rfl
set_option maxRecDepth 100000 in
theorem vX12_term : iv_cw mX12_term := iv_cwi (i := 1928) rfl
set_option maxRecDepth 100000 in
theorem vX12_sum : iv_cw mX12_sum := iv_cwi (i := 1924) rfl
set_option maxRecDepth 100000 in
theorem vX12_compared : iv_cw mX12_compared := iv_cwi (i := 1920) rfl
set_option maxRecDepth 100000 in
theorem vX12_top : iv_cw mX12_top := iv_cwi (i := 1963) rfl
set_option maxRecDepth 100000 in
theorem vX12_opens : iv_cw mX12_opens := iv_cwi (i := 1916) rfl
set_option maxRecDepth 100000 in
theorem vX12_answers : iv_cw mX12_answers := iv_cwi (i := 1959) rfl
set_option maxRecDepth 100000 in
theorem vX12_fact : iv_cw mX12_fact := iv_cwi (i := 1911) rfl
set_option maxRecDepth 100000 in
theorem vX12_test : iv_cw mX12_test := iv_cwi (i := 1907) rfl
set_option maxRecDepth 100000 in
theorem vX12_amount : iv_cw mX12_amount := iv_cwi (i := 1865) rfl
set_option maxRecDepth 100000 in
theorem vX12_palaceWord : iv_cw mX12_palaceWord := iv_cwi (i := 1837) rfl
set_option maxRecDepth 100000 in
theorem vX12_signAt : iv_cw mX12_signAt := iv_cwi (i := 1887) rfl
set_option maxRecDepth 100000 in
theorem vX12_readsRoom : iv_cw mX12_readsRoom := iv_cwi (i := 1883) rfl
set_option maxRecDepth 100000 in
theorem vX12_palacePart : iv_cw mX12_palacePart := iv_cwi (i := 1861) rfl
set_option maxRecDepth 100000 in
theorem vX12_isFull : iv_cw mX12_isFull := iv_cwi (i := 1857) rfl
set_option maxRecDepth 100000 in
theorem vX12_palaceClause : iv_cw mX12_palaceClause := iv_cwi (i := 1826) rfl
set_option maxRecDepth 100000 in
theorem vX12_copies : iv_cw mX12_copies := iv_cwi (i := 1894) rfl
set_option maxRecDepth 100000 in
theorem vX12_goesOn : iv_cw mX12_goesOn := iv_cwi (i := 1891) rfl
set_option maxRecDepth 100000 in
theorem vX12_starts : iv_cw mX12_starts := iv_cwi (i := 1822) rfl
set_option maxRecDepth 100000 in
theorem vX12_readsAll : iv_cw mX12_readsAll := iv_cwi (i := 1818) rfl
theorem iv_V7 : ∀ q ∈ iv_Z7, iv_cw q.1 := List.forall_mem_cons.mpr ⟨vX12_blanks, List.forall_mem_cons.mpr ⟨vX12_isDigit, List.forall_mem_cons.mpr ⟨vX12_stood, List.forall_mem_cons.mpr ⟨vX12_entry, List.forall_mem_cons.mpr ⟨vX12_isCounted, List.forall_mem_cons.mpr ⟨vX12_digits, List.forall_mem_cons.mpr ⟨vX12_value, List.forall_mem_cons.mpr ⟨vX12_term, List.forall_mem_cons.mpr ⟨vX12_sum, List.forall_mem_cons.mpr ⟨vX12_compared, List.forall_mem_cons.mpr ⟨vX12_top, List.forall_mem_cons.mpr ⟨vX12_opens, List.forall_mem_cons.mpr ⟨vX12_answers, List.forall_mem_cons.mpr ⟨vX12_fact, List.forall_mem_cons.mpr ⟨vX12_test, List.forall_mem_cons.mpr ⟨vX12_amount, List.forall_mem_cons.mpr ⟨vX12_palaceWord, List.forall_mem_cons.mpr ⟨vX12_signAt, List.forall_mem_cons.mpr ⟨vX12_readsRoom, List.forall_mem_cons.mpr ⟨vX12_palacePart, List.forall_mem_cons.mpr ⟨vX12_isFull, List.forall_mem_cons.mpr ⟨vX12_palaceClause, List.forall_mem_cons.mpr ⟨vX12_copies, List.forall_mem_cons.mpr ⟨vX12_goesOn, List.forall_mem_cons.mpr ⟨vX12_starts, List.forall_mem_cons.mpr ⟨vX12_readsAll, fun _ h => absurd h List.not_mem_nil⟩⟩⟩⟩⟩⟩⟩⟩⟩⟩⟩⟩⟩⟩⟩⟩⟩⟩⟩⟩⟩⟩⟩⟩⟩⟩
set_option maxRecDepth 100000 in
theorem vX12_palace : iv_cw mX12_palace := iv_cwi (i := 1814) rfl
set_option maxRecDepth 100000 in
theorem vX12_ruleClause : iv_cw mX12_ruleClause := iv_cwi (i := 1902) rfl
set_option maxRecDepth 100000 in
theorem vX12_rule : iv_cw mX12_rule := iv_cwi (i := 1898) rfl
set_option maxRecDepth 100000 in
theorem vX12_force : iv_cw mX12_force := iv_cwi (i := 1969) rfl
set_option maxRecDepth 100000 in
theorem vX12_law : iv_cw mX12_law := iv_cwi (i := 1978) rfl
set_option maxRecDepth 100000 in
theorem vX12_truth : iv_cw mX12_truth := iv_cwi (i := 2118) rfl
set_option maxRecDepth 100000 in
theorem vX12_both : iv_cw mX12_both := iv_cwi (i := 2115) rfl
set_option maxRecDepth 100000 in
theorem vX12_answer : iv_cw mX12_answer := iv_cwi (i := 2112) rfl
set_option maxRecDepth 100000 in
theorem vX12_areNeighbours : iv_cw mX12_areNeighbours := iv_cwi (i := 2080) rfl
set_option maxRecDepth 100000 in
theorem vX12_goesTo : iv_cw mX12_goesTo := iv_cwi (i := 2088) rfl
set_option maxRecDepth 100000 in
theorem vX12_swaps : iv_cw mX12_swaps := iv_cwi (i := 2092) rfl
set_option maxRecDepth 100000 in
theorem vX12_walks : iv_cw mX12_walks := iv_cwi (i := 2084) rfl
set_option maxRecDepth 100000 in
theorem vX12_walksBack : iv_cw mX12_walksBack := iv_cwi (i := 2096) rfl
set_option maxRecDepth 100000 in
theorem vX12_canBe : iv_cw mX12_canBe := iv_cwi (i := 2076) rfl
set_option maxRecDepth 100000 in
theorem vX12_doorsOf : iv_cw mX12_doorsOf := iv_cwi (i := 2105) rfl
set_option maxRecDepth 100000 in
theorem vX12_sleepers : iv_cw mX12_sleepers := iv_cwi (i := 2003) rfl
set_option maxRecDepth 100000 in
theorem vX12_isBarred : iv_cw mX12_isBarred := iv_cwi (i := 2100) rfl
set_option maxRecDepth 100000 in
theorem vX12_lawOf : iv_cw mX12_lawOf := iv_cwi (i := 2072) rfl
set_option maxRecDepth 100000 in
theorem vX12_kindOf : iv_cw mX12_kindOf := iv_cwi (i := 2065) rfl
set_option maxRecDepth 100000 in
theorem vX12_roomOf : iv_cw mX12_roomOf := iv_cwi (i := 2062) rfl
set_option maxRecDepth 100000 in
theorem vX12_otherOf : iv_cw mX12_otherOf := iv_cwi (i := 2068) rfl
set_option maxRecDepth 100000 in
theorem vX12_mayBe : iv_cw mX12_mayBe := iv_cwi (i := 2059) rfl
set_option maxRecDepth 100000 in
theorem vX12_canNow : iv_cw mX12_canNow := iv_cwi (i := 2055) rfl
set_option maxRecDepth 100000 in
theorem vX12_codeAt : iv_cw mX12_codeAt := iv_cwi (i := 2126) rfl
set_option maxRecDepth 100000 in
theorem vX12_does : iv_cw mX12_does := iv_cwi (i := 2240) rfl
set_option maxRecDepth 100000 in
theorem vX12_doesBack : iv_cw mX12_doesBack := iv_cwi (i := 2244) rfl
set_option maxRecDepth 100000 in
theorem vX12_part : iv_cw mX12_part := iv_cwi (i := 2129) rfl
set_option maxRecDepth 100000 in
theorem vX12_keysIn : iv_cw mX12_keysIn := iv_cwi (i := 1999) rfl
set_option maxRecDepth 100000 in
theorem vX12_room : iv_cw mX12_room := iv_cwi (i := 1983) rfl
set_option maxRecDepth 100000 in
theorem vX12_at : iv_cw mX12_at := iv_cwi (i := 2007) rfl
set_option maxRecDepth 100000 in
theorem vX12_sleeps : iv_cw mX12_sleeps := iv_cwi (i := 2015) rfl
theorem iv_V8 : ∀ q ∈ iv_Z8, iv_cw q.1 := List.forall_mem_cons.mpr ⟨vX12_palace, List.forall_mem_cons.mpr ⟨vX12_ruleClause, List.forall_mem_cons.mpr ⟨vX12_rule, List.forall_mem_cons.mpr ⟨vX12_force, List.forall_mem_cons.mpr ⟨vX12_law, List.forall_mem_cons.mpr ⟨vX12_truth, List.forall_mem_cons.mpr ⟨vX12_both, List.forall_mem_cons.mpr ⟨vX12_answer, List.forall_mem_cons.mpr ⟨vX12_areNeighbours, List.forall_mem_cons.mpr ⟨vX12_goesTo, List.forall_mem_cons.mpr ⟨vX12_swaps, List.forall_mem_cons.mpr ⟨vX12_walks, List.forall_mem_cons.mpr ⟨vX12_walksBack, List.forall_mem_cons.mpr ⟨vX12_canBe, List.forall_mem_cons.mpr ⟨vX12_doorsOf, List.forall_mem_cons.mpr ⟨vX12_sleepers, List.forall_mem_cons.mpr ⟨vX12_isBarred, List.forall_mem_cons.mpr ⟨vX12_lawOf, List.forall_mem_cons.mpr ⟨vX12_kindOf, List.forall_mem_cons.mpr ⟨vX12_roomOf, List.forall_mem_cons.mpr ⟨vX12_otherOf, List.forall_mem_cons.mpr ⟨vX12_mayBe, List.forall_mem_cons.mpr ⟨vX12_canNow, List.forall_mem_cons.mpr ⟨vX12_codeAt, List.forall_mem_cons.mpr ⟨vX12_does, List.forall_mem_cons.mpr ⟨vX12_doesBack, List.forall_mem_cons.mpr ⟨vX12_part, List.forall_mem_cons.mpr ⟨vX12_keysIn, List.forall_mem_cons.mpr ⟨vX12_room, List.forall_mem_cons.mpr ⟨vX12_at, List.forall_mem_cons.mpr ⟨vX12_sleeps, fun _ h => absurd h List.not_mem_nil⟩⟩⟩⟩⟩⟩⟩⟩⟩⟩⟩⟩⟩⟩⟩⟩⟩⟩⟩⟩⟩⟩⟩⟩⟩⟩⟩⟩⟩⟩⟩
set_option maxRecDepth 100000 in
theorem vX12_mismatch : iv_cw mX12_mismatch := iv_cwi (i := 2023) rfl
set_option maxRecDepth 100000 in
theorem vX12_can : iv_cw mX12_can := iv_cwi (i := 2051) rfl
set_option maxRecDepth 100000 in
theorem vX12_choice : iv_cw mX12_choice := iv_cwi (i := 2122) rfl
set_option maxRecDepth 100000 in
theorem vX12_brick : iv_cw mX12_brick := iv_cwi (i := 2133) rfl
set_option maxRecDepth 100000 in
theorem vX12_lay : iv_cw mX12_lay := iv_cwi (i := 2138) rfl
set_option maxRecDepth 100000 in
theorem vX12_bed : iv_cw mX12_bed := iv_cwi (i := 2143) rfl
set_option maxRecDepth 100000 in
theorem vX12_fix : iv_cw mX12_fix := iv_cwi (i := 2147) rfl
set_option maxRecDepth 100000 in
theorem vX12_fillsFloor : iv_cw mX12_fillsFloor := iv_cwi (i := 2169) rfl
set_option maxRecDepth 100000 in
theorem vX12_laysFloor : iv_cw mX12_laysFloor := iv_cwi (i := 2181) rfl
set_option maxRecDepth 100000 in
theorem vX12_keepsNight : iv_cw mX12_keepsNight := iv_cwi (i := 2165) rfl
set_option maxRecDepth 100000 in
theorem vX12_isWalk : iv_cw mX12_isWalk := iv_cwi (i := 2155) rfl
set_option maxRecDepth 100000 in
theorem vX12_least : iv_cw mX12_least := iv_cwi (i := 2158) rfl
set_option maxRecDepth 100000 in
theorem vX12_greatest : iv_cw mX12_greatest := iv_cwi (i := 2161) rfl
set_option maxRecDepth 100000 in
theorem vX12_walk : iv_cw mX12_walk := iv_cwi (i := 2151) rfl
set_option maxRecDepth 100000 in
theorem vX12_rest : iv_cw mX12_rest := iv_cwi (i := 2173) rfl
set_option maxRecDepth 100000 in
theorem vX12_undo : iv_cw mX12_undo := iv_cwi (i := 2177) rfl
set_option maxRecDepth 100000 in
theorem vX12_isDraft : iv_cw mX12_isDraft := iv_cwi (i := 2193) rfl
set_option maxRecDepth 100000 in
theorem vX12_draft : iv_cw mX12_draft := iv_cwi (i := 2185) rfl
set_option maxRecDepth 100000 in
theorem vX12_drafted : iv_cw mX12_drafted := iv_cwi (i := 2189) rfl
set_option maxRecDepth 100000 in
theorem vX12_isEmptyInDraft : iv_cw mX12_isEmptyInDraft := iv_cwi (i := 2201) rfl
set_option maxRecDepth 100000 in
theorem vX12_redraw : iv_cw mX12_redraw := iv_cwi (i := 2197) rfl
set_option maxRecDepth 100000 in
theorem vX12_whereNow : iv_cw mX12_whereNow := iv_cwi (i := 2217) rfl
set_option maxRecDepth 100000 in
theorem vX12_howNow : iv_cw mX12_howNow := iv_cwi (i := 2222) rfl
set_option maxRecDepth 100000 in
theorem vX12_laysSituation : iv_cw mX12_laysSituation := iv_cwi (i := 2236) rfl
set_option maxRecDepth 100000 in
theorem vX12_placeOf : iv_cw mX12_placeOf := iv_cwi (i := 2226) rfl
set_option maxRecDepth 100000 in
theorem vX12_isAsDrafted : iv_cw mX12_isAsDrafted := iv_cwi (i := 2232) rfl
set_option maxRecDepth 100000 in
theorem vX12_comes : iv_cw mX12_comes := iv_cwi (i := 2213) rfl
set_option maxRecDepth 100000 in
theorem vX12_finds : iv_cw mX12_finds := iv_cwi (i := 2209) rfl
set_option maxRecDepth 100000 in
theorem vX12_nights : iv_cw mX12_nights := iv_cwi (i := 2205) rfl
theorem iv_V9 : ∀ q ∈ iv_Z9, iv_cw q.1 := List.forall_mem_cons.mpr ⟨vX12_mismatch, List.forall_mem_cons.mpr ⟨vX12_can, List.forall_mem_cons.mpr ⟨vX12_choice, List.forall_mem_cons.mpr ⟨vX12_brick, List.forall_mem_cons.mpr ⟨vX12_lay, List.forall_mem_cons.mpr ⟨vX12_bed, List.forall_mem_cons.mpr ⟨vX12_fix, List.forall_mem_cons.mpr ⟨vX12_fillsFloor, List.forall_mem_cons.mpr ⟨vX12_laysFloor, List.forall_mem_cons.mpr ⟨vX12_keepsNight, List.forall_mem_cons.mpr ⟨vX12_isWalk, List.forall_mem_cons.mpr ⟨vX12_least, List.forall_mem_cons.mpr ⟨vX12_greatest, List.forall_mem_cons.mpr ⟨vX12_walk, List.forall_mem_cons.mpr ⟨vX12_rest, List.forall_mem_cons.mpr ⟨vX12_undo, List.forall_mem_cons.mpr ⟨vX12_isDraft, List.forall_mem_cons.mpr ⟨vX12_draft, List.forall_mem_cons.mpr ⟨vX12_drafted, List.forall_mem_cons.mpr ⟨vX12_isEmptyInDraft, List.forall_mem_cons.mpr ⟨vX12_redraw, List.forall_mem_cons.mpr ⟨vX12_whereNow, List.forall_mem_cons.mpr ⟨vX12_howNow, List.forall_mem_cons.mpr ⟨vX12_laysSituation, List.forall_mem_cons.mpr ⟨vX12_placeOf, List.forall_mem_cons.mpr ⟨vX12_isAsDrafted, List.forall_mem_cons.mpr ⟨vX12_comes, List.forall_mem_cons.mpr ⟨vX12_finds, List.forall_mem_cons.mpr ⟨vX12_nights, fun _ h => absurd h List.not_mem_nil⟩⟩⟩⟩⟩⟩⟩⟩⟩⟩⟩⟩⟩⟩⟩⟩⟩⟩⟩⟩⟩⟩⟩⟩⟩⟩⟩⟩⟩
set_option maxRecDepth 100000 in
theorem vX12_row : iv_cw mX12_row := iv_cwi (i := 2248) rfl
set_option maxRecDepth 100000 in
theorem vX12_emptyMany : iv_cw mX12_emptyMany := iv_cwi (i := 2256) rfl
set_option maxRecDepth 100000 in
theorem vX12_canBySlides : iv_cw mX12_canBySlides := iv_cwi (i := 2260) rfl
set_option maxRecDepth 100000 in
theorem vX12_marks : iv_cw mX12_marks := iv_cwi (i := 2252) rfl
set_option maxRecDepth 100000 in
theorem vX12_isLaidWell : iv_cw mX12_isLaidWell := iv_cwi (i := 2283) rfl
set_option maxRecDepth 100000 in
theorem vX12_areFixedWell : iv_cw mX12_areFixedWell := iv_cwi (i := 2279) rfl
set_option maxRecDepth 100000 in
theorem vX12_takesLoose : iv_cw mX12_takesLoose := iv_cwi (i := 2275) rfl
set_option maxRecDepth 100000 in
theorem vX12_floors : iv_cw mX12_floors := iv_cwi (i := 2271) rfl
set_option maxRecDepth 100000 in
theorem vX12_opens_ : iv_cw mX12_opens_ := iv_cwi (i := 2306) rfl
set_option maxRecDepth 100000 in
theorem vX12_bagAt : iv_cw mX12_bagAt := iv_cwi (i := 2295) rfl
set_option maxRecDepth 100000 in
theorem vX12_goesByDay : iv_cw mX12_goesByDay := iv_cwi (i := 2291) rfl
set_option maxRecDepth 100000 in
theorem vX12_comesIn : iv_cw mX12_comesIn := iv_cwi (i := 2299) rfl
set_option maxRecDepth 100000 in
theorem vX12_steps : iv_cw mX12_steps := iv_cwi (i := 2287) rfl
set_option maxRecDepth 100000 in
theorem vX12_reach : iv_cw mX12_reach := iv_cwi (i := 2310) rfl
set_option maxRecDepth 100000 in
theorem vX12_gossip : iv_cw mX12_gossip := iv_cwi (i := 2314) rfl
set_option maxRecDepth 100000 in
theorem vX12_almanac : iv_cw mX12_almanac := iv_cwi (i := 2318) rfl
set_option maxRecDepth 100000 in
theorem vX12_comesDue : iv_cw mX12_comesDue := iv_cwi (i := 2330) rfl
set_option maxRecDepth 100000 in
theorem vX12_followsSome : iv_cw mX12_followsSome := iv_cwi (i := 2326) rfl
theorem iv_V10 : ∀ q ∈ iv_Z10, iv_cw q.1 := List.forall_mem_cons.mpr ⟨vX12_row, List.forall_mem_cons.mpr ⟨vX12_emptyMany, List.forall_mem_cons.mpr ⟨vX12_canBySlides, List.forall_mem_cons.mpr ⟨vX12_marks, List.forall_mem_cons.mpr ⟨vX12_isLaidWell, List.forall_mem_cons.mpr ⟨vX12_areFixedWell, List.forall_mem_cons.mpr ⟨vX12_takesLoose, List.forall_mem_cons.mpr ⟨vX12_floors, List.forall_mem_cons.mpr ⟨vX12_opens_, List.forall_mem_cons.mpr ⟨vX12_bagAt, List.forall_mem_cons.mpr ⟨vX12_goesByDay, List.forall_mem_cons.mpr ⟨vX12_comesIn, List.forall_mem_cons.mpr ⟨vX12_steps, List.forall_mem_cons.mpr ⟨vX12_reach, List.forall_mem_cons.mpr ⟨vX12_gossip, List.forall_mem_cons.mpr ⟨vX12_almanac, List.forall_mem_cons.mpr ⟨vX12_comesDue, List.forall_mem_cons.mpr ⟨vX12_followsSome, fun _ h => absurd h List.not_mem_nil⟩⟩⟩⟩⟩⟩⟩⟩⟩⟩⟩⟩⟩⟩⟩⟩⟩⟩
set_option maxRecDepth 100000 in
theorem vX12_would : iv_cw mX12_would := iv_cwi (i := 2322) rfl
set_option maxRecDepth 100000 in
theorem vX12_follow : iv_cw mX12_follow := iv_cwi (i := 2334) rfl
set_option maxRecDepth 100000 in
theorem vX12_wish : iv_cw mX12_wish := iv_cwi (i := 2338) rfl
set_option maxRecDepth 100000 in
theorem vX12_isWished : iv_cw mX12_isWished := iv_cwi (i := 2355) rfl
set_option maxRecDepth 100000 in
theorem vX12_fillsWho : iv_cw mX12_fillsWho := iv_cwi (i := 2351) rfl
set_option maxRecDepth 100000 in
theorem vX12_notesBeds : iv_cw mX12_notesBeds := iv_cwi (i := 2359) rfl
set_option maxRecDepth 100000 in
theorem vX12_findsBeds : iv_cw mX12_findsBeds := iv_cwi (i := 2347) rfl
set_option maxRecDepth 100000 in
theorem vX12_beds : iv_cw mX12_beds := iv_cwi (i := 2343) rfl
set_option maxRecDepth 100000 in
theorem vX12_almost : iv_cw mX12_almost := iv_cwi (i := 2363) rfl
set_option maxRecDepth 100000 in
theorem vX12_guards : iv_cw mX12_guards := iv_cwi (i := 2367) rfl
set_option maxRecDepth 100000 in
theorem vX12_fromEdge : iv_cw mX12_fromEdge := iv_cwi (i := 2375) rfl
set_option maxRecDepth 100000 in
theorem vX12_drift : iv_cw mX12_drift := iv_cwi (i := 2371) rfl
set_option maxRecDepth 100000 in
theorem vX12_woke : iv_cw mX12_woke := iv_cwi (i := 2379) rfl
set_option maxRecDepth 100000 in
theorem vX12_isAsWoken : iv_cw mX12_isAsWoken := iv_cwi (i := 2391) rfl
set_option maxRecDepth 100000 in
theorem vX12_notesRow : iv_cw mX12_notesRow := iv_cwi (i := 2395) rfl
set_option maxRecDepth 100000 in
theorem vX12_findsRows : iv_cw mX12_findsRows := iv_cwi (i := 2387) rfl
set_option maxRecDepth 100000 in
theorem vX12_stepsBack : iv_cw mX12_stepsBack := iv_cwi (i := 2399) rfl
set_option maxRecDepth 100000 in
theorem vX12_how : iv_cw mX12_how := iv_cwi (i := 2383) rfl
set_option maxRecDepth 100000 in
theorem vX12_builtSide : iv_cw mX12_builtSide := iv_cwi (i := 2411) rfl
set_option maxRecDepth 100000 in
theorem vX12_builtMismatches : iv_cw mX12_builtMismatches := iv_cwi (i := 2407) rfl
set_option maxRecDepth 100000 in
theorem vX12_built : iv_cw mX12_built := iv_cwi (i := 2403) rfl
theorem iv_V11 : ∀ q ∈ iv_Z11, iv_cw q.1 := List.forall_mem_cons.mpr ⟨vX12_would, List.forall_mem_cons.mpr ⟨vX12_follow, List.forall_mem_cons.mpr ⟨vX12_wish, List.forall_mem_cons.mpr ⟨vX12_isWished, List.forall_mem_cons.mpr ⟨vX12_fillsWho, List.forall_mem_cons.mpr ⟨vX12_notesBeds, List.forall_mem_cons.mpr ⟨vX12_findsBeds, List.forall_mem_cons.mpr ⟨vX12_beds, List.forall_mem_cons.mpr ⟨vX12_almost, List.forall_mem_cons.mpr ⟨vX12_guards, List.forall_mem_cons.mpr ⟨vX12_fromEdge, List.forall_mem_cons.mpr ⟨vX12_drift, List.forall_mem_cons.mpr ⟨vX12_woke, List.forall_mem_cons.mpr ⟨vX12_isAsWoken, List.forall_mem_cons.mpr ⟨vX12_notesRow, List.forall_mem_cons.mpr ⟨vX12_findsRows, List.forall_mem_cons.mpr ⟨vX12_stepsBack, List.forall_mem_cons.mpr ⟨vX12_how, List.forall_mem_cons.mpr ⟨vX12_builtSide, List.forall_mem_cons.mpr ⟨vX12_builtMismatches, List.forall_mem_cons.mpr ⟨vX12_built, fun _ h => absurd h List.not_mem_nil⟩⟩⟩⟩⟩⟩⟩⟩⟩⟩⟩⟩⟩⟩⟩⟩⟩⟩⟩⟩⟩
set_option maxRecDepth 100000 in
theorem vX12_best : iv_cw mX12_best := iv_cwi (i := 2415) rfl
set_option maxRecDepth 100000 in
theorem vX12_seed : iv_cw mX12_seed := iv_cwi (i := 2419) rfl
set_option maxRecDepth 100000 in
theorem vX12_draws : iv_cw mX12_draws := iv_cwi (i := 2432) rfl
set_option maxRecDepth 100000 in
theorem vX12_drawnNights : iv_cw mX12_drawnNights := iv_cwi (i := 2428) rfl
set_option maxRecDepth 100000 in
theorem vX12_areDoorToDoor : iv_cw mX12_areDoorToDoor := iv_cwi (i := 2440) rfl
set_option maxRecDepth 100000 in
theorem vX12_drawn : iv_cw mX12_drawn := iv_cwi (i := 2423) rfl
set_option maxRecDepth 100000 in
theorem vX12_count : iv_cw mX12_count := iv_cwi (i := 2444) rfl
set_option maxRecDepth 100000 in
theorem vX12_carry : iv_cw mX12_carry := iv_cwi (i := 2456) rfl
set_option maxRecDepth 100000 in
theorem vX12_carriesAll : iv_cw mX12_carriesAll := iv_cwi (i := 2452) rfl
set_option maxRecDepth 100000 in
theorem vX12_image : iv_cw mX12_image := iv_cwi (i := 2448) rfl
set_option maxRecDepth 100000 in
theorem vX12_back : iv_cw mX12_back := iv_cwi (i := 2460) rfl
set_option maxRecDepth 100000 in
theorem vJ6_bitCount_0f7a4 : iv_cw mJ6_bitCount_0f7a4 := iv_cwi (i := 1115) rfl
set_option maxRecDepth 100000 in
theorem vJ7_fill_53178 : iv_cw mJ7_fill_53178 := iv_cwi (i := 192) rfl
theorem iv_V12 : ∀ q ∈ iv_Z12, iv_cw q.1 := List.forall_mem_cons.mpr ⟨vX12_best, List.forall_mem_cons.mpr ⟨vX12_seed, List.forall_mem_cons.mpr ⟨vX12_draws, List.forall_mem_cons.mpr ⟨vX12_drawnNights, List.forall_mem_cons.mpr ⟨vX12_areDoorToDoor, List.forall_mem_cons.mpr ⟨vX12_drawn, List.forall_mem_cons.mpr ⟨vX12_count, List.forall_mem_cons.mpr ⟨vX12_carry, List.forall_mem_cons.mpr ⟨vX12_carriesAll, List.forall_mem_cons.mpr ⟨vX12_image, List.forall_mem_cons.mpr ⟨vX12_back, List.forall_mem_cons.mpr ⟨vJ6_bitCount_0f7a4, List.forall_mem_cons.mpr ⟨vJ7_fill_53178, fun _ h => absurd h List.not_mem_nil⟩⟩⟩⟩⟩⟩⟩⟩⟩⟩⟩⟩⟩
theorem iv_V13 : ∀ q ∈ iv_Z13, iv_cw q.1 := List.forall_mem_cons.mpr ⟨Or.inl rfl, fun _ h => absurd h List.not_mem_nil⟩
theorem iv_V : ∀ q ∈ iv_Z, iv_cw q.1 := List.forall_mem_append.mpr ⟨iv_V0, List.forall_mem_append.mpr ⟨iv_V1, List.forall_mem_append.mpr ⟨iv_V2, List.forall_mem_append.mpr ⟨iv_V3, List.forall_mem_append.mpr ⟨iv_V4, List.forall_mem_append.mpr ⟨iv_V5, List.forall_mem_append.mpr ⟨iv_V6, List.forall_mem_append.mpr ⟨iv_V7, List.forall_mem_append.mpr ⟨iv_V8, List.forall_mem_append.mpr ⟨iv_V9, List.forall_mem_append.mpr ⟨iv_V10, List.forall_mem_append.mpr ⟨iv_V11, List.forall_mem_append.mpr ⟨iv_V12, iv_V13⟩⟩⟩⟩⟩⟩⟩⟩⟩⟩⟩⟩⟩
set_option maxRecDepth 100000 in
theorem iv_VL : iv_cw iv_mLen := iv_cwi (i := 767) rfl
set_option maxRecDepth 100000 in
theorem iv_VA : iv_cw iv_mAt := iv_cwi (i := 777) rfl
