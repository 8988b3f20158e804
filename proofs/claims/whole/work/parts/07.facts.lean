/-! layouts, facts of the tables -/
def layC : List eLC := [.inr (.inr (9, [some 1, some 73, none, some 145, some 147, some 155])), .inr (.inr (8, [some 2, some 12, some 23, some 29, some 40, some 53, some 54, some 55, some 72])), .inr (.inr (0, [some 3, some 4, some 5, some 6, none, some 7, some 8, some 9, some 10, none, some 11, none, none, none, none, none])), .inl (0, 96), .inl (0, 40), .inl (0, 40), .inl (0, 40), .inl (0, 12), .inl (0, 12), .inl (0, 12), .inl (0, 12), .inl (0, 4), .inr (.inr (5, [some 13, some 14, some 15, some 16, some 17, some 18, some 19, some 20, some 21, some 22, none])), .inl (0, 20), .inl (0, 20), .inl (0, 20), .inl (0, 20), .inl (0, 20), .inl (2, 20), .inl (0, 20), .inl (2, 20), .inl (0, 20), .inl (0, 20), .inr (.inr (2, [some 24, some 25, some 26, some 27, none, some 28, none])), .inl (0, 30), .inl (0, 30), .inl (0, 30), .inl (0, 30), .inl (0, 30), .inr (.inr (1, [some 30, some 31, some 32, some 33, some 34, some 35, some 36, none, none, none, some 37, some 38, some 39])), .inl (0, 90), .inl (0, 90), .inl (2, 90), .inl (0, 90), .inl (0, 90), .inl (0, 90), .inl (2, 90), .inl (0, 4), .inl (1, 4), .inl (0, 4), .inr (.inr (7, [some 41, some 42, some 43, some 44, none, some 45, some 46, some 47, some 48, some 49, some 50, some 51, some 52])), .inl (0, 8), .inl (0, 8), .inl (2, 8), .inl (0, 8), .inl (0, 80), .inl (0, 80), .inl (0, 80), .inl (2, 320), .inl (2, 320), .inl (0, 320), .inl (0, 320), .inl (0, 320), .inl (0, 486), .inl (0, 190), .inr (.inr (3, [some 56, some 57, none, some 58])), .inl (1, 4), .inl (0, 12), .inr (.inl (5, [59, 60, 61, 62, 63, 64, 65, 66, 67, 68, 69, 70, 71])), .inl (1, 4), .inl (1, 4), .inl (1, 4), .inl (1, 4), .inl (1, 4), .inl (1, 4), .inl (1, 4), .inl (1, 4), .inl (1, 4), .inl (1, 4), .inl (1, 4), .inl (1, 4), .inl (1, 4), .inl (0, 5), .inr (.inr (8, [some 74, some 84, some 95, some 101, some 112, some 125, some 126, some 127, some 144])), .inr (.inr (0, [some 75, some 76, some 77, some 78, none, some 79, some 80, some 81, some 82, none, some 83, none, none, none, none, none])), .inl (0, 96), .inl (0, 40), .inl (0, 40), .inl (0, 40), .inl (0, 12), .inl (0, 12), .inl (0, 12), .inl (0, 12), .inl (0, 4), .inr (.inr (5, [some 85, some 86, some 87, some 88, some 89, some 90, some 91, some 92, some 93, some 94, none])), .inl (0, 20), .inl (0, 20), .inl (0, 20), .inl (0, 20), .inl (0, 20), .inl (2, 20), .inl (0, 20), .inl (2, 20), .inl (0, 20), .inl (0, 20), .inr (.inr (2, [some 96, some 97, some 98, some 99, none, some 100, none])), .inl (0, 30), .inl (0, 30), .inl (0, 30), .inl (0, 30), .inl (0, 30), .inr (.inr (1, [some 102, some 103, some 104, some 105, some 106, some 107, some 108, none, none, none, some 109, some 110, some 111])), .inl (0, 90), .inl (0, 90), .inl (2, 90), .inl (0, 90), .inl (0, 90), .inl (0, 90), .inl (2, 90), .inl (0, 4), .inl (1, 4), .inl (0, 4), .inr (.inr (7, [some 113, some 114, some 115, some 116, none, some 117, some 118, some 119, some 120, some 121, some 122, some 123, some 124])), .inl (0, 8), .inl (0, 8), .inl (2, 8), .inl (0, 8), .inl (0, 80), .inl (0, 80), .inl (0, 80), .inl (2, 320), .inl (2, 320), .inl (0, 320), .inl (0, 320), .inl (0, 320), .inl (0, 486), .inl (0, 190), .inr (.inr (3, [some 128, some 129, none, some 130])), .inl (1, 4), .inl (0, 12), .inr (.inl (5, [131, 132, 133, 134, 135, 136, 137, 138, 139, 140, 141, 142, 143])), .inl (1, 4), .inl (1, 4), .inl (1, 4), .inl (1, 4), .inl (1, 4), .inl (1, 4), .inl (1, 4), .inl (1, 4), .inl (1, 4), .inl (1, 4), .inl (1, 4), .inl (1, 4), .inl (1, 4), .inl (0, 5), .inr (.inr (6, [some 146, none, none])), .inl (0, 120), .inr (.inr (4, [some 148, some 149, some 150])), .inl (0, 4), .inl (0, 4), .inr (.inl (4, [151, 152, 153, 154])), .inl (0, 20), .inl (0, 20), .inl (0, 20), .inl (0, 20), .inl (0, 7)]
def layR : List eLC := [.inr (.inr (10, [some 1, some 2, none, none, some 3, some 4, some 5, some 6, some 7, some 8, some 9, some 10, some 11, none, some 12, some 13, some 14, none, none, none, none, some 15])), .inl (0, 2900), .inl (0, 2900), .inl (3, 120), .inl (0, 4), .inl (0, 4), .inl (0, 80), .inl (0, 8), .inl (0, 800), .inl (0, 800), .inl (0, 800), .inl (0, 800), .inl (1, 4), .inl (0, 4), .inl (1, 4), .inl (0, 20)]
theorem ein_0 : ∀ w ∈ u_ws RX0 TX0 16, w ∈ eTb := fun w h => eTb_in ((by decide +kernel : ∀ w ∈ u_ws RX0 TX0 16, w ∈ lw_tbl) w h) ((by decide +kernel : ∀ w ∈ u_ws RX0 TX0 16, goodWord w = true) w h)
theorem ein_1 : ∀ w ∈ u_ws RX1 TX1 13, w ∈ eTb := fun w h => eTb_in ((by decide +kernel : ∀ w ∈ u_ws RX1 TX1 13, w ∈ lw_tbl) w h) ((by decide +kernel : ∀ w ∈ u_ws RX1 TX1 13, goodWord w = true) w h)
theorem ein_2 : ∀ w ∈ u_ws RX2 TX2 7, w ∈ eTb := fun w h => eTb_in ((by decide +kernel : ∀ w ∈ u_ws RX2 TX2 7, w ∈ lw_tbl) w h) ((by decide +kernel : ∀ w ∈ u_ws RX2 TX2 7, goodWord w = true) w h)
theorem ein_3 : ∀ w ∈ u_ws RX3 TX3 4, w ∈ eTb := fun w h => eTb_in ((by decide +kernel : ∀ w ∈ u_ws RX3 TX3 4, w ∈ lw_tbl) w h) ((by decide +kernel : ∀ w ∈ u_ws RX3 TX3 4, goodWord w = true) w h)
theorem ein_4 : ∀ w ∈ u_ws RX4 TX4 3, w ∈ eTb := fun w h => eTb_in ((by decide +kernel : ∀ w ∈ u_ws RX4 TX4 3, w ∈ lw_tbl) w h) ((by decide +kernel : ∀ w ∈ u_ws RX4 TX4 3, goodWord w = true) w h)
theorem ein_5 : ∀ w ∈ u_ws RX5 TX5 11, w ∈ eTb := fun w h => eTb_in ((by decide +kernel : ∀ w ∈ u_ws RX5 TX5 11, w ∈ lw_tbl) w h) ((by decide +kernel : ∀ w ∈ u_ws RX5 TX5 11, goodWord w = true) w h)
theorem ein_6 : ∀ w ∈ u_ws RX6 TX6 3, w ∈ eTb := fun w h => eTb_in ((by decide +kernel : ∀ w ∈ u_ws RX6 TX6 3, w ∈ lw_tbl) w h) ((by decide +kernel : ∀ w ∈ u_ws RX6 TX6 3, goodWord w = true) w h)
theorem ein_7 : ∀ w ∈ u_ws RX7 TX7 13, w ∈ eTb := fun w h => eTb_in ((by decide +kernel : ∀ w ∈ u_ws RX7 TX7 13, w ∈ lw_tbl) w h) ((by decide +kernel : ∀ w ∈ u_ws RX7 TX7 13, goodWord w = true) w h)
theorem ein_8 : ∀ w ∈ u_ws RX8 TX8 9, w ∈ eTb := fun w h => eTb_in ((by decide +kernel : ∀ w ∈ u_ws RX8 TX8 9, w ∈ lw_tbl) w h) ((by decide +kernel : ∀ w ∈ u_ws RX8 TX8 9, goodWord w = true) w h)
theorem ein_9 : ∀ w ∈ u_ws RX9 TX9 6, w ∈ eTb := fun w h => eTb_in ((by decide +kernel : ∀ w ∈ u_ws RX9 TX9 6, w ∈ lw_tbl) w h) ((by decide +kernel : ∀ w ∈ u_ws RX9 TX9 6, goodWord w = true) w h)
theorem ein_10 : ∀ w ∈ u_ws RX10 TX10 22, w ∈ eTb := fun w h => eTb_in ((by decide +kernel : ∀ w ∈ u_ws RX10 TX10 22, w ∈ lw_tbl) w h) ((by decide +kernel : ∀ w ∈ u_ws RX10 TX10 22, goodWord w = true) w h)
abbrev m_X9_cell : eM := (yX9_cell, cX9_cell, 4, (Option.some Jvm.ClassFile.FieldType.int))
abbrev m_X9_isIn : eM := (yX9_isIn, cX9_isIn, 2, (Option.some Jvm.ClassFile.FieldType.boolean))
abbrev m_X9_found : eM := (yX9_found, cX9_found, 3, (Option.some Jvm.ClassFile.FieldType.int))
abbrev m_X10_cell : eM := (yX10_cell, cX10_cell, 4, (Option.some Jvm.ClassFile.FieldType.int))
abbrev m_X10_isCell : eM := (yX10_isCell, cX10_isCell, 1, (Option.some Jvm.ClassFile.FieldType.boolean))
abbrev m_X10_in : eM := (yX10_in, cX10_in, 3, (Option.some Jvm.ClassFile.FieldType.boolean))
abbrev m_X10_finding : eM := (yX10_finding, cX10_finding, 2, (Option.some Jvm.ClassFile.FieldType.int))
abbrev m_X9_road : eM := (yX9_road, cX9_road, 4, (Option.some Jvm.ClassFile.FieldType.int))
abbrev m_X9_isBetween : eM := (yX9_isBetween, cX9_isBetween, 3, (Option.some Jvm.ClassFile.FieldType.boolean))
abbrev m_X0_addRoad : eM := (yX0_addRoad, cX0_addRoad, 4, (Option.some Jvm.ClassFile.FieldType.int))
abbrev m_X10_road_ : eM := (yX10_road_, cX10_road_, 5, (Option.some Jvm.ClassFile.FieldType.int))
abbrev m_X10_road : eM := (yX10_road, cX10_road, 2, (Option.some Jvm.ClassFile.FieldType.int))
abbrev m_X9_unit : eM := (yX9_unit, cX9_unit, 3, (Option.some Jvm.ClassFile.FieldType.int))
abbrev m_X0_addUnit : eM := (yX0_addUnit, cX0_addUnit, 3, (Option.some Jvm.ClassFile.FieldType.int))
abbrev m_X10_unit : eM := (yX10_unit, cX10_unit, 4, (Option.some Jvm.ClassFile.FieldType.int))
abbrev m_X10_unitAt : eM := (yX10_unitAt, cX10_unitAt, 2, (Option.some Jvm.ClassFile.FieldType.int))
abbrev m_X9_move : eM := (yX9_move, cX9_move, 4, (Option.some Jvm.ClassFile.FieldType.int))
abbrev m_X0_isOnRoad : eM := (yX0_isOnRoad, cX0_isOnRoad, 2, (Option.some Jvm.ClassFile.FieldType.boolean))
abbrev m_X8_isQuiet : eM := (yX8_isQuiet, cX8_isQuiet, 3, (Option.some Jvm.ClassFile.FieldType.boolean))
abbrev m_X8_isShown : eM := (yX8_isShown, cX8_isShown, 2, (Option.some Jvm.ClassFile.FieldType.boolean))
abbrev m_X5_need : eM := (yX5_need, cX5_need, 2, (Option.some Jvm.ClassFile.FieldType.int))
abbrev m_X8_clauseOf : eM := (yX8_clauseOf, cX8_clauseOf, 3, (Option.some Jvm.ClassFile.FieldType.int))
abbrev m_X7_clauseAbout : eM := (yX7_clauseAbout, cX7_clauseAbout, 7, (Option.some Jvm.ClassFile.FieldType.int))
abbrev m_X9_isUnder : eM := (yX9_isUnder, cX9_isUnder, 2, (Option.some Jvm.ClassFile.FieldType.boolean))
abbrev m_X7_holds : eM := (yX7_holds, cX7_holds, 8, (Option.some Jvm.ClassFile.FieldType.boolean))
abbrev m_X7_says : eM := (yX7_says, cX7_says, 3, (Option.some Jvm.ClassFile.FieldType.boolean))
abbrev m_X0_leadsFrom : eM := (yX0_leadsFrom, cX0_leadsFrom, 3, (Option.some Jvm.ClassFile.FieldType.boolean))
abbrev m_X10_move : eM := (yX10_move, cX10_move, 4, (Option.some Jvm.ClassFile.FieldType.int))
abbrev m_X10_isUnit : eM := (yX10_isUnit, cX10_isUnit, 2, (Option.some Jvm.ClassFile.FieldType.boolean))
abbrev m_X10_isRoad : eM := (yX10_isRoad, cX10_isRoad, 2, (Option.some Jvm.ClassFile.FieldType.boolean))
abbrev m_X10_isQuiet : eM := (yX10_isQuiet, cX10_isQuiet, 4, (Option.some Jvm.ClassFile.FieldType.boolean))
abbrev m_X10_show : eM := (yX10_show, cX10_show, 3, (Option.some Jvm.ClassFile.FieldType.int))
abbrev m_X10_isShown : eM := (yX10_isShown, cX10_isShown, 2, (Option.some Jvm.ClassFile.FieldType.boolean))
abbrev m_X10_needOf : eM := (yX10_needOf, cX10_needOf, 3, (Option.some Jvm.ClassFile.FieldType.int))
abbrev m_X10_wordOf : eM := (yX10_wordOf, cX10_wordOf, 3, (Option.some Jvm.ClassFile.FieldType.int))
abbrev m_X10_clauseOf : eM := (yX10_clauseOf, cX10_clauseOf, 6, (Option.some Jvm.ClassFile.FieldType.int))
abbrev m_X10_isAbout : eM := (yX10_isAbout, cX10_isAbout, 7, (Option.some Jvm.ClassFile.FieldType.boolean))
abbrev m_X10_isUnder : eM := (yX10_isUnder, cX10_isUnder, 2, (Option.some Jvm.ClassFile.FieldType.boolean))
abbrev m_X10_isSo : eM := (yX10_isSo, cX10_isSo, 6, (Option.some Jvm.ClassFile.FieldType.boolean))
abbrev m_X10_valueOf : eM := (yX10_valueOf, cX10_valueOf, 3, (Option.some Jvm.ClassFile.FieldType.int))
abbrev m_X10_leads : eM := (yX10_leads, cX10_leads, 4, (Option.some Jvm.ClassFile.FieldType.boolean))
abbrev m_X9_where : eM := (yX9_where, cX9_where, 4, (Option.some Jvm.ClassFile.FieldType.int))
abbrev m_X10_where : eM := (yX10_where, cX10_where, 3, (Option.some Jvm.ClassFile.FieldType.int))
abbrev m_X9_still : eM := (yX9_still, cX9_still, 5, (Option.some Jvm.ClassFile.FieldType.int))
abbrev m_X8_firstStill : eM := (yX8_firstStill, cX8_firstStill, 5, (Option.some Jvm.ClassFile.FieldType.int))
abbrev m_X2_hasLow : eM := (yX2_hasLow, cX2_hasLow, 8, (Option.some Jvm.ClassFile.FieldType.boolean))
abbrev m_X10_still : eM := (yX10_still, cX10_still, 4, (Option.some Jvm.ClassFile.FieldType.int))
abbrev m_X10_isSeen : eM := (yX10_isSeen, cX10_isSeen, 8, (Option.some Jvm.ClassFile.FieldType.boolean))
abbrev m_X9_weather : eM := (yX9_weather, cX9_weather, 3, (Option.some Jvm.ClassFile.FieldType.int))
abbrev m_X10_weather : eM := (yX10_weather, cX10_weather, 3, (Option.some Jvm.ClassFile.FieldType.int))
abbrev m_X9_purse : eM := (yX9_purse, cX9_purse, 3, (Option.some Jvm.ClassFile.FieldType.int))
abbrev m_X10_purse : eM := (yX10_purse, cX10_purse, 3, (Option.some Jvm.ClassFile.FieldType.int))
abbrev m_X9_story : eM := (yX9_story, cX9_story, 4, (Option.some Jvm.ClassFile.FieldType.int))
abbrev m_X10_story : eM := (yX10_story, cX10_story, 4, (Option.some Jvm.ClassFile.FieldType.int))
abbrev m_X10_isStory : eM := (yX10_isStory, cX10_isStory, 1, (Option.some Jvm.ClassFile.FieldType.boolean))
abbrev m_X9_show : eM := (yX9_show, cX9_show, 8, (Option.some Jvm.ClassFile.FieldType.int))
abbrev m_X5_add : eM := (yX5_add, cX5_add, 6, (Option.some Jvm.ClassFile.FieldType.int))
abbrev m_X10_show_ : eM := (yX10_show_, cX10_show_, 6, (Option.some Jvm.ClassFile.FieldType.int))
abbrev m_X10_areNumbers : eM := (yX10_areNumbers, cX10_areNumbers, 4, (Option.some Jvm.ClassFile.FieldType.boolean))
abbrev m_X10_setShow : eM := (yX10_setShow, cX10_setShow, 4, (Option.none : Option Jvm.ClassFile.FieldType))
abbrev m_X9_as : eM := (yX9_as, cX9_as, 3, (Option.some Jvm.ClassFile.FieldType.int))
abbrev m_X5_has : eM := (yX5_has, cX5_has, 2, (Option.some Jvm.ClassFile.FieldType.boolean))
abbrev m_X10_as : eM := (yX10_as, cX10_as, 3, (Option.some Jvm.ClassFile.FieldType.int))
abbrev m_X10_isShow : eM := (yX10_isShow, cX10_isShow, 2, (Option.some Jvm.ClassFile.FieldType.boolean))
abbrev m_X9_of : eM := (yX9_of, cX9_of, 5, (Option.some Jvm.ClassFile.FieldType.int))
abbrev m_X5_price : eM := (yX5_price, cX5_price, 2, (Option.some Jvm.ClassFile.FieldType.int))
abbrev m_X5_top : eM := (yX5_top, cX5_top, 2, (Option.some Jvm.ClassFile.FieldType.int))
abbrev m_X10_of : eM := (yX10_of, cX10_of, 5, (Option.some Jvm.ClassFile.FieldType.int))
abbrev m_X10_priceOf : eM := (yX10_priceOf, cX10_priceOf, 2, (Option.some Jvm.ClassFile.FieldType.int))
abbrev m_X10_topOf : eM := (yX10_topOf, cX10_topOf, 2, (Option.some Jvm.ClassFile.FieldType.int))
abbrev m_X9_stand : eM := (yX9_stand, cX9_stand, 3, (Option.some Jvm.ClassFile.FieldType.int))
abbrev m_X10_stand : eM := (yX10_stand, cX10_stand, 4, (Option.some Jvm.ClassFile.FieldType.int))
abbrev m_X9_hands : eM := (yX9_hands, cX9_hands, 4, (Option.some Jvm.ClassFile.FieldType.int))
abbrev m_X10_hands : eM := (yX10_hands, cX10_hands, 4, (Option.some Jvm.ClassFile.FieldType.int))
abbrev m_X9_mend : eM := (yX9_mend, cX9_mend, 3, (Option.some Jvm.ClassFile.FieldType.int))
abbrev m_X10_mend : eM := (yX10_mend, cX10_mend, 2, (Option.some Jvm.ClassFile.FieldType.int))
abbrev m_X9_flight : eM := (yX9_flight, cX9_flight, 4, (Option.some Jvm.ClassFile.FieldType.int))
abbrev m_X2_addFlight : eM := (yX2_addFlight, cX2_addFlight, 5, (Option.some Jvm.ClassFile.FieldType.int))
abbrev m_X10_flight : eM := (yX10_flight, cX10_flight, 5, (Option.some Jvm.ClassFile.FieldType.int))
abbrev m_X10_isHour : eM := (yX10_isHour, cX10_isHour, 1, (Option.some Jvm.ClassFile.FieldType.boolean))
abbrev m_X9_listen : eM := (yX9_listen, cX9_listen, 2, (Option.some Jvm.ClassFile.FieldType.int))
abbrev m_X2_addListener : eM := (yX2_addListener, cX2_addListener, 2, (Option.some Jvm.ClassFile.FieldType.int))
abbrev m_X10_listen : eM := (yX10_listen, cX10_listen, 2, (Option.some Jvm.ClassFile.FieldType.int))
abbrev m_X9_tell : eM := (yX9_tell, cX9_tell, 3, (Option.some Jvm.ClassFile.FieldType.int))
abbrev m_X1_room : eM := (yX1_room, cX1_room, 1, (Option.some Jvm.ClassFile.FieldType.int))
abbrev m_X8_reportShow : eM := (yX8_reportShow, cX8_reportShow, 5, (Option.none : Option Jvm.ClassFile.FieldType))
abbrev m_X1_add : eM := (yX1_add, cX1_add, 7, (Option.none : Option Jvm.ClassFile.FieldType))
abbrev m_X10_tell : eM := (yX10_tell, cX10_tell, 2, (Option.some Jvm.ClassFile.FieldType.int))
abbrev m_X10_comes : eM := (yX10_comes, cX10_comes, 8, (Option.some Jvm.ClassFile.FieldType.int))
abbrev m_X9_prisoner : eM := (yX9_prisoner, cX9_prisoner, 3, (Option.some Jvm.ClassFile.FieldType.int))
abbrev m_X8_reportStory : eM := (yX8_reportStory, cX8_reportStory, 5, (Option.none : Option Jvm.ClassFile.FieldType))
abbrev m_X10_prisoner : eM := (yX10_prisoner, cX10_prisoner, 3, (Option.some Jvm.ClassFile.FieldType.int))
abbrev m_X9_film : eM := (yX9_film, cX9_film, 7, (Option.some Jvm.ClassFile.FieldType.int))
abbrev m_X4_isMissing : eM := (yX4_isMissing, cX4_isMissing, 2, (Option.some Jvm.ClassFile.FieldType.boolean))
abbrev m_X8_develop : eM := (yX8_develop, cX8_develop, 4, (Option.none : Option Jvm.ClassFile.FieldType))
abbrev m_X10_film : eM := (yX10_film, cX10_film, 8, (Option.some Jvm.ClassFile.FieldType.int))
abbrev m_X10_isSheet : eM := (yX10_isSheet, cX10_isSheet, 1, (Option.some Jvm.ClassFile.FieldType.boolean))
abbrev m_X9_report : eM := (yX9_report, cX9_report, 4, (Option.some Jvm.ClassFile.FieldType.int))
abbrev m_X1_credit : eM := (yX1_credit, cX1_credit, 3, (Option.some Jvm.ClassFile.FieldType.int))
abbrev m_X10_report : eM := (yX10_report, cX10_report, 3, (Option.some Jvm.ClassFile.FieldType.int))
abbrev m_X10_isReport : eM := (yX10_isReport, cX10_isReport, 2, (Option.some Jvm.ClassFile.FieldType.boolean))
abbrev m_X10_report1 : eM := (yX10_report1, cX10_report1, 3, (Option.some Jvm.ClassFile.FieldType.int))
abbrev m_X10_creditOf : eM := (yX10_creditOf, cX10_creditOf, 2, (Option.some Jvm.ClassFile.FieldType.int))
abbrev m_X9_strike : eM := (yX9_strike, cX9_strike, 5, (Option.some Jvm.ClassFile.FieldType.int))
abbrev m_X10_strike : eM := (yX10_strike, cX10_strike, 3, (Option.some Jvm.ClassFile.FieldType.int))
abbrev m_X9_fade : eM := (yX9_fade, cX9_fade, 3, (Option.some Jvm.ClassFile.FieldType.int))
abbrev m_X10_fade : eM := (yX10_fade, cX10_fade, 3, (Option.some Jvm.ClassFile.FieldType.int))
abbrev m_X9_weight : eM := (yX9_weight, cX9_weight, 2, (Option.some Jvm.ClassFile.FieldType.long))
abbrev m_X8_scalesAt : eM := (yX8_scalesAt, cX8_scalesAt, 2, (Option.some (Jvm.ClassFile.FieldType.object "GhostCoast$Scales")))
abbrev m_X3_load : eM := (yX3_load, cX3_load, 6, (Option.none : Option Jvm.ClassFile.FieldType))
abbrev m_X1_isCounted : eM := (yX1_isCounted, cX1_isCounted, 3, (Option.some Jvm.ClassFile.FieldType.boolean))
abbrev m_X3_insert : eM := (yX3_insert, cX3_insert, 5, (Option.none : Option Jvm.ClassFile.FieldType))
abbrev m_J7_fill_d0a16 : eM := (yJ7_fill_d0a16, cJ7_fill_d0a16, 5, (Option.none : Option Jvm.ClassFile.FieldType))
abbrev m_X3_put : eM := (yX3_put, cX3_put, 5, (Option.none : Option Jvm.ClassFile.FieldType))
abbrev m_X10_weight : eM := (yX10_weight, cX10_weight, 2, (Option.some Jvm.ClassFile.FieldType.long))
abbrev m_X10_gather : eM := (yX10_gather, cX10_gather, 3, (Option.none : Option Jvm.ClassFile.FieldType))
abbrev m_X10_more : eM := (yX10_more, cX10_more, 6, (Option.none : Option Jvm.ClassFile.FieldType))
abbrev m_X10_weigh : eM := (yX10_weigh, cX10_weigh, 5, (Option.none : Option Jvm.ClassFile.FieldType))
abbrev m_X9_likely : eM := (yX9_likely, cX9_likely, 3, (Option.some Jvm.ClassFile.FieldType.long))
abbrev m_X3_cleared : eM := (yX3_cleared, cX3_cleared, 10, (Option.some Jvm.ClassFile.FieldType.long))
abbrev m_X3_sum : eM := (yX3_sum, cX3_sum, 4, (Option.some Jvm.ClassFile.FieldType.long))
abbrev m_X10_likely : eM := (yX10_likely, cX10_likely, 3, (Option.some Jvm.ClassFile.FieldType.long))
abbrev m_X10_likelyOf : eM := (yX10_likelyOf, cX10_likelyOf, 5, (Option.some Jvm.ClassFile.FieldType.long))
abbrev m_X10_all : eM := (yX10_all, cX10_all, 1, (Option.some Jvm.ClassFile.FieldType.long))
abbrev m_X10_common : eM := (yX10_common, cX10_common, 10, (Option.some Jvm.ClassFile.FieldType.long))
abbrev m_X9_likeliest : eM := (yX9_likeliest, cX9_likeliest, 2, (Option.some Jvm.ClassFile.FieldType.int))
abbrev m_X3_heaviest : eM := (yX3_heaviest, cX3_heaviest, 3, (Option.some Jvm.ClassFile.FieldType.int))
abbrev m_X10_likeliest : eM := (yX10_likeliest, cX10_likeliest, 2, (Option.some Jvm.ClassFile.FieldType.int))
abbrev m_X10_greatest : eM := (yX10_greatest, cX10_greatest, 3, (Option.some Jvm.ClassFile.FieldType.int))
abbrev m_X9_counted : eM := (yX9_counted, cX9_counted, 2, (Option.some Jvm.ClassFile.FieldType.int))
abbrev m_X10_counted : eM := (yX10_counted, cX10_counted, 2, (Option.some Jvm.ClassFile.FieldType.int))
abbrev m_X9_troops : eM := (yX9_troops, cX9_troops, 3, (Option.some Jvm.ClassFile.FieldType.int))
abbrev m_X10_troops : eM := (yX10_troops, cX10_troops, 3, (Option.some Jvm.ClassFile.FieldType.int))
abbrev m_X9_shift : eM := (yX9_shift, cX9_shift, 1, (Option.some Jvm.ClassFile.FieldType.int))
abbrev m_X1_part : eM := (yX1_part, cX1_part, 8, (Option.some Jvm.ClassFile.FieldType.int))
abbrev m_X1_greatestRest : eM := (yX1_greatestRest, cX1_greatestRest, 3, (Option.some Jvm.ClassFile.FieldType.int))
abbrev m_X10_shift : eM := (yX10_shift, cX10_shift, 4, (Option.some Jvm.ClassFile.FieldType.int))
abbrev m_X9_held : eM := (yX9_held, cX9_held, 2, (Option.some Jvm.ClassFile.FieldType.int))
abbrev m_X10_held : eM := (yX10_held, cX10_held, 2, (Option.some Jvm.ClassFile.FieldType.int))
abbrev m_X9_feed : eM := (yX9_feed, cX9_feed, 4, (Option.some Jvm.ClassFile.FieldType.int))
abbrev m_X6_add : eM := (yX6_add, cX6_add, 2, (Option.none : Option Jvm.ClassFile.FieldType))
abbrev m_X10_feed : eM := (yX10_feed, cX10_feed, 4, (Option.some Jvm.ClassFile.FieldType.int))
abbrev m_X9_text : eM := (yX9_text, cX9_text, 4, (Option.some Jvm.ClassFile.FieldType.int))
abbrev m_X6_faultOf : eM := (yX6_faultOf, cX6_faultOf, 4, (Option.some Jvm.ClassFile.FieldType.int))
abbrev m_X6_readClause : eM := (yX6_readClause, cX6_readClause, 5, (Option.some Jvm.ClassFile.FieldType.boolean))
abbrev m_X6_choose : eM := (yX6_choose, cX6_choose, 7, (Option.some Jvm.ClassFile.FieldType.int))
abbrev m_J0_length_8abf5 : eM := (yJ0_length_8abf5, cJ0_length_8abf5, 1, (Option.some Jvm.ClassFile.FieldType.int))
abbrev m_J0_coder_7d493 : eM := (yJ0_coder_7d493, cJ0_coder_7d493, 1, (Option.some Jvm.ClassFile.FieldType.byte))
abbrev m_J0_charAt_5068e : eM := (yJ0_charAt_5068e, cJ0_charAt_5068e, 2, (Option.some Jvm.ClassFile.FieldType.char))
abbrev m_J0_isLatin1_aae02 : eM := (yJ0_isLatin1_aae02, cJ0_isLatin1_aae02, 1, (Option.some Jvm.ClassFile.FieldType.boolean))
abbrev m_J1_charAt_3b067 : eM := (yJ1_charAt_3b067, cJ1_charAt_3b067, 2, (Option.some Jvm.ClassFile.FieldType.char))
abbrev m_J0_checkIndex_df160 : eM := (yJ0_checkIndex_df160, cJ0_checkIndex_df160, 2, (Option.none : Option Jvm.ClassFile.FieldType))
abbrev m_J3_checkIndex_8e157 : eM := (yJ3_checkIndex_8e157, cJ3_checkIndex_8e157, 3, (Option.some Jvm.ClassFile.FieldType.int))
abbrev m_X6_fitOf : eM := (yX6_fitOf, cX6_fitOf, 5, (Option.some Jvm.ClassFile.FieldType.int))
abbrev m_X6_take : eM := (yX6_take, cX6_take, 2, (Option.some Jvm.ClassFile.FieldType.boolean))
abbrev m_X6_readTests : eM := (yX6_readTests, cX6_readTests, 6, (Option.some Jvm.ClassFile.FieldType.boolean))
abbrev m_X6_readTest : eM := (yX6_readTest, cX6_readTest, 7, (Option.some Jvm.ClassFile.FieldType.boolean))
abbrev m_X7_add : eM := (yX7_add, cX7_add, 3, (Option.some Jvm.ClassFile.FieldType.int))
abbrev m_X10_text : eM := (yX10_text, cX10_text, 6, (Option.some Jvm.ClassFile.FieldType.int))
abbrev m_X10_clause : eM := (yX10_clause, cX10_clause, 5, (Option.none : Option Jvm.ClassFile.FieldType))
abbrev m_X10_word : eM := (yX10_word, cX10_word, 8, (Option.some Jvm.ClassFile.FieldType.int))
abbrev m_X10_begins : eM := (yX10_begins, cX10_begins, 3, (Option.some Jvm.ClassFile.FieldType.int))
abbrev m_X10_byteAt : eM := (yX10_byteAt, cX10_byteAt, 2, (Option.some Jvm.ClassFile.FieldType.int))
abbrev m_X10_wrong : eM := (yX10_wrong, cX10_wrong, 2, (Option.none : Option Jvm.ClassFile.FieldType))
abbrev m_X10_needs : eM := (yX10_needs, cX10_needs, 2, (Option.none : Option Jvm.ClassFile.FieldType))
abbrev m_X10_takes : eM := (yX10_takes, cX10_takes, 2, (Option.some Jvm.ClassFile.FieldType.boolean))
abbrev m_X10_test : eM := (yX10_test, cX10_test, 5, (Option.none : Option Jvm.ClassFile.FieldType))
abbrev m_X10_digits : eM := (yX10_digits, cX10_digits, 3, (Option.some Jvm.ClassFile.FieldType.int))
abbrev m_X9_wipe : eM := (yX9_wipe, cX9_wipe, 2, (Option.some Jvm.ClassFile.FieldType.int))
abbrev m_X10_wipe : eM := (yX10_wipe, cX10_wipe, 2, (Option.some Jvm.ClassFile.FieldType.int))
abbrev m_X9_drop : eM := (yX9_drop, cX9_drop, 2, (Option.some Jvm.ClassFile.FieldType.int))
abbrev m_X10_drop : eM := (yX10_drop, cX10_drop, 2, (Option.some Jvm.ClassFile.FieldType.int))
abbrev m_X9_must : eM := (yX9_must, cX9_must, 2, (Option.some Jvm.ClassFile.FieldType.int))
abbrev m_X10_must : eM := (yX10_must, cX10_must, 2, (Option.some Jvm.ClassFile.FieldType.int))
abbrev m_X9_may : eM := (yX9_may, cX9_may, 2, (Option.some Jvm.ClassFile.FieldType.int))
abbrev m_X10_may : eM := (yX10_may, cX10_may, 2, (Option.some Jvm.ClassFile.FieldType.int))
abbrev m_X9_why : eM := (yX9_why, cX9_why, 3, (Option.some Jvm.ClassFile.FieldType.int))
abbrev m_X10_why : eM := (yX10_why, cX10_why, 3, (Option.some Jvm.ClassFile.FieldType.int))
abbrev m_X9_agree : eM := (yX9_agree, cX9_agree, 5, (Option.some Jvm.ClassFile.FieldType.int))
abbrev m_X8_collectPairs : eM := (yX8_collectPairs, cX8_collectPairs, 6, (Option.some Jvm.ClassFile.FieldType.int))
abbrev m_X8_shownSet : eM := (yX8_shownSet, cX8_shownSet, 3, (Option.some Jvm.ClassFile.FieldType.int))
abbrev m_X8_eyeOn : eM := (yX8_eyeOn, cX8_eyeOn, 6, (Option.some Jvm.ClassFile.FieldType.int))
abbrev m_X8_lesserOf : eM := (yX8_lesserOf, cX8_lesserOf, 1, (Option.some Jvm.ClassFile.FieldType.int))
abbrev m_X8_greaterOf : eM := (yX8_greaterOf, cX8_greaterOf, 1, (Option.some Jvm.ClassFile.FieldType.int))
abbrev m_X8_eyeOf : eM := (yX8_eyeOf, cX8_eyeOf, 1, (Option.some Jvm.ClassFile.FieldType.int))
abbrev m_X10_agree : eM := (yX10_agree, cX10_agree, 3, (Option.some Jvm.ClassFile.FieldType.int))
abbrev m_X10_pairs : eM := (yX10_pairs, cX10_pairs, 5, (Option.some Jvm.ClassFile.FieldType.int))
abbrev m_X10_eyeOf : eM := (yX10_eyeOf, cX10_eyeOf, 5, (Option.some Jvm.ClassFile.FieldType.int))
abbrev m_X9_slip : eM := (yX9_slip, cX9_slip, 3, (Option.some Jvm.ClassFile.FieldType.int))
abbrev m_X3_leaveRoomFor : eM := (yX3_leaveRoomFor, cX3_leaveRoomFor, 3, (Option.none : Option Jvm.ClassFile.FieldType))
abbrev m_X10_slip : eM := (yX10_slip, cX10_slip, 2, (Option.some Jvm.ClassFile.FieldType.int))
abbrev m_X9_carry : eM := (yX9_carry, cX9_carry, 2, (Option.some Jvm.ClassFile.FieldType.int))
abbrev m_X8_carriersOf : eM := (yX8_carriersOf, cX8_carriersOf, 4, (Option.some Jvm.ClassFile.FieldType.int))
abbrev m_X10_carry : eM := (yX10_carry, cX10_carry, 4, (Option.some Jvm.ClassFile.FieldType.int))
abbrev m_X9_plan : eM := (yX9_plan, cX9_plan, 5, (Option.some Jvm.ClassFile.FieldType.int))
abbrev m_X5_hasAll : eM := (yX5_hasAll, cX5_hasAll, 2, (Option.some Jvm.ClassFile.FieldType.boolean))
abbrev m_J6_bitCount_0f7a4 : eM := (yJ6_bitCount_0f7a4, cJ6_bitCount_0f7a4, 1, (Option.some Jvm.ClassFile.FieldType.int))
abbrev m_X8_planFor : eM := (yX8_planFor, cX8_planFor, 19, (Option.some Jvm.ClassFile.FieldType.int))
abbrev m_X5_needsOf : eM := (yX5_needsOf, cX5_needsOf, 4, (Option.some Jvm.ClassFile.FieldType.int))
abbrev m_X5_pricesOf : eM := (yX5_pricesOf, cX5_pricesOf, 4, (Option.some Jvm.ClassFile.FieldType.int))
abbrev m_X3_putGiven : eM := (yX3_putGiven, cX3_putGiven, 4, (Option.none : Option Jvm.ClassFile.FieldType))
abbrev m_X5_credit : eM := (yX5_credit, cX5_credit, 2, (Option.some Jvm.ClassFile.FieldType.int))
abbrev m_X10_plan : eM := (yX10_plan, cX10_plan, 14, (Option.some Jvm.ClassFile.FieldType.int))
abbrev m_X10_isSet : eM := (yX10_isSet, cX10_isSet, 2, (Option.some Jvm.ClassFile.FieldType.boolean))
abbrev m_X10_ones : eM := (yX10_ones, cX10_ones, 3, (Option.some Jvm.ClassFile.FieldType.int))
abbrev m_X10_lasts : eM := (yX10_lasts, cX10_lasts, 7, (Option.some Jvm.ClassFile.FieldType.boolean))
abbrev m_X10_give : eM := (yX10_give, cX10_give, 4, (Option.none : Option Jvm.ClassFile.FieldType))
abbrev m_X10_giveOf : eM := (yX10_giveOf, cX10_giveOf, 3, (Option.some Jvm.ClassFile.FieldType.int))
abbrev m_X9_judge : eM := (yX9_judge, cX9_judge, 5, (Option.some Jvm.ClassFile.FieldType.long))
abbrev m_X10_judge : eM := (yX10_judge, cX10_judge, 4, (Option.some Jvm.ClassFile.FieldType.long))
abbrev m_X9_last : eM := (yX9_last, cX9_last, 4, (Option.some Jvm.ClassFile.FieldType.int))
abbrev m_X8_firstDayWithout : eM := (yX8_firstDayWithout, cX8_firstDayWithout, 4, (Option.some Jvm.ClassFile.FieldType.int))
abbrev m_X3_putDaily : eM := (yX3_putDaily, cX3_putDaily, 7, (Option.none : Option Jvm.ClassFile.FieldType))
abbrev m_X10_last : eM := (yX10_last, cX10_last, 7, (Option.some Jvm.ClassFile.FieldType.int))
abbrev m_X9_tick : eM := (yX9_tick, cX9_tick, 3, (Option.some Jvm.ClassFile.FieldType.int))
abbrev m_X8_closeHour : eM := (yX8_closeHour, cX8_closeHour, 2, (Option.none : Option Jvm.ClassFile.FieldType))
abbrev m_X5_breakBy : eM := (yX5_breakBy, cX5_breakBy, 3, (Option.none : Option Jvm.ClassFile.FieldType))
abbrev m_X2_isSeeing : eM := (yX2_isSeeing, cX2_isSeeing, 4, (Option.some Jvm.ClassFile.FieldType.boolean))
abbrev m_X8_seeShows : eM := (yX8_seeShows, cX8_seeShows, 5, (Option.none : Option Jvm.ClassFile.FieldType))
abbrev m_X8_seeUnits : eM := (yX8_seeUnits, cX8_seeUnits, 6, (Option.none : Option Jvm.ClassFile.FieldType))
abbrev m_X8_hearNets : eM := (yX8_hearNets, cX8_hearNets, 3, (Option.none : Option Jvm.ClassFile.FieldType))
abbrev m_X8_findPapers : eM := (yX8_findPapers, cX8_findPapers, 2, (Option.none : Option Jvm.ClassFile.FieldType))
abbrev m_X0_march : eM := (yX0_march, cX0_march, 3, (Option.none : Option Jvm.ClassFile.FieldType))
abbrev m_X8_closeDay : eM := (yX8_closeDay, cX8_closeDay, 3, (Option.none : Option Jvm.ClassFile.FieldType))
abbrev m_X5_pay : eM := (yX5_pay, cX5_pay, 4, (Option.some Jvm.ClassFile.FieldType.int))
abbrev m_X5_handsOfAll : eM := (yX5_handsOfAll, cX5_handsOfAll, 3, (Option.some Jvm.ClassFile.FieldType.int))
abbrev m_X5_standing : eM := (yX5_standing, cX5_standing, 3, (Option.some Jvm.ClassFile.FieldType.int))
abbrev m_X1_knownBy : eM := (yX1_knownBy, cX1_knownBy, 4, (Option.some Jvm.ClassFile.FieldType.int))
abbrev m_X10_tick : eM := (yX10_tick, cX10_tick, 3, (Option.some Jvm.ClassFile.FieldType.int))
abbrev m_X10_oneHour : eM := (yX10_oneHour, cX10_oneHour, 2, (Option.none : Option Jvm.ClassFile.FieldType))
abbrev m_X10_storm : eM := (yX10_storm, cX10_storm, 3, (Option.none : Option Jvm.ClassFile.FieldType))
abbrev m_X10_flies : eM := (yX10_flies, cX10_flies, 9, (Option.none : Option Jvm.ClassFile.FieldType))
abbrev m_X10_listens : eM := (yX10_listens, cX10_listens, 4, (Option.none : Option Jvm.ClassFile.FieldType))
abbrev m_X10_papers : eM := (yX10_papers, cX10_papers, 4, (Option.none : Option Jvm.ClassFile.FieldType))
abbrev m_X10_marches : eM := (yX10_marches, cX10_marches, 2, (Option.none : Option Jvm.ClassFile.FieldType))
abbrev m_X10_closes : eM := (yX10_closes, cX10_closes, 3, (Option.none : Option Jvm.ClassFile.FieldType))
abbrev m_X10_standing : eM := (yX10_standing, cX10_standing, 3, (Option.some Jvm.ClassFile.FieldType.int))
abbrev m_X10_knownBy : eM := (yX10_knownBy, cX10_knownBy, 4, (Option.some Jvm.ClassFile.FieldType.int))
abbrev m_X9_book : eM := (yX9_book, cX9_book, 3, (Option.some Jvm.ClassFile.FieldType.int))
abbrev m_X8_isClosed : eM := (yX8_isClosed, cX8_isClosed, 2, (Option.some Jvm.ClassFile.FieldType.boolean))
abbrev m_X10_book : eM := (yX10_book, cX10_book, 3, (Option.some Jvm.ClassFile.FieldType.int))
abbrev m_X10_isClosed : eM := (yX10_isClosed, cX10_isClosed, 2, (Option.some Jvm.ClassFile.FieldType.boolean))
abbrev m_X9_check : eM := (yX9_check, cX9_check, 5, (Option.some Jvm.ClassFile.FieldType.int))
abbrev m_X10_check : eM := (yX10_check, cX10_check, 4, (Option.some Jvm.ClassFile.FieldType.int))
abbrev m_X10_isCloud : eM := (yX10_isCloud, cX10_isCloud, 3, (Option.some Jvm.ClassFile.FieldType.boolean))
abbrev m_X9_known : eM := (yX9_known, cX9_known, 2, (Option.some Jvm.ClassFile.FieldType.int))
abbrev m_X10_known : eM := (yX10_known, cX10_known, 2, (Option.some Jvm.ClassFile.FieldType.int))
abbrev m_X9_sheet : eM := (yX9_sheet, cX9_sheet, 4, (Option.some Jvm.ClassFile.FieldType.int))
abbrev m_J7_fill_53178 : eM := (yJ7_fill_53178, cJ7_fill_53178, 4, (Option.none : Option Jvm.ClassFile.FieldType))
abbrev m_X10_sheet : eM := (yX10_sheet, cX10_sheet, 5, (Option.some Jvm.ClassFile.FieldType.int))
abbrev m_X9_write : eM := (yX9_write, cX9_write, 4, (Option.some Jvm.ClassFile.FieldType.int))
abbrev m_X10_write : eM := (yX10_write, cX10_write, 4, (Option.some Jvm.ClassFile.FieldType.int))
abbrev m_X9_read : eM := (yX9_read, cX9_read, 3, (Option.some Jvm.ClassFile.FieldType.int))
abbrev m_X10_read : eM := (yX10_read, cX10_read, 3, (Option.some Jvm.ClassFile.FieldType.int))
abbrev m_X9_copy : eM := (yX9_copy, cX9_copy, 6, (Option.some Jvm.ClassFile.FieldType.int))
abbrev m_X4_hasRange : eM := (yX4_hasRange, cX4_hasRange, 4, (Option.some Jvm.ClassFile.FieldType.boolean))
abbrev m_X10_copy : eM := (yX10_copy, cX10_copy, 7, (Option.some Jvm.ClassFile.FieldType.int))
abbrev m_X9_image : eM := (yX9_image, cX9_image, 1, (Option.some Jvm.ClassFile.FieldType.int))
abbrev m_X8_become : eM := (yX8_become, cX8_become, 2, (Option.none : Option Jvm.ClassFile.FieldType))
abbrev m_X0_become : eM := (yX0_become, cX0_become, 2, (Option.none : Option Jvm.ClassFile.FieldType))
abbrev m_X5_become : eM := (yX5_become, cX5_become, 2, (Option.none : Option Jvm.ClassFile.FieldType))
abbrev m_X2_become : eM := (yX2_become, cX2_become, 2, (Option.none : Option Jvm.ClassFile.FieldType))
abbrev m_X1_become : eM := (yX1_become, cX1_become, 2, (Option.none : Option Jvm.ClassFile.FieldType))
abbrev m_X7_become : eM := (yX7_become, cX7_become, 2, (Option.none : Option Jvm.ClassFile.FieldType))
abbrev m_X10_image : eM := (yX10_image, cX10_image, 2, (Option.some Jvm.ClassFile.FieldType.int))
abbrev m_X9_undo : eM := (yX9_undo, cX9_undo, 1, (Option.some Jvm.ClassFile.FieldType.int))
abbrev m_X10_undo : eM := (yX10_undo, cX10_undo, 2, (Option.some Jvm.ClassFile.FieldType.int))
abbrev m_X9_tear : eM := (yX9_tear, cX9_tear, 2, (Option.some Jvm.ClassFile.FieldType.int))
abbrev m_X10_tear : eM := (yX10_tear, cX10_tear, 2, (Option.some Jvm.ClassFile.FieldType.int))
abbrev m_X9_count : eM := (yX9_count, cX9_count, 2, (Option.some Jvm.ClassFile.FieldType.int))
abbrev m_X10_count : eM := (yX10_count, cX10_count, 2, (Option.some Jvm.ClassFile.FieldType.int))
abbrev m_X9_status : eM := (yX9_status, cX9_status, 7, (Option.some Jvm.ClassFile.FieldType.int))
abbrev m_X10_status : eM := (yX10_status, cX10_status, 4, (Option.some Jvm.ClassFile.FieldType.int))
theorem wc_X9_isIn : eWc m_X9_isIn 2 := ⟨eTb_t 461 (by decide +kernel) rfl, eTb_t 1 (by decide +kernel) rfl, ⟨by decide +kernel, by decide +kernel, by decide +kernel⟩, by decide +kernel, by decide⟩
theorem ml_RX9_37 : Cond.methodLink RX9 37 yX9_isIn ∈ eTb := eTb_t 459 (by decide +kernel) rfl
theorem sm_X9_isIn : Cond.static yX9_isIn ∈ eTb := eTb_t 460 (by decide +kernel) rfl
theorem ld_RX9_41 : Cond.constant RX9 41 (-1000001) ∈ eTb := eTb_t 462 (by decide +kernel) rfl
theorem fl_RX9_33 : eFl RX9 33 9 5 := ⟨_, _, _, rfl, ein_9, by decide, eTb_t 441 (by decide +kernel) rfl⟩
theorem lC_0 : layC[0]? = some (.inr (.inr (9, [some 1, some 73, none, some 145, some 147, some 155]))) := rfl
theorem lC_155 : layC[155]? = some (.inl (0, 7)) := rfl
theorem wc_X9_found : eWc m_X9_found 1 := ⟨eTb_t 466 (by decide +kernel) rfl, eTb_t 1 (by decide +kernel) rfl, ⟨by decide +kernel, by decide +kernel, by decide +kernel⟩, by decide +kernel, by decide⟩
theorem ml_RX9_42 : Cond.methodLink RX9 42 yX9_found ∈ eTb := eTb_t 463 (by decide +kernel) rfl
theorem im_X9_found : Cond.instanceMethod yX9_found ∈ eTb := eTb_t 465 (by decide +kernel) rfl
theorem se_X9_found : Cond.selects yX9_found.cls yX9_found yX9_found ∈ eTb := eTb_p 0 (by decide +kernel) rfl
theorem fl_RX9_12 : eFl RX9 12 9 0 := ⟨_, _, _, rfl, ein_9, by decide, eTb_t 436 (by decide +kernel) rfl⟩
theorem fl_RX9_46 : eFl RX9 46 8 0 := ⟨_, _, _, rfl, ein_8, by decide, eTb_t 364 (by decide +kernel) rfl⟩
theorem lC_1 : layC[1]? = some (.inr (.inr (8, [some 2, some 12, some 23, some 29, some 40, some 53, some 54, some 55, some 72]))) := rfl
theorem fl_RX9_50 : eFl RX9 50 0 0 := ⟨_, _, _, rfl, ein_0, by decide, eTb_t 41 (by decide +kernel) rfl⟩
theorem lC_2 : layC[2]? = some (.inr (.inr (0, [some 3, some 4, some 5, some 6, none, some 7, some 8, some 9, some 10, none, some 11, none, none, none, none, none]))) := rfl
theorem lC_3 : layC[3]? = some (.inl (0, 96)) := rfl
theorem wc_X10_in : eWc m_X10_in 3 := ⟨eTb_t 1238 (by decide +kernel) rfl, eTb_t 11 (by decide +kernel) rfl, ⟨by decide +kernel, by decide +kernel, by decide +kernel⟩, by decide +kernel, by decide⟩
theorem ml_RX10_58 : Cond.methodLink RX10 58 yX10_in ∈ eTb := eTb_t 1236 (by decide +kernel) rfl
theorem sm_X10_in : Cond.static yX10_in ∈ eTb := eTb_t 1237 (by decide +kernel) rfl
theorem wc_X10_isCell : eWc m_X10_isCell 1 := ⟨eTb_t 1235 (by decide +kernel) rfl, eTb_t 11 (by decide +kernel) rfl, ⟨by decide +kernel, by decide +kernel, by decide +kernel⟩, by decide +kernel, by decide⟩
theorem ml_RX10_62 : Cond.methodLink RX10 62 yX10_isCell ∈ eTb := eTb_t 1233 (by decide +kernel) rfl
theorem sm_X10_isCell : Cond.static yX10_isCell ∈ eTb := eTb_t 1234 (by decide +kernel) rfl
theorem fl_RX10_29 : eFl RX10 29 10 8 := ⟨_, _, _, rfl, ein_10, by decide, eTb_t 1170 (by decide +kernel) rfl⟩
theorem lR_0 : layR[0]? = some (.inr (.inr (10, [some 1, some 2, none, none, some 3, some 4, some 5, some 6, some 7, some 8, some 9, some 10, some 11, none, some 12, some 13, some 14, none, none, none, none, some 15]))) := rfl
theorem lR_7 : layR[7]? = some (.inl (0, 8)) := rfl
theorem ld_RX10_57 : Cond.constant RX10 57 (-1000000) ∈ eTb := eTb_t 1243 (by decide +kernel) rfl
theorem wc_X10_finding : eWc m_X10_finding 1 := ⟨eTb_t 1242 (by decide +kernel) rfl, eTb_t 11 (by decide +kernel) rfl, ⟨by decide +kernel, by decide +kernel, by decide +kernel⟩, by decide +kernel, by decide⟩
theorem ml_RX10_66 : Cond.methodLink RX10 66 yX10_finding ∈ eTb := eTb_t 1239 (by decide +kernel) rfl
theorem im_X10_finding : Cond.instanceMethod yX10_finding ∈ eTb := eTb_t 1241 (by decide +kernel) rfl
theorem se_X10_finding : Cond.selects yX10_finding.cls yX10_finding yX10_finding ∈ eTb := eTb_p 16 (by decide +kernel) rfl
theorem fl_RX10_7 : eFl RX10 7 10 0 := ⟨_, _, _, rfl, ein_10, by decide, eTb_t 1162 (by decide +kernel) rfl⟩
theorem lR_1 : layR[1]? = some (.inl (0, 2900)) := rfl
theorem wc_X9_isBetween : eWc m_X9_isBetween 3 := ⟨eTb_t 473 (by decide +kernel) rfl, eTb_t 1 (by decide +kernel) rfl, ⟨by decide +kernel, by decide +kernel, by decide +kernel⟩, by decide +kernel, by decide⟩
theorem ml_RX9_55 : Cond.methodLink RX9 55 yX9_isBetween ∈ eTb := eTb_t 471 (by decide +kernel) rfl
theorem sm_X9_isBetween : Cond.static yX9_isBetween ∈ eTb := eTb_t 472 (by decide +kernel) rfl
theorem fl_RX9_59 : eFl RX9 59 0 4 := ⟨_, _, _, rfl, ein_0, by decide, eTb_t 51 (by decide +kernel) rfl⟩
theorem fl_RX0_39 : eFl RX0 39 0 4 := ⟨_, _, _, rfl, ein_0, by decide, eTb_t 50 (by decide +kernel) rfl⟩
theorem mn_RX0_43 : Cond.methodLinkNest RX0 43 yX9_isIn "GhostCoast" ∈ eNest := eNest_t 479 (by decide +kernel) rfl
theorem fl_RX0_15 : eFl RX0 15 0 1 := ⟨_, _, _, rfl, ein_0, by decide, eTb_t 43 (by decide +kernel) rfl⟩
theorem lC_4 : layC[4]? = some (.inl (0, 40)) := rfl
theorem fl_RX0_18 : eFl RX0 18 0 2 := ⟨_, _, _, rfl, ein_0, by decide, eTb_t 45 (by decide +kernel) rfl⟩
theorem lC_5 : layC[5]? = some (.inl (0, 40)) := rfl
theorem fl_RX0_21 : eFl RX0 21 0 3 := ⟨_, _, _, rfl, ein_0, by decide, eTb_t 47 (by decide +kernel) rfl⟩
theorem lC_6 : layC[6]? = some (.inl (0, 40)) := rfl
theorem fp_RX0_39 : eFp RX0 39 0 4 .int := ⟨_, _, _, tyX0, rfl, ein_0, by decide, eTb_t 50 (by decide +kernel) rfl, tyX0_ok, nmX0, by decide, by decide +kernel⟩
theorem wc_X0_addRoad : eWc m_X0_addRoad 3 := ⟨eTb_t 478 (by decide +kernel) rfl, eTb_t 3 (by decide +kernel) rfl, ⟨by decide +kernel, by decide +kernel, by decide +kernel⟩, by decide +kernel, by decide⟩
theorem ml_RX9_64 : Cond.methodLink RX9 64 yX0_addRoad ∈ eTb := eTb_t 475 (by decide +kernel) rfl
theorem im_X0_addRoad : Cond.instanceMethod yX0_addRoad ∈ eTb := eTb_t 476 (by decide +kernel) rfl
theorem se_X0_addRoad : Cond.selects yX0_addRoad.cls yX0_addRoad yX0_addRoad ∈ eTb := eTb_t 477 (by decide +kernel) rfl
theorem ld_RX9_63 : Cond.constant RX9 63 (-1000002) ∈ eTb := eTb_t 474 (by decide +kernel) rfl
theorem wc_X10_road : eWc m_X10_road 2 := ⟨eTb_t 1250 (by decide +kernel) rfl, eTb_t 11 (by decide +kernel) rfl, ⟨by decide +kernel, by decide +kernel, by decide +kernel⟩, by decide +kernel, by decide⟩
theorem ml_RX10_70 : Cond.methodLink RX10 70 yX10_road ∈ eTb := eTb_t 1248 (by decide +kernel) rfl
theorem sm_X10_road : Cond.static yX10_road ∈ eTb := eTb_t 1249 (by decide +kernel) rfl
theorem fl_RX9_68 : eFl RX9 68 0 9 := ⟨_, _, _, rfl, ein_0, by decide, eTb_t 62 (by decide +kernel) rfl⟩
theorem fl_RX0_47 : eFl RX0 47 0 9 := ⟨_, _, _, rfl, ein_0, by decide, eTb_t 61 (by decide +kernel) rfl⟩
theorem fl_RX0_24 : eFl RX0 24 0 5 := ⟨_, _, _, rfl, ein_0, by decide, eTb_t 52 (by decide +kernel) rfl⟩
theorem lC_7 : layC[7]? = some (.inl (0, 12)) := rfl
theorem fl_RX0_27 : eFl RX0 27 0 6 := ⟨_, _, _, rfl, ein_0, by decide, eTb_t 55 (by decide +kernel) rfl⟩
theorem lC_8 : layC[8]? = some (.inl (0, 12)) := rfl
theorem fl_RX0_30 : eFl RX0 30 0 7 := ⟨_, _, _, rfl, ein_0, by decide, eTb_t 57 (by decide +kernel) rfl⟩
theorem lC_9 : layC[9]? = some (.inl (0, 12)) := rfl
theorem fl_RX0_33 : eFl RX0 33 0 8 := ⟨_, _, _, rfl, ein_0, by decide, eTb_t 59 (by decide +kernel) rfl⟩
theorem lC_10 : layC[10]? = some (.inl (0, 12)) := rfl
theorem fp_RX0_47 : eFp RX0 47 0 9 .int := ⟨_, _, _, tyX0, rfl, ein_0, by decide, eTb_t 61 (by decide +kernel) rfl, tyX0_ok, nmX0, by decide, by decide +kernel⟩
theorem wc_X0_addUnit : eWc m_X0_addUnit 2 := ⟨eTb_t 487 (by decide +kernel) rfl, eTb_t 3 (by decide +kernel) rfl, ⟨by decide +kernel, by decide +kernel, by decide +kernel⟩, by decide +kernel, by decide⟩
theorem ml_RX9_71 : Cond.methodLink RX9 71 yX0_addUnit ∈ eTb := eTb_t 484 (by decide +kernel) rfl
theorem im_X0_addUnit : Cond.instanceMethod yX0_addUnit ∈ eTb := eTb_t 485 (by decide +kernel) rfl
theorem se_X0_addUnit : Cond.selects yX0_addUnit.cls yX0_addUnit yX0_addUnit ∈ eTb := eTb_t 486 (by decide +kernel) rfl
theorem wc_X10_unitAt : eWc m_X10_unitAt 2 := ⟨eTb_t 1257 (by decide +kernel) rfl, eTb_t 11 (by decide +kernel) rfl, ⟨by decide +kernel, by decide +kernel, by decide +kernel⟩, by decide +kernel, by decide⟩
theorem ml_RX10_74 : Cond.methodLink RX10 74 yX10_unitAt ∈ eTb := eTb_t 1255 (by decide +kernel) rfl
theorem sm_X10_unitAt : Cond.static yX10_unitAt ∈ eTb := eTb_t 1256 (by decide +kernel) rfl
theorem wc_X0_isOnRoad : eWc m_X0_isOnRoad 1 := ⟨eTb_t 495 (by decide +kernel) rfl, eTb_t 3 (by decide +kernel) rfl, ⟨by decide +kernel, by decide +kernel, by decide +kernel⟩, by decide +kernel, by decide⟩
theorem ml_RX9_75 : Cond.methodLink RX9 75 yX0_isOnRoad ∈ eTb := eTb_t 492 (by decide +kernel) rfl
theorem im_X0_isOnRoad : Cond.instanceMethod yX0_isOnRoad ∈ eTb := eTb_t 493 (by decide +kernel) rfl
theorem se_X0_isOnRoad : Cond.selects yX0_isOnRoad.cls yX0_isOnRoad yX0_isOnRoad ∈ eTb := eTb_t 494 (by decide +kernel) rfl
theorem ld_RX9_82 : Cond.constant RX9 82 (-1000005) ∈ eTb := eTb_t 531 (by decide +kernel) rfl
theorem fl_RX8_21 : eFl RX8 21 8 1 := ⟨_, _, _, rfl, ein_8, by decide, eTb_t 365 (by decide +kernel) rfl⟩
theorem fl_RX8_123 : eFl RX8 123 5 10 := ⟨_, _, _, rfl, ein_5, by decide, eTb_t 154 (by decide +kernel) rfl⟩
theorem lC_12 : layC[12]? = some (.inr (.inr (5, [some 13, some 14, some 15, some 16, some 17, some 18, some 19, some 20, some 21, some 22, none]))) := rfl
theorem fl_RX8_98 : eFl RX8 98 5 0 := ⟨_, _, _, rfl, ein_5, by decide, eTb_t 123 (by decide +kernel) rfl⟩
theorem lC_13 : layC[13]? = some (.inl (0, 20)) := rfl
theorem fl_RX8_130 : eFl RX8 130 5 3 := ⟨_, _, _, rfl, ein_5, by decide, eTb_t 134 (by decide +kernel) rfl⟩
theorem lC_16 : layC[16]? = some (.inl (0, 20)) := rfl
theorem fl_RX8_105 : eFl RX8 105 5 5 := ⟨_, _, _, rfl, ein_5, by decide, eTb_t 140 (by decide +kernel) rfl⟩
theorem lC_18 : layC[18]? = some (.inl (2, 20)) := rfl
theorem fl_RX8_109 : eFl RX8 109 5 7 := ⟨_, _, _, rfl, ein_5, by decide, eTb_t 146 (by decide +kernel) rfl⟩
theorem lC_20 : layC[20]? = some (.inl (2, 20)) := rfl
theorem fl_RX8_89 : eFl RX8 89 5 8 := ⟨_, _, _, rfl, ein_5, by decide, eTb_t 149 (by decide +kernel) rfl⟩
theorem lC_21 : layC[21]? = some (.inl (0, 20)) := rfl
theorem fx_RX5_51 : Cond.fieldLinkNest RX5 51 "GhostCoast" "NEEDS" "[I" "GhostCoast" ∈ eNest := eNest_t 508 (by decide +kernel) rfl
theorem fl_RX5_9 : eFl RX5 9 5 0 := ⟨_, _, _, rfl, ein_5, by decide, eTb_t 122 (by decide +kernel) rfl⟩
theorem wc_X5_need : eWc m_X5_need 1 := ⟨eTb_t 507 (by decide +kernel) rfl, eTb_t 4 (by decide +kernel) rfl, ⟨by decide +kernel, by decide +kernel, by decide +kernel⟩, by decide +kernel, by decide⟩
theorem ml_RX8_112 : Cond.methodLink RX8 112 yX5_need ∈ eTb := eTb_t 504 (by decide +kernel) rfl
theorem im_X5_need : Cond.instanceMethod yX5_need ∈ eTb := eTb_t 505 (by decide +kernel) rfl
theorem se_X5_need : Cond.selects yX5_need.cls yX5_need yX5_need ∈ eTb := eTb_t 506 (by decide +kernel) rfl
theorem fl_RX8_42 : eFl RX8 42 8 4 := ⟨_, _, _, rfl, ein_8, by decide, eTb_t 371 (by decide +kernel) rfl⟩
theorem fl_RX8_12 : eFl RX8 12 8 0 := ⟨_, _, _, rfl, ein_8, by decide, eTb_t 363 (by decide +kernel) rfl⟩
theorem fl_RX8_85 : eFl RX8 85 0 11 := ⟨_, _, _, rfl, ein_0, by decide, eTb_t 67 (by decide +kernel) rfl⟩
theorem fl_RX8_60 : eFl RX8 60 8 8 := ⟨_, _, _, rfl, ein_8, by decide, eTb_t 378 (by decide +kernel) rfl⟩
theorem lC_72 : layC[72]? = some (.inl (0, 5)) := rfl
theorem fl_RX8_92 : eFl RX8 92 5 1 := ⟨_, _, _, rfl, ein_5, by decide, eTb_t 126 (by decide +kernel) rfl⟩
theorem lC_14 : layC[14]? = some (.inl (0, 20)) := rfl
theorem fl_RX8_95 : eFl RX8 95 5 2 := ⟨_, _, _, rfl, ein_5, by decide, eTb_t 130 (by decide +kernel) rfl⟩
theorem lC_15 : layC[15]? = some (.inl (0, 20)) := rfl
theorem fl_RX7_49 : eFl RX7 49 7 4 := ⟨_, _, _, rfl, ein_7, by decide, eTb_t 292 (by decide +kernel) rfl⟩
theorem lC_40 : layC[40]? = some (.inr (.inr (7, [some 41, some 42, some 43, some 44, none, some 45, some 46, some 47, some 48, some 49, some 50, some 51, some 52]))) := rfl
theorem fl_RX7_18 : eFl RX7 18 7 2 := ⟨_, _, _, rfl, ein_7, by decide, eTb_t 288 (by decide +kernel) rfl⟩
theorem lC_43 : layC[43]? = some (.inl (2, 8)) := rfl
theorem fl_RX7_9 : eFl RX7 9 7 0 := ⟨_, _, _, rfl, ein_7, by decide, eTb_t 286 (by decide +kernel) rfl⟩
theorem lC_41 : layC[41]? = some (.inl (0, 8)) := rfl
theorem fl_RX7_15 : eFl RX7 15 7 1 := ⟨_, _, _, rfl, ein_7, by decide, eTb_t 287 (by decide +kernel) rfl⟩
theorem lC_42 : layC[42]? = some (.inl (0, 8)) := rfl
theorem mn_RX7_57 : Cond.methodLinkNest RX7 57 yX9_isBetween "GhostCoast" ∈ eNest := eNest_t 518 (by decide +kernel) rfl
theorem fl_RX7_22 : eFl RX7 22 7 3 := ⟨_, _, _, rfl, ein_7, by decide, eTb_t 290 (by decide +kernel) rfl⟩
theorem lC_44 : layC[44]? = some (.inl (0, 8)) := rfl
theorem fl_RX7_28 : eFl RX7 28 7 6 := ⟨_, _, _, rfl, ein_7, by decide, eTb_t 297 (by decide +kernel) rfl⟩
theorem lC_46 : layC[46]? = some (.inl (0, 80)) := rfl
theorem wc_X9_isUnder : eWc m_X9_isUnder 2 := ⟨eTb_t 521 (by decide +kernel) rfl, eTb_t 1 (by decide +kernel) rfl, ⟨by decide +kernel, by decide +kernel, by decide +kernel⟩, by decide +kernel, by decide⟩
theorem mn_RX7_61 : Cond.methodLinkNest RX7 61 yX9_isUnder "GhostCoast" ∈ eNest := eNest_t 519 (by decide +kernel) rfl
theorem sm_X9_isUnder : Cond.static yX9_isUnder ∈ eTb := eTb_t 520 (by decide +kernel) rfl
theorem fl_RX7_31 : eFl RX7 31 7 7 := ⟨_, _, _, rfl, ein_7, by decide, eTb_t 299 (by decide +kernel) rfl⟩
theorem lC_47 : layC[47]? = some (.inl (0, 80)) := rfl
theorem fl_RX7_37 : eFl RX7 37 7 9 := ⟨_, _, _, rfl, ein_7, by decide, eTb_t 303 (by decide +kernel) rfl⟩
theorem lC_49 : layC[49]? = some (.inl (2, 320)) := rfl
theorem fl_RX7_40 : eFl RX7 40 7 10 := ⟨_, _, _, rfl, ein_7, by decide, eTb_t 305 (by decide +kernel) rfl⟩
theorem lC_50 : layC[50]? = some (.inl (0, 320)) := rfl
theorem fl_RX7_43 : eFl RX7 43 7 11 := ⟨_, _, _, rfl, ein_7, by decide, eTb_t 307 (by decide +kernel) rfl⟩
theorem lC_51 : layC[51]? = some (.inl (0, 320)) := rfl
theorem fl_RX7_46 : eFl RX7 46 7 12 := ⟨_, _, _, rfl, ein_7, by decide, eTb_t 309 (by decide +kernel) rfl⟩
theorem lC_52 : layC[52]? = some (.inl (0, 320)) := rfl
theorem fl_RX7_34 : eFl RX7 34 7 8 := ⟨_, _, _, rfl, ein_7, by decide, eTb_t 301 (by decide +kernel) rfl⟩
theorem lC_48 : layC[48]? = some (.inl (2, 320)) := rfl
theorem wc_X7_holds : eWc m_X7_holds 2 := ⟨eTb_t 525 (by decide +kernel) rfl, eTb_t 7 (by decide +kernel) rfl, ⟨by decide +kernel, by decide +kernel, by decide +kernel⟩, by decide +kernel, by decide⟩
theorem ml_RX7_64 : Cond.methodLink RX7 64 yX7_holds ∈ eTb := eTb_t 522 (by decide +kernel) rfl
theorem im_X7_holds : Cond.instanceMethod yX7_holds ∈ eTb := eTb_t 524 (by decide +kernel) rfl
theorem se_X7_holds : Cond.selects yX7_holds.cls yX7_holds yX7_holds ∈ eTb := eTb_p 1 (by decide +kernel) rfl
theorem wc_X7_clauseAbout : eWc m_X7_clauseAbout 3 := ⟨eTb_t 517 (by decide +kernel) rfl, eTb_t 7 (by decide +kernel) rfl, ⟨by decide +kernel, by decide +kernel, by decide +kernel⟩, by decide +kernel, by decide⟩
theorem ml_RX8_101 : Cond.methodLink RX8 101 yX7_clauseAbout ∈ eTb := eTb_t 514 (by decide +kernel) rfl
theorem im_X7_clauseAbout : Cond.instanceMethod yX7_clauseAbout ∈ eTb := eTb_t 515 (by decide +kernel) rfl
theorem se_X7_clauseAbout : Cond.selects yX7_clauseAbout.cls yX7_clauseAbout yX7_clauseAbout ∈ eTb := eTb_t 516 (by decide +kernel) rfl
theorem wc_X8_clauseOf : eWc m_X8_clauseOf 1 := ⟨eTb_t 513 (by decide +kernel) rfl, eTb_t 2 (by decide +kernel) rfl, ⟨by decide +kernel, by decide +kernel, by decide +kernel⟩, by decide +kernel, by decide⟩
theorem ml_RX8_116 : Cond.methodLink RX8 116 yX8_clauseOf ∈ eTb := eTb_t 510 (by decide +kernel) rfl
theorem im_X8_clauseOf : Cond.instanceMethod yX8_clauseOf ∈ eTb := eTb_t 511 (by decide +kernel) rfl
theorem se_X8_clauseOf : Cond.selects yX8_clauseOf.cls yX8_clauseOf yX8_clauseOf ∈ eTb := eTb_t 512 (by decide +kernel) rfl
theorem mn_RX7_53 : Cond.methodLinkNest RX7 53 yX9_isIn "GhostCoast" ∈ eNest := eNest_t 530 (by decide +kernel) rfl
theorem fl_RX7_25 : eFl RX7 25 7 5 := ⟨_, _, _, rfl, ein_7, by decide, eTb_t 295 (by decide +kernel) rfl⟩
theorem lC_45 : layC[45]? = some (.inl (0, 80)) := rfl
theorem wc_X7_says : eWc m_X7_says 2 := ⟨eTb_t 529 (by decide +kernel) rfl, eTb_t 7 (by decide +kernel) rfl, ⟨by decide +kernel, by decide +kernel, by decide +kernel⟩, by decide +kernel, by decide⟩
theorem ml_RX8_119 : Cond.methodLink RX8 119 yX7_says ∈ eTb := eTb_t 526 (by decide +kernel) rfl
theorem im_X7_says : Cond.instanceMethod yX7_says ∈ eTb := eTb_t 527 (by decide +kernel) rfl
theorem se_X7_says : Cond.selects yX7_says.cls yX7_says yX7_says ∈ eTb := eTb_t 528 (by decide +kernel) rfl
theorem wc_X8_isShown : eWc m_X8_isShown 1 := ⟨eTb_t 503 (by decide +kernel) rfl, eTb_t 2 (by decide +kernel) rfl, ⟨by decide +kernel, by decide +kernel, by decide +kernel⟩, by decide +kernel, by decide⟩
theorem ml_RX8_126 : Cond.methodLink RX8 126 yX8_isShown ∈ eTb := eTb_t 500 (by decide +kernel) rfl
theorem im_X8_isShown : Cond.instanceMethod yX8_isShown ∈ eTb := eTb_t 501 (by decide +kernel) rfl
theorem se_X8_isShown : Cond.selects yX8_isShown.cls yX8_isShown yX8_isShown ∈ eTb := eTb_t 502 (by decide +kernel) rfl
theorem wc_X8_isQuiet : eWc m_X8_isQuiet 1 := ⟨eTb_t 499 (by decide +kernel) rfl, eTb_t 2 (by decide +kernel) rfl, ⟨by decide +kernel, by decide +kernel, by decide +kernel⟩, by decide +kernel, by decide⟩
theorem ml_RX9_79 : Cond.methodLink RX9 79 yX8_isQuiet ∈ eTb := eTb_t 496 (by decide +kernel) rfl
theorem im_X8_isQuiet : Cond.instanceMethod yX8_isQuiet ∈ eTb := eTb_t 497 (by decide +kernel) rfl
theorem se_X8_isQuiet : Cond.selects yX8_isQuiet.cls yX8_isQuiet yX8_isQuiet ∈ eTb := eTb_t 498 (by decide +kernel) rfl
theorem fl_RX9_83 : eFl RX9 83 0 5 := ⟨_, _, _, rfl, ein_0, by decide, eTb_t 53 (by decide +kernel) rfl⟩
theorem wc_X0_leadsFrom : eWc m_X0_leadsFrom 2 := ⟨eTb_t 535 (by decide +kernel) rfl, eTb_t 3 (by decide +kernel) rfl, ⟨by decide +kernel, by decide +kernel, by decide +kernel⟩, by decide +kernel, by decide⟩
theorem ml_RX9_86 : Cond.methodLink RX9 86 yX0_leadsFrom ∈ eTb := eTb_t 532 (by decide +kernel) rfl
theorem im_X0_leadsFrom : Cond.instanceMethod yX0_leadsFrom ∈ eTb := eTb_t 533 (by decide +kernel) rfl
theorem se_X0_leadsFrom : Cond.selects yX0_leadsFrom.cls yX0_leadsFrom yX0_leadsFrom ∈ eTb := eTb_t 534 (by decide +kernel) rfl
theorem fl_RX9_90 : eFl RX9 90 0 7 := ⟨_, _, _, rfl, ein_0, by decide, eTb_t 58 (by decide +kernel) rfl⟩
theorem fl_RX9_93 : eFl RX9 93 0 8 := ⟨_, _, _, rfl, ein_0, by decide, eTb_t 60 (by decide +kernel) rfl⟩
theorem fl_RX9_96 : eFl RX9 96 0 3 := ⟨_, _, _, rfl, ein_0, by decide, eTb_t 48 (by decide +kernel) rfl⟩
theorem fl_RX9_99 : eFl RX9 99 0 11 := ⟨_, _, _, rfl, ein_0, by decide, eTb_t 68 (by decide +kernel) rfl⟩
theorem ld_RX9_89 : Cond.constant RX9 89 (-1000003) ∈ eTb := eTb_t 536 (by decide +kernel) rfl
theorem wc_X10_isUnit : eWc m_X10_isUnit 1 := ⟨eTb_t 1265 (by decide +kernel) rfl, eTb_t 11 (by decide +kernel) rfl, ⟨by decide +kernel, by decide +kernel, by decide +kernel⟩, by decide +kernel, by decide⟩
theorem ml_RX10_83 : Cond.methodLink RX10 83 yX10_isUnit ∈ eTb := eTb_t 1262 (by decide +kernel) rfl
theorem im_X10_isUnit : Cond.instanceMethod yX10_isUnit ∈ eTb := eTb_t 1264 (by decide +kernel) rfl
theorem se_X10_isUnit : Cond.selects yX10_isUnit.cls yX10_isUnit yX10_isUnit ∈ eTb := eTb_p 17 (by decide +kernel) rfl
theorem wc_X10_isRoad : eWc m_X10_isRoad 1 := ⟨eTb_t 1269 (by decide +kernel) rfl, eTb_t 11 (by decide +kernel) rfl, ⟨by decide +kernel, by decide +kernel, by decide +kernel⟩, by decide +kernel, by decide⟩
theorem ml_RX10_86 : Cond.methodLink RX10 86 yX10_isRoad ∈ eTb := eTb_t 1266 (by decide +kernel) rfl
theorem im_X10_isRoad : Cond.instanceMethod yX10_isRoad ∈ eTb := eTb_t 1268 (by decide +kernel) rfl
theorem se_X10_isRoad : Cond.selects yX10_isRoad.cls yX10_isRoad yX10_isRoad ∈ eTb := eTb_p 18 (by decide +kernel) rfl
theorem wc_X10_show : eWc m_X10_show 2 := ⟨eTb_t 1277 (by decide +kernel) rfl, eTb_t 11 (by decide +kernel) rfl, ⟨by decide +kernel, by decide +kernel, by decide +kernel⟩, by decide +kernel, by decide⟩
theorem ml_RX10_77 : Cond.methodLink RX10 77 yX10_show ∈ eTb := eTb_t 1274 (by decide +kernel) rfl
theorem im_X10_show : Cond.instanceMethod yX10_show ∈ eTb := eTb_t 1276 (by decide +kernel) rfl
theorem se_X10_show : Cond.selects yX10_show.cls yX10_show yX10_show ∈ eTb := eTb_p 20 (by decide +kernel) rfl
theorem wc_X10_needOf : eWc m_X10_needOf 1 := ⟨eTb_t 1285 (by decide +kernel) rfl, eTb_t 11 (by decide +kernel) rfl, ⟨by decide +kernel, by decide +kernel, by decide +kernel⟩, by decide +kernel, by decide⟩
theorem ml_RX10_115 : Cond.methodLink RX10 115 yX10_needOf ∈ eTb := eTb_t 1282 (by decide +kernel) rfl
theorem im_X10_needOf : Cond.instanceMethod yX10_needOf ∈ eTb := eTb_t 1284 (by decide +kernel) rfl
theorem se_X10_needOf : Cond.selects yX10_needOf.cls yX10_needOf yX10_needOf ∈ eTb := eTb_p 22 (by decide +kernel) rfl
theorem wc_X10_isUnder : eWc m_X10_isUnder 2 := ⟨eTb_t 1300 (by decide +kernel) rfl, eTb_t 11 (by decide +kernel) rfl, ⟨by decide +kernel, by decide +kernel, by decide +kernel⟩, by decide +kernel, by decide⟩
theorem ml_RX10_112 : Cond.methodLink RX10 112 yX10_isUnder ∈ eTb := eTb_t 1298 (by decide +kernel) rfl
theorem sm_X10_isUnder : Cond.static yX10_isUnder ∈ eTb := eTb_t 1299 (by decide +kernel) rfl
theorem wc_X10_valueOf : eWc m_X10_valueOf 2 := ⟨eTb_t 1308 (by decide +kernel) rfl, eTb_t 11 (by decide +kernel) rfl, ⟨by decide +kernel, by decide +kernel, by decide +kernel⟩, by decide +kernel, by decide⟩
theorem ml_RX10_225 : Cond.methodLink RX10 225 yX10_valueOf ∈ eTb := eTb_t 1305 (by decide +kernel) rfl
theorem im_X10_valueOf : Cond.instanceMethod yX10_valueOf ∈ eTb := eTb_t 1307 (by decide +kernel) rfl
theorem se_X10_valueOf : Cond.selects yX10_valueOf.cls yX10_valueOf yX10_valueOf ∈ eTb := eTb_p 27 (by decide +kernel) rfl
theorem wc_X10_isSo : eWc m_X10_isSo 2 := ⟨eTb_t 1304 (by decide +kernel) rfl, eTb_t 11 (by decide +kernel) rfl, ⟨by decide +kernel, by decide +kernel, by decide +kernel⟩, by decide +kernel, by decide⟩
theorem ml_RX10_228 : Cond.methodLink RX10 228 yX10_isSo ∈ eTb := eTb_t 1301 (by decide +kernel) rfl
theorem im_X10_isSo : Cond.instanceMethod yX10_isSo ∈ eTb := eTb_t 1303 (by decide +kernel) rfl
theorem se_X10_isSo : Cond.selects yX10_isSo.cls yX10_isSo yX10_isSo ∈ eTb := eTb_p 26 (by decide +kernel) rfl
theorem wc_X10_isAbout : eWc m_X10_isAbout 2 := ⟨eTb_t 1297 (by decide +kernel) rfl, eTb_t 11 (by decide +kernel) rfl, ⟨by decide +kernel, by decide +kernel, by decide +kernel⟩, by decide +kernel, by decide⟩
theorem ml_RX10_231 : Cond.methodLink RX10 231 yX10_isAbout ∈ eTb := eTb_t 1294 (by decide +kernel) rfl
theorem im_X10_isAbout : Cond.instanceMethod yX10_isAbout ∈ eTb := eTb_t 1296 (by decide +kernel) rfl
theorem se_X10_isAbout : Cond.selects yX10_isAbout.cls yX10_isAbout yX10_isAbout ∈ eTb := eTb_p 25 (by decide +kernel) rfl
theorem wc_X10_clauseOf : eWc m_X10_clauseOf 1 := ⟨eTb_t 1293 (by decide +kernel) rfl, eTb_t 11 (by decide +kernel) rfl, ⟨by decide +kernel, by decide +kernel, by decide +kernel⟩, by decide +kernel, by decide⟩
theorem ml_RX10_234 : Cond.methodLink RX10 234 yX10_clauseOf ∈ eTb := eTb_t 1290 (by decide +kernel) rfl
theorem im_X10_clauseOf : Cond.instanceMethod yX10_clauseOf ∈ eTb := eTb_t 1292 (by decide +kernel) rfl
theorem se_X10_clauseOf : Cond.selects yX10_clauseOf.cls yX10_clauseOf yX10_clauseOf ∈ eTb := eTb_p 24 (by decide +kernel) rfl
theorem wc_X10_wordOf : eWc m_X10_wordOf 1 := ⟨eTb_t 1289 (by decide +kernel) rfl, eTb_t 11 (by decide +kernel) rfl, ⟨by decide +kernel, by decide +kernel, by decide +kernel⟩, by decide +kernel, by decide⟩
theorem ml_RX10_118 : Cond.methodLink RX10 118 yX10_wordOf ∈ eTb := eTb_t 1286 (by decide +kernel) rfl
theorem im_X10_wordOf : Cond.instanceMethod yX10_wordOf ∈ eTb := eTb_t 1288 (by decide +kernel) rfl
theorem se_X10_wordOf : Cond.selects yX10_wordOf.cls yX10_wordOf yX10_wordOf ∈ eTb := eTb_p 23 (by decide +kernel) rfl
theorem wc_X10_isShown : eWc m_X10_isShown 1 := ⟨eTb_t 1281 (by decide +kernel) rfl, eTb_t 11 (by decide +kernel) rfl, ⟨by decide +kernel, by decide +kernel, by decide +kernel⟩, by decide +kernel, by decide⟩
theorem ml_RX10_80 : Cond.methodLink RX10 80 yX10_isShown ∈ eTb := eTb_t 1278 (by decide +kernel) rfl
theorem im_X10_isShown : Cond.instanceMethod yX10_isShown ∈ eTb := eTb_t 1280 (by decide +kernel) rfl
theorem se_X10_isShown : Cond.selects yX10_isShown.cls yX10_isShown yX10_isShown ∈ eTb := eTb_p 21 (by decide +kernel) rfl
theorem wc_X10_isQuiet : eWc m_X10_isQuiet 1 := ⟨eTb_t 1273 (by decide +kernel) rfl, eTb_t 11 (by decide +kernel) rfl, ⟨by decide +kernel, by decide +kernel, by decide +kernel⟩, by decide +kernel, by decide⟩
theorem ml_RX10_89 : Cond.methodLink RX10 89 yX10_isQuiet ∈ eTb := eTb_t 1270 (by decide +kernel) rfl
theorem im_X10_isQuiet : Cond.instanceMethod yX10_isQuiet ∈ eTb := eTb_t 1272 (by decide +kernel) rfl
theorem se_X10_isQuiet : Cond.selects yX10_isQuiet.cls yX10_isQuiet yX10_isQuiet ∈ eTb := eTb_p 19 (by decide +kernel) rfl
theorem wc_X10_leads : eWc m_X10_leads 2 := ⟨eTb_t 1312 (by decide +kernel) rfl, eTb_t 11 (by decide +kernel) rfl, ⟨by decide +kernel, by decide +kernel, by decide +kernel⟩, by decide +kernel, by decide⟩
theorem ml_RX10_92 : Cond.methodLink RX10 92 yX10_leads ∈ eTb := eTb_t 1309 (by decide +kernel) rfl
theorem im_X10_leads : Cond.instanceMethod yX10_leads ∈ eTb := eTb_t 1311 (by decide +kernel) rfl
theorem se_X10_leads : Cond.selects yX10_leads.cls yX10_leads yX10_leads ∈ eTb := eTb_p 28 (by decide +kernel) rfl
theorem fl_RX9_102 : eFl RX9 102 0 6 := ⟨_, _, _, rfl, ein_0, by decide, eTb_t 56 (by decide +kernel) rfl⟩
theorem fl_RX8_133 : eFl RX8 133 0 3 := ⟨_, _, _, rfl, ein_0, by decide, eTb_t 49 (by decide +kernel) rfl⟩
theorem fl_RX8_28 : eFl RX8 28 8 2 := ⟨_, _, _, rfl, ein_8, by decide, eTb_t 367 (by decide +kernel) rfl⟩
theorem fl_RX8_136 : eFl RX8 136 0 1 := ⟨_, _, _, rfl, ein_0, by decide, eTb_t 44 (by decide +kernel) rfl⟩
theorem fl_RX8_139 : eFl RX8 139 0 2 := ⟨_, _, _, rfl, ein_0, by decide, eTb_t 46 (by decide +kernel) rfl⟩
theorem fl_RX2_27 : eFl RX2 27 2 4 := ⟨_, _, _, rfl, ein_2, by decide, eTb_t 194 (by decide +kernel) rfl⟩
theorem lC_23 : layC[23]? = some (.inr (.inr (2, [some 24, some 25, some 26, some 27, none, some 28, none]))) := rfl
theorem fl_RX2_15 : eFl RX2 15 2 1 := ⟨_, _, _, rfl, ein_2, by decide, eTb_t 188 (by decide +kernel) rfl⟩
theorem lC_25 : layC[25]? = some (.inl (0, 30)) := rfl
theorem fl_RX2_9 : eFl RX2 9 2 0 := ⟨_, _, _, rfl, ein_2, by decide, eTb_t 187 (by decide +kernel) rfl⟩
theorem lC_24 : layC[24]? = some (.inl (0, 30)) := rfl
theorem fl_RX2_18 : eFl RX2 18 2 2 := ⟨_, _, _, rfl, ein_2, by decide, eTb_t 190 (by decide +kernel) rfl⟩
theorem lC_26 : layC[26]? = some (.inl (0, 30)) := rfl
theorem wc_X2_hasLow : eWc m_X2_hasLow 4 := ⟨eTb_t 552 (by decide +kernel) rfl, eTb_t 5 (by decide +kernel) rfl, ⟨by decide +kernel, by decide +kernel, by decide +kernel⟩, by decide +kernel, by decide⟩
theorem ml_RX8_142 : Cond.methodLink RX8 142 yX2_hasLow ∈ eTb := eTb_t 549 (by decide +kernel) rfl
theorem im_X2_hasLow : Cond.instanceMethod yX2_hasLow ∈ eTb := eTb_t 550 (by decide +kernel) rfl
theorem se_X2_hasLow : Cond.selects yX2_hasLow.cls yX2_hasLow yX2_hasLow ∈ eTb := eTb_t 551 (by decide +kernel) rfl
theorem wc_X8_firstStill : eWc m_X8_firstStill 1 := ⟨eTb_t 548 (by decide +kernel) rfl, eTb_t 2 (by decide +kernel) rfl, ⟨by decide +kernel, by decide +kernel, by decide +kernel⟩, by decide +kernel, by decide⟩
theorem ml_RX9_105 : Cond.methodLink RX9 105 yX8_firstStill ∈ eTb := eTb_t 545 (by decide +kernel) rfl
theorem im_X8_firstStill : Cond.instanceMethod yX8_firstStill ∈ eTb := eTb_t 546 (by decide +kernel) rfl
theorem se_X8_firstStill : Cond.selects yX8_firstStill.cls yX8_firstStill yX8_firstStill ∈ eTb := eTb_t 547 (by decide +kernel) rfl
theorem ld_RX9_108 : Cond.constant RX9 108 (-1000004) ∈ eTb := eTb_t 553 (by decide +kernel) rfl
theorem wc_X10_isSeen : eWc m_X10_isSeen 3 := ⟨eTb_t 1324 (by decide +kernel) rfl, eTb_t 11 (by decide +kernel) rfl, ⟨by decide +kernel, by decide +kernel, by decide +kernel⟩, by decide +kernel, by decide⟩
theorem ml_RX10_96 : Cond.methodLink RX10 96 yX10_isSeen ∈ eTb := eTb_t 1321 (by decide +kernel) rfl
theorem im_X10_isSeen : Cond.instanceMethod yX10_isSeen ∈ eTb := eTb_t 1323 (by decide +kernel) rfl
theorem se_X10_isSeen : Cond.selects yX10_isSeen.cls yX10_isSeen yX10_isSeen ∈ eTb := eTb_p 29 (by decide +kernel) rfl
theorem fp_RX9_109 : eFp RX9 109 0 12 .int := ⟨_, _, _, tyX0, rfl, ein_0, by decide, eTb_t 71 (by decide +kernel) rfl, tyX0_ok, nmX0, by decide, by decide +kernel⟩
theorem fp_RX9_112 : eFp RX9 112 0 13 .int := ⟨_, _, _, tyX0, rfl, ein_0, by decide, eTb_t 74 (by decide +kernel) rfl, tyX0_ok, nmX0, by decide, by decide +kernel⟩
theorem fp_RX9_115 : eFp RX9 115 0 14 .int := ⟨_, _, _, tyX0, rfl, ein_0, by decide, eTb_t 77 (by decide +kernel) rfl, tyX0_ok, nmX0, by decide, by decide +kernel⟩
theorem fp_RX9_118 : eFp RX9 118 0 15 .int := ⟨_, _, _, tyX0, rfl, ein_0, by decide, eTb_t 80 (by decide +kernel) rfl, tyX0_ok, nmX0, by decide, by decide +kernel⟩
theorem fl_RX9_121 : eFl RX9 121 0 10 := ⟨_, _, _, rfl, ein_0, by decide, eTb_t 65 (by decide +kernel) rfl⟩
theorem lC_11 : layC[11]? = some (.inl (0, 4)) := rfl
theorem wc_X10_isStory : eWc m_X10_isStory 1 := ⟨eTb_t 1339 (by decide +kernel) rfl, eTb_t 11 (by decide +kernel) rfl, ⟨by decide +kernel, by decide +kernel, by decide +kernel⟩, by decide +kernel, by decide⟩
theorem ml_RX10_99 : Cond.methodLink RX10 99 yX10_isStory ∈ eTb := eTb_t 1337 (by decide +kernel) rfl
theorem sm_X10_isStory : Cond.static yX10_isStory ∈ eTb := eTb_t 1338 (by decide +kernel) rfl
theorem fx_RX9_124 : Cond.fieldLink RX9 124 "GhostCoast" "MOST_A" "[I" ∈ eTb := eTb_t 570 (by decide +kernel) rfl
theorem fx_RX9_127 : Cond.fieldLink RX9 127 "GhostCoast" "MOST_B" "[I" ∈ eTb := eTb_t 572 (by decide +kernel) rfl
theorem fl_RX9_130 : eFl RX9 130 8 1 := ⟨_, _, _, rfl, ein_8, by decide, eTb_t 366 (by decide +kernel) rfl⟩
theorem fl_RX9_134 : eFl RX9 134 5 10 := ⟨_, _, _, rfl, ein_5, by decide, eTb_t 156 (by decide +kernel) rfl⟩
theorem fl_RX5_43 : eFl RX5 43 5 10 := ⟨_, _, _, rfl, ein_5, by decide, eTb_t 153 (by decide +kernel) rfl⟩
theorem mn_RX5_47 : Cond.methodLinkNest RX5 47 yX9_isIn "GhostCoast" ∈ eNest := eNest_t 578 (by decide +kernel) rfl
theorem fl_RX5_15 : eFl RX5 15 5 1 := ⟨_, _, _, rfl, ein_5, by decide, eTb_t 125 (by decide +kernel) rfl⟩
theorem fl_RX5_18 : eFl RX5 18 5 2 := ⟨_, _, _, rfl, ein_5, by decide, eTb_t 129 (by decide +kernel) rfl⟩
theorem fl_RX5_21 : eFl RX5 21 5 3 := ⟨_, _, _, rfl, ein_5, by decide, eTb_t 132 (by decide +kernel) rfl⟩
theorem fl_RX5_24 : eFl RX5 24 5 4 := ⟨_, _, _, rfl, ein_5, by decide, eTb_t 136 (by decide +kernel) rfl⟩
theorem lC_17 : layC[17]? = some (.inl (0, 20)) := rfl
theorem fl_RX5_27 : eFl RX5 27 5 5 := ⟨_, _, _, rfl, ein_5, by decide, eTb_t 139 (by decide +kernel) rfl⟩
theorem fl_RX5_31 : eFl RX5 31 5 6 := ⟨_, _, _, rfl, ein_5, by decide, eTb_t 142 (by decide +kernel) rfl⟩
theorem lC_19 : layC[19]? = some (.inl (0, 20)) := rfl
theorem fl_RX5_34 : eFl RX5 34 5 7 := ⟨_, _, _, rfl, ein_5, by decide, eTb_t 145 (by decide +kernel) rfl⟩
theorem fl_RX5_37 : eFl RX5 37 5 8 := ⟨_, _, _, rfl, ein_5, by decide, eTb_t 148 (by decide +kernel) rfl⟩
theorem fl_RX5_40 : eFl RX5 40 5 9 := ⟨_, _, _, rfl, ein_5, by decide, eTb_t 151 (by decide +kernel) rfl⟩
theorem lC_22 : layC[22]? = some (.inl (0, 20)) := rfl
theorem fp_RX5_43 : eFp RX5 43 5 10 .int := ⟨_, _, _, tyX5, rfl, ein_5, by decide, eTb_t 153 (by decide +kernel) rfl, tyX5_ok, nmX5, by decide, by decide +kernel⟩
theorem wc_X5_add : eWc m_X5_add 5 := ⟨eTb_t 577 (by decide +kernel) rfl, eTb_t 4 (by decide +kernel) rfl, ⟨by decide +kernel, by decide +kernel, by decide +kernel⟩, by decide +kernel, by decide⟩
theorem ml_RX9_139 : Cond.methodLink RX9 139 yX5_add ∈ eTb := eTb_t 574 (by decide +kernel) rfl
theorem im_X5_add : Cond.instanceMethod yX5_add ∈ eTb := eTb_t 575 (by decide +kernel) rfl
theorem se_X5_add : Cond.selects yX5_add.cls yX5_add yX5_add ∈ eTb := eTb_t 576 (by decide +kernel) rfl
theorem wc_X10_areNumbers : eWc m_X10_areNumbers 3 := ⟨eTb_t 1347 (by decide +kernel) rfl, eTb_t 11 (by decide +kernel) rfl, ⟨by decide +kernel, by decide +kernel, by decide +kernel⟩, by decide +kernel, by decide⟩
theorem ml_RX10_102 : Cond.methodLink RX10 102 yX10_areNumbers ∈ eTb := eTb_t 1344 (by decide +kernel) rfl
theorem im_X10_areNumbers : Cond.instanceMethod yX10_areNumbers ∈ eTb := eTb_t 1346 (by decide +kernel) rfl
theorem se_X10_areNumbers : Cond.selects yX10_areNumbers.cls yX10_areNumbers yX10_areNumbers ∈ eTb := eTb_p 30 (by decide +kernel) rfl
theorem wc_X10_setShow : eWc m_X10_setShow 3 := ⟨eTb_t 1351 (by decide +kernel) rfl, eTb_t 11 (by decide +kernel) rfl, ⟨by decide +kernel, by decide +kernel, by decide +kernel⟩, by decide +kernel, by decide⟩
theorem ml_RX10_105 : Cond.methodLink RX10 105 yX10_setShow ∈ eTb := eTb_t 1348 (by decide +kernel) rfl
theorem im_X10_setShow : Cond.instanceMethod yX10_setShow ∈ eTb := eTb_t 1350 (by decide +kernel) rfl
theorem se_X10_setShow : Cond.selects yX10_setShow.cls yX10_setShow yX10_setShow ∈ eTb := eTb_p 31 (by decide +kernel) rfl
theorem wc_X5_has : eWc m_X5_has 1 := ⟨eTb_t 586 (by decide +kernel) rfl, eTb_t 4 (by decide +kernel) rfl, ⟨by decide +kernel, by decide +kernel, by decide +kernel⟩, by decide +kernel, by decide⟩
theorem ml_RX9_143 : Cond.methodLink RX9 143 yX5_has ∈ eTb := eTb_t 583 (by decide +kernel) rfl
theorem im_X5_has : Cond.instanceMethod yX5_has ∈ eTb := eTb_t 584 (by decide +kernel) rfl
theorem se_X5_has : Cond.selects yX5_has.cls yX5_has yX5_has ∈ eTb := eTb_t 585 (by decide +kernel) rfl
theorem fl_RX9_146 : eFl RX9 146 5 0 := ⟨_, _, _, rfl, ein_5, by decide, eTb_t 124 (by decide +kernel) rfl⟩
theorem ml_RX9_149 : Cond.methodLink RX9 149 yX9_isUnder ∈ eTb := eTb_t 587 (by decide +kernel) rfl
theorem wc_X10_isShow : eWc m_X10_isShow 1 := ⟨eTb_t 1359 (by decide +kernel) rfl, eTb_t 11 (by decide +kernel) rfl, ⟨by decide +kernel, by decide +kernel, by decide +kernel⟩, by decide +kernel, by decide⟩
theorem ml_RX10_109 : Cond.methodLink RX10 109 yX10_isShow ∈ eTb := eTb_t 1356 (by decide +kernel) rfl
theorem im_X10_isShow : Cond.instanceMethod yX10_isShow ∈ eTb := eTb_t 1358 (by decide +kernel) rfl
theorem se_X10_isShow : Cond.selects yX10_isShow.cls yX10_isShow yX10_isShow ∈ eTb := eTb_p 32 (by decide +kernel) rfl
theorem fl_RX9_152 : eFl RX9 152 5 1 := ⟨_, _, _, rfl, ein_5, by decide, eTb_t 128 (by decide +kernel) rfl⟩
theorem fl_RX9_155 : eFl RX9 155 5 2 := ⟨_, _, _, rfl, ein_5, by decide, eTb_t 131 (by decide +kernel) rfl⟩
theorem fl_RX9_158 : eFl RX9 158 5 5 := ⟨_, _, _, rfl, ein_5, by decide, eTb_t 141 (by decide +kernel) rfl⟩
theorem fl_RX9_162 : eFl RX9 162 5 7 := ⟨_, _, _, rfl, ein_5, by decide, eTb_t 147 (by decide +kernel) rfl⟩
theorem fl_RX9_165 : eFl RX9 165 5 8 := ⟨_, _, _, rfl, ein_5, by decide, eTb_t 150 (by decide +kernel) rfl⟩
theorem ml_RX9_168 : Cond.methodLink RX9 168 yX5_need ∈ eTb := eTb_t 592 (by decide +kernel) rfl
theorem fx_RX5_54 : Cond.fieldLinkNest RX5 54 "GhostCoast" "PRICES" "[I" "GhostCoast" ∈ eNest := eNest_t 597 (by decide +kernel) rfl
theorem wc_X5_price : eWc m_X5_price 1 := ⟨eTb_t 596 (by decide +kernel) rfl, eTb_t 4 (by decide +kernel) rfl, ⟨by decide +kernel, by decide +kernel, by decide +kernel⟩, by decide +kernel, by decide⟩
theorem ml_RX9_171 : Cond.methodLink RX9 171 yX5_price ∈ eTb := eTb_t 593 (by decide +kernel) rfl
theorem im_X5_price : Cond.instanceMethod yX5_price ∈ eTb := eTb_t 594 (by decide +kernel) rfl
theorem se_X5_price : Cond.selects yX5_price.cls yX5_price yX5_price ∈ eTb := eTb_t 595 (by decide +kernel) rfl
theorem fl_RX9_174 : eFl RX9 174 5 9 := ⟨_, _, _, rfl, ein_5, by decide, eTb_t 152 (by decide +kernel) rfl⟩
theorem ml_RX9_177 : Cond.methodLink RX9 177 yX8_isShown ∈ eTb := eTb_t 599 (by decide +kernel) rfl
theorem wc_X5_top : eWc m_X5_top 1 := ⟨eTb_t 603 (by decide +kernel) rfl, eTb_t 4 (by decide +kernel) rfl, ⟨by decide +kernel, by decide +kernel, by decide +kernel⟩, by decide +kernel, by decide⟩
theorem ml_RX9_180 : Cond.methodLink RX9 180 yX5_top ∈ eTb := eTb_t 600 (by decide +kernel) rfl
theorem im_X5_top : Cond.instanceMethod yX5_top ∈ eTb := eTb_t 601 (by decide +kernel) rfl
theorem se_X5_top : Cond.selects yX5_top.cls yX5_top yX5_top ∈ eTb := eTb_t 602 (by decide +kernel) rfl
theorem fl_RX9_183 : eFl RX9 183 5 4 := ⟨_, _, _, rfl, ein_5, by decide, eTb_t 137 (by decide +kernel) rfl⟩
theorem fl_RX9_186 : eFl RX9 186 5 3 := ⟨_, _, _, rfl, ein_5, by decide, eTb_t 135 (by decide +kernel) rfl⟩
theorem wc_X10_priceOf : eWc m_X10_priceOf 1 := ⟨eTb_t 1367 (by decide +kernel) rfl, eTb_t 11 (by decide +kernel) rfl, ⟨by decide +kernel, by decide +kernel, by decide +kernel⟩, by decide +kernel, by decide⟩
theorem ml_RX10_121 : Cond.methodLink RX10 121 yX10_priceOf ∈ eTb := eTb_t 1364 (by decide +kernel) rfl
theorem im_X10_priceOf : Cond.instanceMethod yX10_priceOf ∈ eTb := eTb_t 1366 (by decide +kernel) rfl
theorem se_X10_priceOf : Cond.selects yX10_priceOf.cls yX10_priceOf yX10_priceOf ∈ eTb := eTb_p 33 (by decide +kernel) rfl
theorem wc_X10_topOf : eWc m_X10_topOf 1 := ⟨eTb_t 1371 (by decide +kernel) rfl, eTb_t 11 (by decide +kernel) rfl, ⟨by decide +kernel, by decide +kernel, by decide +kernel⟩, by decide +kernel, by decide⟩
theorem ml_RX10_124 : Cond.methodLink RX10 124 yX10_topOf ∈ eTb := eTb_t 1368 (by decide +kernel) rfl
theorem im_X10_topOf : Cond.instanceMethod yX10_topOf ∈ eTb := eTb_t 1370 (by decide +kernel) rfl
theorem se_X10_topOf : Cond.selects yX10_topOf.cls yX10_topOf yX10_topOf ∈ eTb := eTb_p 34 (by decide +kernel) rfl
theorem fl_RX9_189 : eFl RX9 189 5 6 := ⟨_, _, _, rfl, ein_5, by decide, eTb_t 143 (by decide +kernel) rfl⟩
theorem fl_RX9_115 : eFl RX9 115 0 14 := ⟨_, _, _, rfl, ein_0, by decide, eTb_t 77 (by decide +kernel) rfl⟩
theorem ld_RX9_192 : Cond.constant RX9 192 (-1000007) ∈ eTb := eTb_t 612 (by decide +kernel) rfl
theorem fl_RX9_193 : eFl RX9 193 8 2 := ⟨_, _, _, rfl, ein_8, by decide, eTb_t 368 (by decide +kernel) rfl⟩
theorem fl_RX9_197 : eFl RX9 197 2 4 := ⟨_, _, _, rfl, ein_2, by decide, eTb_t 195 (by decide +kernel) rfl⟩
theorem mn_RX2_31 : Cond.methodLinkNest RX2 31 yX9_isIn "GhostCoast" ∈ eNest := eNest_t 625 (by decide +kernel) rfl
theorem fl_RX2_21 : eFl RX2 21 2 3 := ⟨_, _, _, rfl, ein_2, by decide, eTb_t 192 (by decide +kernel) rfl⟩
theorem lC_27 : layC[27]? = some (.inl (0, 30)) := rfl
theorem fp_RX2_27 : eFp RX2 27 2 4 .int := ⟨_, _, _, tyX2, rfl, ein_2, by decide, eTb_t 194 (by decide +kernel) rfl, tyX2_ok, nmX2, by decide, by decide +kernel⟩
theorem wc_X2_addFlight : eWc m_X2_addFlight 4 := ⟨eTb_t 624 (by decide +kernel) rfl, eTb_t 5 (by decide +kernel) rfl, ⟨by decide +kernel, by decide +kernel, by decide +kernel⟩, by decide +kernel, by decide⟩
theorem ml_RX9_202 : Cond.methodLink RX9 202 yX2_addFlight ∈ eTb := eTb_t 621 (by decide +kernel) rfl
theorem im_X2_addFlight : Cond.instanceMethod yX2_addFlight ∈ eTb := eTb_t 622 (by decide +kernel) rfl
theorem se_X2_addFlight : Cond.selects yX2_addFlight.cls yX2_addFlight yX2_addFlight ∈ eTb := eTb_t 623 (by decide +kernel) rfl
theorem wc_X10_isHour : eWc m_X10_isHour 1 := ⟨eTb_t 1390 (by decide +kernel) rfl, eTb_t 11 (by decide +kernel) rfl, ⟨by decide +kernel, by decide +kernel, by decide +kernel⟩, by decide +kernel, by decide⟩
theorem ml_RX10_127 : Cond.methodLink RX10 127 yX10_isHour ∈ eTb := eTb_t 1388 (by decide +kernel) rfl
theorem sm_X10_isHour : Cond.static yX10_isHour ∈ eTb := eTb_t 1389 (by decide +kernel) rfl
theorem fl_RX9_206 : eFl RX9 206 2 6 := ⟨_, _, _, rfl, ein_2, by decide, eTb_t 200 (by decide +kernel) rfl⟩
theorem fl_RX2_35 : eFl RX2 35 2 6 := ⟨_, _, _, rfl, ein_2, by decide, eTb_t 199 (by decide +kernel) rfl⟩
theorem fl_RX2_24 : eFl RX2 24 2 5 := ⟨_, _, _, rfl, ein_2, by decide, eTb_t 197 (by decide +kernel) rfl⟩
theorem lC_28 : layC[28]? = some (.inl (0, 30)) := rfl
theorem fp_RX2_35 : eFp RX2 35 2 6 .int := ⟨_, _, _, tyX2, rfl, ein_2, by decide, eTb_t 199 (by decide +kernel) rfl, tyX2_ok, nmX2, by decide, by decide +kernel⟩
theorem wc_X2_addListener : eWc m_X2_addListener 1 := ⟨eTb_t 633 (by decide +kernel) rfl, eTb_t 5 (by decide +kernel) rfl, ⟨by decide +kernel, by decide +kernel, by decide +kernel⟩, by decide +kernel, by decide⟩
theorem ml_RX9_209 : Cond.methodLink RX9 209 yX2_addListener ∈ eTb := eTb_t 630 (by decide +kernel) rfl
theorem im_X2_addListener : Cond.instanceMethod yX2_addListener ∈ eTb := eTb_t 631 (by decide +kernel) rfl
theorem se_X2_addListener : Cond.selects yX2_addListener.cls yX2_addListener yX2_addListener ∈ eTb := eTb_t 632 (by decide +kernel) rfl
theorem fl_RX9_212 : eFl RX9 212 8 3 := ⟨_, _, _, rfl, ein_8, by decide, eTb_t 370 (by decide +kernel) rfl⟩
theorem fl_RX1_48 : eFl RX1 48 1 7 := ⟨_, _, _, rfl, ein_1, by decide, eTb_t 240 (by decide +kernel) rfl⟩
theorem lC_29 : layC[29]? = some (.inr (.inr (1, [some 30, some 31, some 32, some 33, some 34, some 35, some 36, none, none, none, some 37, some 38, some 39]))) := rfl
theorem wc_X1_room : eWc m_X1_room 0 := ⟨eTb_t 641 (by decide +kernel) rfl, eTb_t 6 (by decide +kernel) rfl, ⟨by decide +kernel, by decide +kernel, by decide +kernel⟩, by decide +kernel, by decide⟩
theorem ml_RX9_216 : Cond.methodLink RX9 216 yX1_room ∈ eTb := eTb_t 638 (by decide +kernel) rfl
theorem im_X1_room : Cond.instanceMethod yX1_room ∈ eTb := eTb_t 639 (by decide +kernel) rfl
theorem se_X1_room : Cond.selects yX1_room.cls yX1_room yX1_room ∈ eTb := eTb_t 640 (by decide +kernel) rfl
theorem fl_RX8_35 : eFl RX8 35 8 3 := ⟨_, _, _, rfl, ein_8, by decide, eTb_t 369 (by decide +kernel) rfl⟩
theorem mn_RX1_51 : Cond.methodLinkNest RX1 51 yX9_isIn "GhostCoast" ∈ eNest := eNest_t 650 (by decide +kernel) rfl
theorem fl_RX1_9 : eFl RX1 9 1 0 := ⟨_, _, _, rfl, ein_1, by decide, eTb_t 223 (by decide +kernel) rfl⟩
theorem lC_30 : layC[30]? = some (.inl (0, 90)) := rfl
theorem fl_RX1_15 : eFl RX1 15 1 1 := ⟨_, _, _, rfl, ein_1, by decide, eTb_t 225 (by decide +kernel) rfl⟩
theorem lC_31 : layC[31]? = some (.inl (0, 90)) := rfl
theorem fl_RX1_18 : eFl RX1 18 1 2 := ⟨_, _, _, rfl, ein_1, by decide, eTb_t 228 (by decide +kernel) rfl⟩
theorem lC_32 : layC[32]? = some (.inl (2, 90)) := rfl
theorem fl_RX1_22 : eFl RX1 22 1 3 := ⟨_, _, _, rfl, ein_1, by decide, eTb_t 231 (by decide +kernel) rfl⟩
theorem lC_33 : layC[33]? = some (.inl (0, 90)) := rfl
theorem fl_RX1_25 : eFl RX1 25 1 4 := ⟨_, _, _, rfl, ein_1, by decide, eTb_t 234 (by decide +kernel) rfl⟩
theorem lC_34 : layC[34]? = some (.inl (0, 90)) := rfl
theorem fl_RX1_28 : eFl RX1 28 1 5 := ⟨_, _, _, rfl, ein_1, by decide, eTb_t 236 (by decide +kernel) rfl⟩
theorem lC_35 : layC[35]? = some (.inl (0, 90)) := rfl
theorem fl_RX1_31 : eFl RX1 31 1 6 := ⟨_, _, _, rfl, ein_1, by decide, eTb_t 238 (by decide +kernel) rfl⟩
theorem lC_36 : layC[36]? = some (.inl (2, 90)) := rfl
theorem fp_RX1_48 : eFp RX1 48 1 7 .int := ⟨_, _, _, tyX1, rfl, ein_1, by decide, eTb_t 240 (by decide +kernel) rfl, tyX1_ok, nmX1, by decide, by decide +kernel⟩
theorem wc_X1_add : eWc m_X1_add 6 := ⟨eTb_t 649 (by decide +kernel) rfl, eTb_t 6 (by decide +kernel) rfl, ⟨by decide +kernel, by decide +kernel, by decide +kernel⟩, by decide +kernel, by decide⟩
theorem ml_RX8_146 : Cond.methodLink RX8 146 yX1_add ∈ eTb := eTb_t 646 (by decide +kernel) rfl
theorem im_X1_add : Cond.instanceMethod yX1_add ∈ eTb := eTb_t 647 (by decide +kernel) rfl
theorem se_X1_add : Cond.selects yX1_add.cls yX1_add yX1_add ∈ eTb := eTb_t 648 (by decide +kernel) rfl
theorem wc_X8_reportShow : eWc m_X8_reportShow 4 := ⟨eTb_t 645 (by decide +kernel) rfl, eTb_t 2 (by decide +kernel) rfl, ⟨by decide +kernel, by decide +kernel, by decide +kernel⟩, by decide +kernel, by decide⟩
theorem ml_RX9_222 : Cond.methodLink RX9 222 yX8_reportShow ∈ eTb := eTb_t 642 (by decide +kernel) rfl
theorem im_X8_reportShow : Cond.instanceMethod yX8_reportShow ∈ eTb := eTb_t 643 (by decide +kernel) rfl
theorem se_X8_reportShow : Cond.selects yX8_reportShow.cls yX8_reportShow yX8_reportShow ∈ eTb := eTb_t 644 (by decide +kernel) rfl
theorem fl_RX9_226 : eFl RX9 226 1 7 := ⟨_, _, _, rfl, ein_1, by decide, eTb_t 242 (by decide +kernel) rfl⟩
theorem wc_X10_comes : eWc m_X10_comes 6 := ⟨eTb_t 1402 (by decide +kernel) rfl, eTb_t 11 (by decide +kernel) rfl, ⟨by decide +kernel, by decide +kernel, by decide +kernel⟩, by decide +kernel, by decide⟩
theorem ml_RX10_130 : Cond.methodLink RX10 130 yX10_comes ∈ eTb := eTb_t 1399 (by decide +kernel) rfl
theorem im_X10_comes : Cond.instanceMethod yX10_comes ∈ eTb := eTb_t 1401 (by decide +kernel) rfl
theorem se_X10_comes : Cond.selects yX10_comes.cls yX10_comes yX10_comes ∈ eTb := eTb_p 35 (by decide +kernel) rfl
theorem wc_X8_reportStory : eWc m_X8_reportStory 4 := ⟨eTb_t 658 (by decide +kernel) rfl, eTb_t 2 (by decide +kernel) rfl, ⟨by decide +kernel, by decide +kernel, by decide +kernel⟩, by decide +kernel, by decide⟩
theorem ml_RX9_227 : Cond.methodLink RX9 227 yX8_reportStory ∈ eTb := eTb_t 655 (by decide +kernel) rfl
theorem im_X8_reportStory : Cond.instanceMethod yX8_reportStory ∈ eTb := eTb_t 656 (by decide +kernel) rfl
theorem se_X8_reportStory : Cond.selects yX8_reportStory.cls yX8_reportStory yX8_reportStory ∈ eTb := eTb_t 657 (by decide +kernel) rfl
theorem fl_RX9_29 : eFl RX9 29 9 4 := ⟨_, _, _, rfl, ein_9, by decide, eTb_t 440 (by decide +kernel) rfl⟩
theorem fl_RX4_9 : eFl RX4 9 4 0 := ⟨_, _, _, rfl, ein_4, by decide, eTb_t 423 (by decide +kernel) rfl⟩
theorem lC_147 : layC[147]? = some (.inr (.inr (4, [some 148, some 149, some 150]))) := rfl
theorem lC_148 : layC[148]? = some (.inl (0, 4)) := rfl
theorem wc_X4_isMissing : eWc m_X4_isMissing 1 := ⟨eTb_t 666 (by decide +kernel) rfl, eTb_t 10 (by decide +kernel) rfl, ⟨by decide +kernel, by decide +kernel, by decide +kernel⟩, by decide +kernel, by decide⟩
theorem ml_RX9_230 : Cond.methodLink RX9 230 yX4_isMissing ∈ eTb := eTb_t 663 (by decide +kernel) rfl
theorem im_X4_isMissing : Cond.instanceMethod yX4_isMissing ∈ eTb := eTb_t 664 (by decide +kernel) rfl
theorem se_X4_isMissing : Cond.selects yX4_isMissing.cls yX4_isMissing yX4_isMissing ∈ eTb := eTb_t 665 (by decide +kernel) rfl
theorem fl_RX9_234 : eFl RX9 234 4 1 := ⟨_, _, _, rfl, ein_4, by decide, eTb_t 426 (by decide +kernel) rfl⟩
theorem lC_149 : layC[149]? = some (.inl (0, 4)) := rfl
theorem fl_RX9_237 : eFl RX9 237 4 2 := ⟨_, _, _, rfl, ein_4, by decide, eTb_t 428 (by decide +kernel) rfl⟩
theorem grC_150 : ∀ j, j < 4 → ([151, 152, 153, 154] : List Nat)[j]? = some (151 + j) := by decide
theorem glC_150 : ∀ j, j < 4 → layC[151 + j]? = some (.inl (0, 20)) := by
  intro j hj
  rcases (show j = 0 ∨ j = 1 ∨ j = 2 ∨ j = 3 by omega) with rfl | rfl | rfl | rfl <;> rfl
theorem lC_150 : layC[150]? = some (.inr (.inl (4, [151, 152, 153, 154]))) := rfl
theorem wc_X8_develop : eWc m_X8_develop 3 := ⟨eTb_t 671 (by decide +kernel) rfl, eTb_t 2 (by decide +kernel) rfl, ⟨by decide +kernel, by decide +kernel, by decide +kernel⟩, by decide +kernel, by decide⟩
theorem ml_RX9_241 : Cond.methodLink RX9 241 yX8_develop ∈ eTb := eTb_t 668 (by decide +kernel) rfl
theorem im_X8_develop : Cond.instanceMethod yX8_develop ∈ eTb := eTb_t 669 (by decide +kernel) rfl
theorem se_X8_develop : Cond.selects yX8_develop.cls yX8_develop yX8_develop ∈ eTb := eTb_t 670 (by decide +kernel) rfl
theorem ld_RX9_233 : Cond.constant RX9 233 (-1000006) ∈ eTb := eTb_t 667 (by decide +kernel) rfl
theorem wc_X10_isSheet : eWc m_X10_isSheet 1 := ⟨eTb_t 1413 (by decide +kernel) rfl, eTb_t 11 (by decide +kernel) rfl, ⟨by decide +kernel, by decide +kernel, by decide +kernel⟩, by decide +kernel, by decide⟩
theorem ml_RX10_134 : Cond.methodLink RX10 134 yX10_isSheet ∈ eTb := eTb_t 1411 (by decide +kernel) rfl
theorem sm_X10_isSheet : Cond.static yX10_isSheet ∈ eTb := eTb_t 1412 (by decide +kernel) rfl
theorem fl_RX10_20 : eFl RX10 20 10 5 := ⟨_, _, _, rfl, ein_10, by decide, eTb_t 1167 (by decide +kernel) rfl⟩
theorem lR_4 : layR[4]? = some (.inl (0, 4)) := rfl
theorem fl_RX10_23 : eFl RX10 23 10 6 := ⟨_, _, _, rfl, ein_10, by decide, eTb_t 1168 (by decide +kernel) rfl⟩
theorem lR_5 : layR[5]? = some (.inl (0, 4)) := rfl
theorem fl_RX10_26 : eFl RX10 26 10 7 := ⟨_, _, _, rfl, ein_10, by decide, eTb_t 1169 (by decide +kernel) rfl⟩
theorem lR_6 : layR[6]? = some (.inl (0, 80)) := rfl
theorem fl_RX9_245 : eFl RX9 245 1 0 := ⟨_, _, _, rfl, ein_1, by decide, eTb_t 224 (by decide +kernel) rfl⟩
theorem fl_RX9_248 : eFl RX9 248 1 1 := ⟨_, _, _, rfl, ein_1, by decide, eTb_t 227 (by decide +kernel) rfl⟩
theorem fl_RX9_249 : eFl RX9 249 1 2 := ⟨_, _, _, rfl, ein_1, by decide, eTb_t 230 (by decide +kernel) rfl⟩
theorem fl_RX9_252 : eFl RX9 252 1 3 := ⟨_, _, _, rfl, ein_1, by decide, eTb_t 233 (by decide +kernel) rfl⟩
theorem fl_RX9_255 : eFl RX9 255 1 4 := ⟨_, _, _, rfl, ein_1, by decide, eTb_t 235 (by decide +kernel) rfl⟩
theorem fl_RX9_258 : eFl RX9 258 1 5 := ⟨_, _, _, rfl, ein_1, by decide, eTb_t 237 (by decide +kernel) rfl⟩
theorem fl_RX9_261 : eFl RX9 261 1 6 := ⟨_, _, _, rfl, ein_1, by decide, eTb_t 239 (by decide +kernel) rfl⟩
theorem ml_RX1_55 : Cond.methodLink RX1 55 yX5_has ∈ eTb := eTb_t 680 (by decide +kernel) rfl
theorem fl_RX1_61 : eFl RX1 61 5 3 := ⟨_, _, _, rfl, ein_5, by decide, eTb_t 133 (by decide +kernel) rfl⟩
theorem wc_X1_credit : eWc m_X1_credit 2 := ⟨eTb_t 679 (by decide +kernel) rfl, eTb_t 6 (by decide +kernel) rfl, ⟨by decide +kernel, by decide +kernel, by decide +kernel⟩, by decide +kernel, by decide⟩
theorem ml_RX9_264 : Cond.methodLink RX9 264 yX1_credit ∈ eTb := eTb_t 676 (by decide +kernel) rfl
theorem im_X1_credit : Cond.instanceMethod yX1_credit ∈ eTb := eTb_t 677 (by decide +kernel) rfl
theorem se_X1_credit : Cond.selects yX1_credit.cls yX1_credit yX1_credit ∈ eTb := eTb_t 678 (by decide +kernel) rfl
theorem wc_X10_isReport : eWc m_X10_isReport 1 := ⟨eTb_t 1421 (by decide +kernel) rfl, eTb_t 11 (by decide +kernel) rfl, ⟨by decide +kernel, by decide +kernel, by decide +kernel⟩, by decide +kernel, by decide⟩
theorem ml_RX10_140 : Cond.methodLink RX10 140 yX10_isReport ∈ eTb := eTb_t 1418 (by decide +kernel) rfl
theorem im_X10_isReport : Cond.instanceMethod yX10_isReport ∈ eTb := eTb_t 1420 (by decide +kernel) rfl
theorem se_X10_isReport : Cond.selects yX10_isReport.cls yX10_isReport yX10_isReport ∈ eTb := eTb_p 36 (by decide +kernel) rfl
theorem wc_X10_report1 : eWc m_X10_report1 2 := ⟨eTb_t 1429 (by decide +kernel) rfl, eTb_t 11 (by decide +kernel) rfl, ⟨by decide +kernel, by decide +kernel, by decide +kernel⟩, by decide +kernel, by decide⟩
theorem ml_RX10_137 : Cond.methodLink RX10 137 yX10_report1 ∈ eTb := eTb_t 1426 (by decide +kernel) rfl
theorem im_X10_report1 : Cond.instanceMethod yX10_report1 ∈ eTb := eTb_t 1428 (by decide +kernel) rfl
theorem se_X10_report1 : Cond.selects yX10_report1.cls yX10_report1 yX10_report1 ∈ eTb := eTb_p 38 (by decide +kernel) rfl
theorem wc_X10_creditOf : eWc m_X10_creditOf 1 := ⟨eTb_t 1425 (by decide +kernel) rfl, eTb_t 11 (by decide +kernel) rfl, ⟨by decide +kernel, by decide +kernel, by decide +kernel⟩, by decide +kernel, by decide⟩
theorem ml_RX10_143 : Cond.methodLink RX10 143 yX10_creditOf ∈ eTb := eTb_t 1422 (by decide +kernel) rfl
theorem im_X10_creditOf : Cond.instanceMethod yX10_creditOf ∈ eTb := eTb_t 1424 (by decide +kernel) rfl
theorem se_X10_creditOf : Cond.selects yX10_creditOf.cls yX10_creditOf yX10_creditOf ∈ eTb := eTb_p 37 (by decide +kernel) rfl
theorem fl_RX9_268 : eFl RX9 268 1 8 := ⟨_, _, _, rfl, ein_1, by decide, eTb_t 245 (by decide +kernel) rfl⟩
theorem fp_RX9_268 : eFp RX9 268 1 8 .int := ⟨_, _, _, tyX1, rfl, ein_1, by decide, eTb_t 245 (by decide +kernel) rfl, tyX1_ok, nmX1, by decide, by decide +kernel⟩
theorem fl_RX8_56 : eFl RX8 56 8 7 := ⟨_, _, _, rfl, ein_8, by decide, eTb_t 377 (by decide +kernel) rfl⟩
theorem fp_RX3_24 : eFp RX3 24 3 2 .int := ⟨_, _, _, tyX3, rfl, ein_3, by decide, eTb_t 351 (by decide +kernel) rfl, tyX3_ok, nmX3, by decide, by decide +kernel⟩
theorem lC_55 : layC[55]? = some (.inr (.inr (3, [some 56, some 57, none, some 58]))) := rfl
theorem fl_RX3_28 : eFl RX3 28 1 7 := ⟨_, _, _, rfl, ein_1, by decide, eTb_t 241 (by decide +kernel) rfl⟩
theorem fl_RX1_34 : eFl RX1 34 1 8 := ⟨_, _, _, rfl, ein_1, by decide, eTb_t 243 (by decide +kernel) rfl⟩
theorem wc_X1_isCounted : eWc m_X1_isCounted 2 := ⟨eTb_t 704 (by decide +kernel) rfl, eTb_t 6 (by decide +kernel) rfl, ⟨by decide +kernel, by decide +kernel, by decide +kernel⟩, by decide +kernel, by decide⟩
theorem ml_RX3_31 : Cond.methodLink RX3 31 yX1_isCounted ∈ eTb := eTb_t 701 (by decide +kernel) rfl
theorem im_X1_isCounted : Cond.instanceMethod yX1_isCounted ∈ eTb := eTb_t 702 (by decide +kernel) rfl
theorem se_X1_isCounted : Cond.selects yX1_isCounted.cls yX1_isCounted yX1_isCounted ∈ eTb := eTb_t 703 (by decide +kernel) rfl
theorem fl_RX3_24 : eFl RX3 24 3 2 := ⟨_, _, _, rfl, ein_3, by decide, eTb_t 351 (by decide +kernel) rfl⟩
theorem fl_RX3_66 : eFl RX3 66 1 3 := ⟨_, _, _, rfl, ein_1, by decide, eTb_t 232 (by decide +kernel) rfl⟩
theorem fl_RX3_15 : eFl RX3 15 3 1 := ⟨_, _, _, rfl, ein_3, by decide, eTb_t 350 (by decide +kernel) rfl⟩
theorem lC_57 : layC[57]? = some (.inl (0, 12)) := rfl
theorem wc_X3_insert : eWc m_X3_insert 2 := ⟨eTb_t 708 (by decide +kernel) rfl, eTb_t 8 (by decide +kernel) rfl, ⟨by decide +kernel, by decide +kernel, by decide +kernel⟩, by decide +kernel, by decide⟩
theorem ml_RX3_35 : Cond.methodLink RX3 35 yX3_insert ∈ eTb := eTb_t 705 (by decide +kernel) rfl
theorem im_X3_insert : Cond.instanceMethod yX3_insert ∈ eTb := eTb_t 707 (by decide +kernel) rfl
theorem se_X3_insert : Cond.selects yX3_insert.cls yX3_insert yX3_insert ∈ eTb := eTb_p 2 (by decide +kernel) rfl
theorem fl_RX3_9 : eFl RX3 9 3 0 := ⟨_, _, _, rfl, ein_3, by decide, eTb_t 346 (by decide +kernel) rfl⟩
theorem lC_56 : layC[56]? = some (.inl (1, 4)) := rfl
theorem ml_RX3_39 : Cond.methodLink RX3 39 yJ7_fill_d0a16 ∈ eTb := eTb_t 709 (by decide +kernel) rfl
theorem wc_J7_fill_d0a16 : eWc m_J7_fill_d0a16 2 := ⟨eTb_t 711 (by decide +kernel) rfl, eTb_t 12 (by decide +kernel) rfl, ⟨by decide +kernel, by decide +kernel, by decide +kernel⟩, by decide +kernel, by decide⟩
theorem sm_J7_fill_d0a16 : Cond.static yJ7_fill_d0a16 ∈ eTb := eTb_t 710 (by decide +kernel) rfl
theorem fl_RX3_21 : eFl RX3 21 3 3 := ⟨_, _, _, rfl, ein_3, by decide, eTb_t 353 (by decide +kernel) rfl⟩
theorem lC_58 : layC[58]? = some (.inr (.inl (5, [59, 60, 61, 62, 63, 64, 65, 66, 67, 68, 69, 70, 71]))) := rfl
theorem lC_59 : layC[59]? = some (.inl (1, 4)) := rfl
theorem sy_RX3_45 : eSys RX3 45 := ⟨eTb_t 712 (by decide +kernel) rfl, eTb_t 714 (by decide +kernel) rfl, eTb_t 713 (by decide +kernel) rfl, eTb_t 13 (by decide +kernel) rfl⟩
theorem fl_RX3_51 : eFl RX3 51 1 1 := ⟨_, _, _, rfl, ein_1, by decide, eTb_t 226 (by decide +kernel) rfl⟩
theorem fl_RX3_54 : eFl RX3 54 1 2 := ⟨_, _, _, rfl, ein_1, by decide, eTb_t 229 (by decide +kernel) rfl⟩
theorem ml_RX3_58 : Cond.methodLink RX3 58 yX1_credit ∈ eTb := eTb_t 715 (by decide +kernel) rfl
theorem wc_X3_put : eWc m_X3_put 3 := ⟨eTb_t 719 (by decide +kernel) rfl, eTb_t 8 (by decide +kernel) rfl, ⟨by decide +kernel, by decide +kernel, by decide +kernel⟩, by decide +kernel, by decide⟩
theorem ml_RX3_62 : Cond.methodLink RX3 62 yX3_put ∈ eTb := eTb_t 716 (by decide +kernel) rfl
theorem im_X3_put : Cond.instanceMethod yX3_put ∈ eTb := eTb_t 717 (by decide +kernel) rfl
theorem se_X3_put : Cond.selects yX3_put.cls yX3_put yX3_put ∈ eTb := eTb_t 718 (by decide +kernel) rfl
theorem grC_58 : ∀ j, j < 13 → ([59, 60, 61, 62, 63, 64, 65, 66, 67, 68, 69, 70, 71] : List Nat)[j]? = some (59 + j) := by decide
theorem glC_58 : ∀ j, j < 13 → layC[59 + j]? = some (.inl (1, 4)) := by
  intro j hj
  rcases (show j = 0 ∨ j = 1 ∨ j = 2 ∨ j = 3 ∨ j = 4 ∨ j = 5 ∨ j = 6 ∨ j = 7 ∨ j = 8 ∨ j = 9 ∨ j = 10 ∨ j = 11 ∨ j = 12 by omega) with rfl | rfl | rfl | rfl | rfl | rfl | rfl | rfl | rfl | rfl | rfl | rfl | rfl <;> rfl
theorem wc_X3_load : eWc m_X3_load 3 := ⟨eTb_t 700 (by decide +kernel) rfl, eTb_t 8 (by decide +kernel) rfl, ⟨by decide +kernel, by decide +kernel, by decide +kernel⟩, by decide +kernel, by decide⟩
theorem ml_RX8_150 : Cond.methodLink RX8 150 yX3_load ∈ eTb := eTb_t 697 (by decide +kernel) rfl
theorem im_X3_load : Cond.instanceMethod yX3_load ∈ eTb := eTb_t 698 (by decide +kernel) rfl
theorem se_X3_load : Cond.selects yX3_load.cls yX3_load yX3_load ∈ eTb := eTb_t 699 (by decide +kernel) rfl
theorem wc_X8_scalesAt : eWc m_X8_scalesAt 1 := ⟨eTb_t 696 (by decide +kernel) rfl, eTb_t 2 (by decide +kernel) rfl, ⟨by decide +kernel, by decide +kernel, by decide +kernel⟩, by decide +kernel, by decide⟩
theorem ml_RX9_271 : Cond.methodLink RX9 271 yX8_scalesAt ∈ eTb := eTb_t 693 (by decide +kernel) rfl
theorem im_X8_scalesAt : Cond.instanceMethod yX8_scalesAt ∈ eTb := eTb_t 694 (by decide +kernel) rfl
theorem se_X8_scalesAt : Cond.selects yX8_scalesAt.cls yX8_scalesAt yX8_scalesAt ∈ eTb := eTb_t 695 (by decide +kernel) rfl
theorem fl_RX9_275 : eFl RX9 275 3 0 := ⟨_, _, _, rfl, ein_3, by decide, eTb_t 349 (by decide +kernel) rfl⟩
theorem fp_RX10_146 : eFp RX10 146 10 13 .int := ⟨_, _, _, tyX10, rfl, ein_10, by decide, eTb_t 1175 (by decide +kernel) rfl, tyX10_ok, nmX10, by decide, by decide +kernel⟩
theorem fl_RX10_146 : eFl RX10 146 10 13 := ⟨_, _, _, rfl, ein_10, by decide, eTb_t 1175 (by decide +kernel) rfl⟩
theorem fl_RX10_32 : eFl RX10 32 10 9 := ⟨_, _, _, rfl, ein_10, by decide, eTb_t 1171 (by decide +kernel) rfl⟩
theorem lR_8 : layR[8]? = some (.inl (0, 800)) := rfl
theorem fl_RX10_35 : eFl RX10 35 10 10 := ⟨_, _, _, rfl, ein_10, by decide, eTb_t 1172 (by decide +kernel) rfl⟩
theorem lR_9 : layR[9]? = some (.inl (0, 800)) := rfl
theorem fl_RX10_38 : eFl RX10 38 10 11 := ⟨_, _, _, rfl, ein_10, by decide, eTb_t 1173 (by decide +kernel) rfl⟩
theorem lR_10 : layR[10]? = some (.inl (0, 800)) := rfl
theorem fl_RX10_41 : eFl RX10 41 10 12 := ⟨_, _, _, rfl, ein_10, by decide, eTb_t 1174 (by decide +kernel) rfl⟩
theorem lR_11 : layR[11]? = some (.inl (0, 800)) := rfl
theorem wc_X10_more : eWc m_X10_more 4 := ⟨eTb_t 1449 (by decide +kernel) rfl, eTb_t 11 (by decide +kernel) rfl, ⟨by decide +kernel, by decide +kernel, by decide +kernel⟩, by decide +kernel, by decide⟩
theorem ml_RX10_150 : Cond.methodLink RX10 150 yX10_more ∈ eTb := eTb_t 1446 (by decide +kernel) rfl
theorem im_X10_more : Cond.instanceMethod yX10_more ∈ eTb := eTb_t 1448 (by decide +kernel) rfl
theorem se_X10_more : Cond.selects yX10_more.cls yX10_more yX10_more ∈ eTb := eTb_p 40 (by decide +kernel) rfl
theorem wc_X10_gather : eWc m_X10_gather 1 := ⟨eTb_t 1445 (by decide +kernel) rfl, eTb_t 11 (by decide +kernel) rfl, ⟨by decide +kernel, by decide +kernel, by decide +kernel⟩, by decide +kernel, by decide⟩
theorem ml_RX10_154 : Cond.methodLink RX10 154 yX10_gather ∈ eTb := eTb_t 1442 (by decide +kernel) rfl
theorem im_X10_gather : Cond.instanceMethod yX10_gather ∈ eTb := eTb_t 1444 (by decide +kernel) rfl
theorem se_X10_gather : Cond.selects yX10_gather.cls yX10_gather yX10_gather ∈ eTb := eTb_p 39 (by decide +kernel) rfl
theorem fl_RX10_44 : eFl RX10 44 10 14 := ⟨_, _, _, rfl, ein_10, by decide, eTb_t 1176 (by decide +kernel) rfl⟩
theorem lR_12 : layR[12]? = some (.inl (1, 4)) := rfl
theorem wc_X10_weigh : eWc m_X10_weigh 0 := ⟨eTb_t 1453 (by decide +kernel) rfl, eTb_t 11 (by decide +kernel) rfl, ⟨by decide +kernel, by decide +kernel, by decide +kernel⟩, by decide +kernel, by decide⟩
theorem ml_RX10_158 : Cond.methodLink RX10 158 yX10_weigh ∈ eTb := eTb_t 1450 (by decide +kernel) rfl
theorem im_X10_weigh : Cond.instanceMethod yX10_weigh ∈ eTb := eTb_t 1452 (by decide +kernel) rfl
theorem se_X10_weigh : Cond.selects yX10_weigh.cls yX10_weigh yX10_weigh ∈ eTb := eTb_p 41 (by decide +kernel) rfl
theorem wc_X3_sum : eWc m_X3_sum 0 := ⟨eTb_t 731 (by decide +kernel) rfl, eTb_t 8 (by decide +kernel) rfl, ⟨by decide +kernel, by decide +kernel, by decide +kernel⟩, by decide +kernel, by decide⟩
theorem ml_RX3_94 : Cond.methodLink RX3 94 yX3_sum ∈ eTb := eTb_t 728 (by decide +kernel) rfl
theorem im_X3_sum : Cond.instanceMethod yX3_sum ∈ eTb := eTb_t 729 (by decide +kernel) rfl
theorem se_X3_sum : Cond.selects yX3_sum.cls yX3_sum yX3_sum ∈ eTb := eTb_t 730 (by decide +kernel) rfl
theorem mm_RX3_98 : eMl RX3 98 := ⟨eTb_t 732 (by decide +kernel) rfl, eTb_t 733 (by decide +kernel) rfl, eTb_t 14 (by decide +kernel) rfl, eTb_t 734 (by decide +kernel) rfl⟩
theorem wc_X3_cleared : eWc m_X3_cleared 2 := ⟨eTb_t 727 (by decide +kernel) rfl, eTb_t 8 (by decide +kernel) rfl, ⟨by decide +kernel, by decide +kernel, by decide +kernel⟩, by decide +kernel, by decide⟩
theorem ml_RX9_281 : Cond.methodLink RX9 281 yX3_cleared ∈ eTb := eTb_t 724 (by decide +kernel) rfl
theorem im_X3_cleared : Cond.instanceMethod yX3_cleared ∈ eTb := eTb_t 725 (by decide +kernel) rfl
theorem se_X3_cleared : Cond.selects yX3_cleared.cls yX3_cleared yX3_cleared ∈ eTb := eTb_t 726 (by decide +kernel) rfl
theorem wc_X10_all : eWc m_X10_all 0 := ⟨eTb_t 1465 (by decide +kernel) rfl, eTb_t 11 (by decide +kernel) rfl, ⟨by decide +kernel, by decide +kernel, by decide +kernel⟩, by decide +kernel, by decide⟩
theorem ml_RX10_161 : Cond.methodLink RX10 161 yX10_all ∈ eTb := eTb_t 1462 (by decide +kernel) rfl
theorem im_X10_all : Cond.instanceMethod yX10_all ∈ eTb := eTb_t 1464 (by decide +kernel) rfl
theorem se_X10_all : Cond.selects yX10_all.cls yX10_all yX10_all ∈ eTb := eTb_p 43 (by decide +kernel) rfl
theorem wc_X10_common : eWc m_X10_common 2 := ⟨eTb_t 1468 (by decide +kernel) rfl, eTb_t 11 (by decide +kernel) rfl, ⟨by decide +kernel, by decide +kernel, by decide +kernel⟩, by decide +kernel, by decide⟩
theorem ml_RX10_165 : Cond.methodLink RX10 165 yX10_common ∈ eTb := eTb_t 1466 (by decide +kernel) rfl
theorem sm_X10_common : Cond.static yX10_common ∈ eTb := eTb_t 1467 (by decide +kernel) rfl
theorem wc_X10_likelyOf : eWc m_X10_likelyOf 2 := ⟨eTb_t 1461 (by decide +kernel) rfl, eTb_t 11 (by decide +kernel) rfl, ⟨by decide +kernel, by decide +kernel, by decide +kernel⟩, by decide +kernel, by decide⟩
theorem ml_RX10_169 : Cond.methodLink RX10 169 yX10_likelyOf ∈ eTb := eTb_t 1458 (by decide +kernel) rfl
theorem im_X10_likelyOf : Cond.instanceMethod yX10_likelyOf ∈ eTb := eTb_t 1460 (by decide +kernel) rfl
theorem se_X10_likelyOf : Cond.selects yX10_likelyOf.cls yX10_likelyOf yX10_likelyOf ∈ eTb := eTb_p 42 (by decide +kernel) rfl
theorem wc_X3_heaviest : eWc m_X3_heaviest 0 := ⟨eTb_t 742 (by decide +kernel) rfl, eTb_t 8 (by decide +kernel) rfl, ⟨by decide +kernel, by decide +kernel, by decide +kernel⟩, by decide +kernel, by decide⟩
theorem ml_RX9_285 : Cond.methodLink RX9 285 yX3_heaviest ∈ eTb := eTb_t 739 (by decide +kernel) rfl
theorem im_X3_heaviest : Cond.instanceMethod yX3_heaviest ∈ eTb := eTb_t 740 (by decide +kernel) rfl
theorem se_X3_heaviest : Cond.selects yX3_heaviest.cls yX3_heaviest yX3_heaviest ∈ eTb := eTb_t 741 (by decide +kernel) rfl
theorem wc_X10_greatest : eWc m_X10_greatest 0 := ⟨eTb_t 1476 (by decide +kernel) rfl, eTb_t 11 (by decide +kernel) rfl, ⟨by decide +kernel, by decide +kernel, by decide +kernel⟩, by decide +kernel, by decide⟩
theorem ml_RX10_173 : Cond.methodLink RX10 173 yX10_greatest ∈ eTb := eTb_t 1473 (by decide +kernel) rfl
theorem im_X10_greatest : Cond.instanceMethod yX10_greatest ∈ eTb := eTb_t 1475 (by decide +kernel) rfl
theorem se_X10_greatest : Cond.selects yX10_greatest.cls yX10_greatest yX10_greatest ∈ eTb := eTb_p 44 (by decide +kernel) rfl
theorem fl_RX9_288 : eFl RX9 288 3 2 := ⟨_, _, _, rfl, ein_3, by decide, eTb_t 352 (by decide +kernel) rfl⟩
theorem fl_RX9_289 : eFl RX9 289 1 9 := ⟨_, _, _, rfl, ein_1, by decide, eTb_t 247 (by decide +kernel) rfl⟩
theorem fp_RX9_289 : eFp RX9 289 1 9 .int := ⟨_, _, _, tyX1, rfl, ein_1, by decide, eTb_t 247 (by decide +kernel) rfl, tyX1_ok, nmX1, by decide, by decide +kernel⟩
theorem ml_RX1_64 : Cond.methodLink RX1 64 yX3_sum ∈ eTb := eTb_t 759 (by decide +kernel) rfl
theorem mm_RX1_70 : eMl RX1 70 := ⟨eTb_t 760 (by decide +kernel) rfl, eTb_t 733 (by decide +kernel) rfl, eTb_t 14 (by decide +kernel) rfl, eTb_t 734 (by decide +kernel) rfl⟩
theorem fl_RX1_76 : eFl RX1 76 1 9 := ⟨_, _, _, rfl, ein_1, by decide, eTb_t 246 (by decide +kernel) rfl⟩
theorem fl_RX1_79 : eFl RX1 79 3 0 := ⟨_, _, _, rfl, ein_3, by decide, eTb_t 347 (by decide +kernel) rfl⟩
theorem fl_RX1_45 : eFl RX1 45 1 12 := ⟨_, _, _, rfl, ein_1, by decide, eTb_t 251 (by decide +kernel) rfl⟩
theorem lC_39 : layC[39]? = some (.inl (0, 4)) := rfl
theorem fl_RX1_41 : eFl RX1 41 1 11 := ⟨_, _, _, rfl, ein_1, by decide, eTb_t 250 (by decide +kernel) rfl⟩
theorem lC_38 : layC[38]? = some (.inl (1, 4)) := rfl
theorem wc_X1_greatestRest : eWc m_X1_greatestRest 0 := ⟨eTb_t 764 (by decide +kernel) rfl, eTb_t 6 (by decide +kernel) rfl, ⟨by decide +kernel, by decide +kernel, by decide +kernel⟩, by decide +kernel, by decide⟩
theorem ml_RX1_82 : Cond.methodLink RX1 82 yX1_greatestRest ∈ eTb := eTb_t 761 (by decide +kernel) rfl
theorem im_X1_greatestRest : Cond.instanceMethod yX1_greatestRest ∈ eTb := eTb_t 763 (by decide +kernel) rfl
theorem se_X1_greatestRest : Cond.selects yX1_greatestRest.cls yX1_greatestRest yX1_greatestRest ∈ eTb := eTb_p 3 (by decide +kernel) rfl
theorem ll_RX1_86 : Cond.constantLong RX1 86 (-1) ∈ eTb := eTb_t 765 (by decide +kernel) rfl
theorem fl_RX1_38 : eFl RX1 38 1 10 := ⟨_, _, _, rfl, ein_1, by decide, eTb_t 248 (by decide +kernel) rfl⟩
theorem lC_37 : layC[37]? = some (.inl (0, 4)) := rfl
theorem wc_X1_part : eWc m_X1_part 1 := ⟨eTb_t 758 (by decide +kernel) rfl, eTb_t 6 (by decide +kernel) rfl, ⟨by decide +kernel, by decide +kernel, by decide +kernel⟩, by decide +kernel, by decide⟩
theorem ml_RX9_292 : Cond.methodLink RX9 292 yX1_part ∈ eTb := eTb_t 755 (by decide +kernel) rfl
theorem im_X1_part : Cond.instanceMethod yX1_part ∈ eTb := eTb_t 756 (by decide +kernel) rfl
theorem se_X1_part : Cond.selects yX1_part.cls yX1_part yX1_part ∈ eTb := eTb_t 757 (by decide +kernel) rfl
theorem fl_RX10_48 : eFl RX10 48 10 15 := ⟨_, _, _, rfl, ein_10, by decide, eTb_t 1177 (by decide +kernel) rfl⟩
theorem lR_13 : layR[13]? = some (.inl (0, 4)) := rfl
theorem fl_RX10_51 : eFl RX10 51 10 16 := ⟨_, _, _, rfl, ein_10, by decide, eTb_t 1178 (by decide +kernel) rfl⟩
theorem lR_14 : layR[14]? = some (.inl (1, 4)) := rfl
theorem ll_RX10_177 : Cond.constantLong RX10 177 (-1) ∈ eTb := eTb_t 1489 (by decide +kernel) rfl
theorem fl_RX9_296 : eFl RX9 296 1 10 := ⟨_, _, _, rfl, ein_1, by decide, eTb_t 249 (by decide +kernel) rfl⟩
theorem fl_RX9_22 : eFl RX9 22 9 3 := ⟨_, _, _, rfl, ein_9, by decide, eTb_t 439 (by decide +kernel) rfl⟩
theorem fl_RX9_299 : eFl RX9 299 6 1 := ⟨_, _, _, rfl, ein_6, by decide, eTb_t 406 (by decide +kernel) rfl⟩
theorem lC_145 : layC[145]? = some (.inr (.inr (6, [some 146, none, none]))) := rfl
theorem fl_RX6_15 : eFl RX6 15 6 1 := ⟨_, _, _, rfl, ein_6, by decide, eTb_t 405 (by decide +kernel) rfl⟩
theorem mn_RX6_19 : Cond.methodLinkNest RX6 19 yX9_isIn "GhostCoast" ∈ eNest := eNest_t 778 (by decide +kernel) rfl
theorem fl_RX6_9 : eFl RX6 9 6 0 := ⟨_, _, _, rfl, ein_6, by decide, eTb_t 404 (by decide +kernel) rfl⟩
theorem fp_RX6_15 : eFp RX6 15 6 1 .int := ⟨_, _, _, tyX6, rfl, ein_6, by decide, eTb_t 405 (by decide +kernel) rfl, tyX6_ok, nmX6, by decide, by decide +kernel⟩
theorem lC_146 : layC[146]? = some (.inl (0, 120)) := rfl
theorem wc_X6_add : eWc m_X6_add 1 := ⟨eTb_t 777 (by decide +kernel) rfl, eTb_t 9 (by decide +kernel) rfl, ⟨by decide +kernel, by decide +kernel, by decide +kernel⟩, by decide +kernel, by decide⟩
theorem ml_RX9_301 : Cond.methodLink RX9 301 yX6_add ∈ eTb := eTb_t 774 (by decide +kernel) rfl
theorem im_X6_add : Cond.instanceMethod yX6_add ∈ eTb := eTb_t 775 (by decide +kernel) rfl
theorem se_X6_add : Cond.selects yX6_add.cls yX6_add yX6_add ∈ eTb := eTb_t 776 (by decide +kernel) rfl
theorem fl_RX10_179 : eFl RX10 179 10 3 := ⟨_, _, _, rfl, ein_10, by decide, eTb_t 1165 (by decide +kernel) rfl⟩
theorem fl_RX10_16 : eFl RX10 16 10 4 := ⟨_, _, _, rfl, ein_10, by decide, eTb_t 1166 (by decide +kernel) rfl⟩
theorem lR_3 : layR[3]? = some (.inl (3, 120)) := rfl
theorem fp_RX10_179 : eFp RX10 179 10 3 .int := ⟨_, _, _, tyX10, rfl, ein_10, by decide, eTb_t 1165 (by decide +kernel) rfl, tyX10_ok, nmX10, by decide, by decide +kernel⟩
theorem fl_RX9_304 : eFl RX9 304 8 4 := ⟨_, _, _, rfl, ein_8, by decide, eTb_t 372 (by decide +kernel) rfl⟩
theorem fl_RX9_308 : eFl RX9 308 7 4 := ⟨_, _, _, rfl, ein_7, by decide, eTb_t 294 (by decide +kernel) rfl⟩
theorem fp_RX6_23 : eFp RX6 23 6 2 .int := ⟨_, _, _, tyX6, rfl, ein_6, by decide, eTb_t 407 (by decide +kernel) rfl, tyX6_ok, nmX6, by decide, by decide +kernel⟩
theorem fl_RX6_26 : eFl RX6 26 7 4 := ⟨_, _, _, rfl, ein_7, by decide, eTb_t 293 (by decide +kernel) rfl⟩
theorem fl_RX6_23 : eFl RX6 23 6 2 := ⟨_, _, _, rfl, ein_6, by decide, eTb_t 407 (by decide +kernel) rfl⟩
theorem fx_RJ0_9 : Cond.fieldLink RJ0 9 "java/lang/String" "value" "[B" ∈ eTb := eTb_t 1706 (by decide +kernel) rfl
theorem fx_RJ0_38 : Cond.fieldLink RJ0 38 "java/lang/String" "COMPACT_STRINGS" "Z" ∈ eTb := eTb_t 808 (by decide +kernel) rfl
theorem fx_RJ0_15 : Cond.fieldLink RJ0 15 "java/lang/String" "coder" "B" ∈ eTb := eTb_t 1707 (by decide +kernel) rfl
theorem wc_J0_coder_7d493 : eWc m_J0_coder_7d493 0 := ⟨eTb_t 807 (by decide +kernel) rfl, eTb_t 15 (by decide +kernel) rfl, ⟨by decide +kernel, by decide +kernel, by decide +kernel⟩, by decide +kernel, by decide⟩
theorem ml_RJ0_335 : Cond.methodLink RJ0 335 yJ0_coder_7d493 ∈ eTb := eTb_t 804 (by decide +kernel) rfl
theorem im_J0_coder_7d493 : Cond.instanceMethod yJ0_coder_7d493 ∈ eTb := eTb_t 805 (by decide +kernel) rfl
theorem se_J0_coder_7d493 : Cond.selects yJ0_coder_7d493.cls yJ0_coder_7d493 yJ0_coder_7d493 ∈ eTb := eTb_t 806 (by decide +kernel) rfl
theorem wc_J0_length_8abf5 : eWc m_J0_length_8abf5 0 := ⟨eTb_t 803 (by decide +kernel) rfl, eTb_t 15 (by decide +kernel) rfl, ⟨by decide +kernel, by decide +kernel, by decide +kernel⟩, by decide +kernel, by decide⟩
theorem ml_RX6_91 : Cond.methodLink RX6 91 yJ0_length_8abf5 ∈ eTb := eTb_t 800 (by decide +kernel) rfl
theorem im_J0_length_8abf5 : Cond.instanceMethod yJ0_length_8abf5 ∈ eTb := eTb_t 801 (by decide +kernel) rfl
theorem se_J0_length_8abf5 : Cond.selects yJ0_length_8abf5.cls yJ0_length_8abf5 yJ0_length_8abf5 ∈ eTb := eTb_t 802 (by decide +kernel) rfl
theorem wc_J0_isLatin1_aae02 : eWc m_J0_isLatin1_aae02 0 := ⟨eTb_t 817 (by decide +kernel) rfl, eTb_t 15 (by decide +kernel) rfl, ⟨by decide +kernel, by decide +kernel, by decide +kernel⟩, by decide +kernel, by decide⟩
theorem ml_RJ0_492 : Cond.methodLink RJ0 492 yJ0_isLatin1_aae02 ∈ eTb := eTb_t 814 (by decide +kernel) rfl
theorem im_J0_isLatin1_aae02 : Cond.instanceMethod yJ0_isLatin1_aae02 ∈ eTb := eTb_t 815 (by decide +kernel) rfl
theorem se_J0_isLatin1_aae02 : Cond.selects yJ0_isLatin1_aae02.cls yJ0_isLatin1_aae02 yJ0_isLatin1_aae02 ∈ eTb := eTb_t 816 (by decide +kernel) rfl
theorem ml_RJ0_1059 : Cond.methodLink RJ0 1059 yJ3_checkIndex_8e157 ∈ eTb := eTb_t 826 (by decide +kernel) rfl
theorem wc_J3_checkIndex_8e157 : eWc m_J3_checkIndex_8e157 3 := ⟨eTb_t 828 (by decide +kernel) rfl, eTb_t 17 (by decide +kernel) rfl, ⟨by decide +kernel, by decide +kernel, by decide +kernel⟩, by decide +kernel, by decide⟩
theorem sm_J3_checkIndex_8e157 : Cond.static yJ3_checkIndex_8e157 ∈ eTb := eTb_t 827 (by decide +kernel) rfl
theorem fx_RJ0_1053 : Cond.fieldLink RJ0 1053 "jdk/internal/util/Preconditions" "SIOOBE_FORMATTER" "Ljava/util/function/BiFunction;" ∈ eTb := eTb_t 824 (by decide +kernel) rfl
theorem wc_J0_checkIndex_df160 : eWc m_J0_checkIndex_df160 2 := ⟨eTb_t 823 (by decide +kernel) rfl, eTb_t 15 (by decide +kernel) rfl, ⟨by decide +kernel, by decide +kernel, by decide +kernel⟩, by decide +kernel, by decide⟩
theorem ml_RJ1_9 : Cond.methodLink RJ1 9 yJ0_checkIndex_df160 ∈ eTb := eTb_t 821 (by decide +kernel) rfl
theorem sm_J0_checkIndex_df160 : Cond.static yJ0_checkIndex_df160 ∈ eTb := eTb_t 822 (by decide +kernel) rfl
theorem wc_J1_charAt_3b067 : eWc m_J1_charAt_3b067 2 := ⟨eTb_t 820 (by decide +kernel) rfl, eTb_t 16 (by decide +kernel) rfl, ⟨by decide +kernel, by decide +kernel, by decide +kernel⟩, by decide +kernel, by decide⟩
theorem ml_RJ0_495 : Cond.methodLink RJ0 495 yJ1_charAt_3b067 ∈ eTb := eTb_t 818 (by decide +kernel) rfl
theorem sm_J1_charAt_3b067 : Cond.static yJ1_charAt_3b067 ∈ eTb := eTb_t 819 (by decide +kernel) rfl
theorem wc_J0_charAt_5068e : eWc m_J0_charAt_5068e 1 := ⟨eTb_t 813 (by decide +kernel) rfl, eTb_t 15 (by decide +kernel) rfl, ⟨by decide +kernel, by decide +kernel, by decide +kernel⟩, by decide +kernel, by decide⟩
theorem ml_RX6_96 : Cond.methodLink RX6 96 yJ0_charAt_5068e ∈ eTb := eTb_t 810 (by decide +kernel) rfl
theorem im_J0_charAt_5068e : Cond.instanceMethod yJ0_charAt_5068e ∈ eTb := eTb_t 811 (by decide +kernel) rfl
theorem se_J0_charAt_5068e : Cond.selects yJ0_charAt_5068e.cls yJ0_charAt_5068e yJ0_charAt_5068e ∈ eTb := eTb_t 812 (by decide +kernel) rfl
theorem wc_X6_fitOf : eWc m_X6_fitOf 3 := ⟨eTb_t 851 (by decide +kernel) rfl, eTb_t 9 (by decide +kernel) rfl, ⟨by decide +kernel, by decide +kernel, by decide +kernel⟩, by decide +kernel, by decide⟩
theorem ml_RX6_100 : Cond.methodLink RX6 100 yX6_fitOf ∈ eTb := eTb_t 848 (by decide +kernel) rfl
theorem im_X6_fitOf : Cond.instanceMethod yX6_fitOf ∈ eTb := eTb_t 850 (by decide +kernel) rfl
theorem se_X6_fitOf : Cond.selects yX6_fitOf.cls yX6_fitOf yX6_fitOf ∈ eTb := eTb_p 7 (by decide +kernel) rfl
theorem mm_RX6_104 : eMx RX6 104 := ⟨eTb_t 852 (by decide +kernel) rfl, eTb_t 853 (by decide +kernel) rfl, eTb_t 14 (by decide +kernel) rfl, eTb_t 854 (by decide +kernel) rfl⟩
theorem wc_X6_choose : eWc m_X6_choose 1 := ⟨eTb_t 799 (by decide +kernel) rfl, eTb_t 9 (by decide +kernel) rfl, ⟨by decide +kernel, by decide +kernel, by decide +kernel⟩, by decide +kernel, by decide⟩
theorem ml_RX6_44 : Cond.methodLink RX6 44 yX6_choose ∈ eTb := eTb_t 796 (by decide +kernel) rfl
theorem im_X6_choose : Cond.instanceMethod yX6_choose ∈ eTb := eTb_t 798 (by decide +kernel) rfl
theorem se_X6_choose : Cond.selects yX6_choose.cls yX6_choose yX6_choose ∈ eTb := eTb_p 6 (by decide +kernel) rfl
theorem wc_X6_take : eWc m_X6_take 1 := ⟨eTb_t 790 (by decide +kernel) rfl, eTb_t 9 (by decide +kernel) rfl, ⟨by decide +kernel, by decide +kernel, by decide +kernel⟩, by decide +kernel, by decide⟩
theorem ml_RX6_31 : Cond.methodLink RX6 31 yX6_take ∈ eTb := eTb_t 787 (by decide +kernel) rfl
theorem im_X6_take : Cond.instanceMethod yX6_take ∈ eTb := eTb_t 789 (by decide +kernel) rfl
theorem se_X6_take : Cond.selects yX6_take.cls yX6_take yX6_take ∈ eTb := eTb_p 4 (by decide +kernel) rfl
theorem fl_RX6_50 : eFl RX6 50 7 5 := ⟨_, _, _, rfl, ein_7, by decide, eTb_t 296 (by decide +kernel) rfl⟩
theorem fl_RX6_53 : eFl RX6 53 7 6 := ⟨_, _, _, rfl, ein_7, by decide, eTb_t 298 (by decide +kernel) rfl⟩
theorem fl_RX6_56 : eFl RX6 56 7 7 := ⟨_, _, _, rfl, ein_7, by decide, eTb_t 300 (by decide +kernel) rfl⟩
theorem fl_RX6_64 : eFl RX6 64 7 9 := ⟨_, _, _, rfl, ein_7, by decide, eTb_t 304 (by decide +kernel) rfl⟩
theorem fl_RX6_71 : eFl RX6 71 7 8 := ⟨_, _, _, rfl, ein_7, by decide, eTb_t 302 (by decide +kernel) rfl⟩
theorem mn_RX6_78 : Cond.methodLinkNest RX6 78 yX9_isBetween "GhostCoast" ∈ eNest := eNest_t 867 (by decide +kernel) rfl
theorem fl_RX6_82 : eFl RX6 82 7 10 := ⟨_, _, _, rfl, ein_7, by decide, eTb_t 306 (by decide +kernel) rfl⟩
theorem fl_RX6_85 : eFl RX6 85 7 11 := ⟨_, _, _, rfl, ein_7, by decide, eTb_t 308 (by decide +kernel) rfl⟩
theorem fl_RX6_88 : eFl RX6 88 7 12 := ⟨_, _, _, rfl, ein_7, by decide, eTb_t 310 (by decide +kernel) rfl⟩
theorem wc_X6_readTest : eWc m_X6_readTest 2 := ⟨eTb_t 864 (by decide +kernel) rfl, eTb_t 9 (by decide +kernel) rfl, ⟨by decide +kernel, by decide +kernel, by decide +kernel⟩, by decide +kernel, by decide⟩
theorem ml_RX6_68 : Cond.methodLink RX6 68 yX6_readTest ∈ eTb := eTb_t 861 (by decide +kernel) rfl
theorem im_X6_readTest : Cond.instanceMethod yX6_readTest ∈ eTb := eTb_t 863 (by decide +kernel) rfl
theorem se_X6_readTest : Cond.selects yX6_readTest.cls yX6_readTest yX6_readTest ∈ eTb := eTb_p 9 (by decide +kernel) rfl
theorem wc_X6_readTests : eWc m_X6_readTests 2 := ⟨eTb_t 860 (by decide +kernel) rfl, eTb_t 9 (by decide +kernel) rfl, ⟨by decide +kernel, by decide +kernel, by decide +kernel⟩, by decide +kernel, by decide⟩
theorem ml_RX6_61 : Cond.methodLink RX6 61 yX6_readTests ∈ eTb := eTb_t 857 (by decide +kernel) rfl
theorem im_X6_readTests : Cond.instanceMethod yX6_readTests ∈ eTb := eTb_t 859 (by decide +kernel) rfl
theorem se_X6_readTests : Cond.selects yX6_readTests.cls yX6_readTests yX6_readTests ∈ eTb := eTb_p 8 (by decide +kernel) rfl
theorem wc_X6_readClause : eWc m_X6_readClause 2 := ⟨eTb_t 794 (by decide +kernel) rfl, eTb_t 9 (by decide +kernel) rfl, ⟨by decide +kernel, by decide +kernel, by decide +kernel⟩, by decide +kernel, by decide⟩
theorem ml_RX6_35 : Cond.methodLink RX6 35 yX6_readClause ∈ eTb := eTb_t 791 (by decide +kernel) rfl
theorem im_X6_readClause : Cond.instanceMethod yX6_readClause ∈ eTb := eTb_t 793 (by decide +kernel) rfl
theorem se_X6_readClause : Cond.selects yX6_readClause.cls yX6_readClause yX6_readClause ∈ eTb := eTb_p 5 (by decide +kernel) rfl
theorem fl_RX6_39 : eFl RX6 39 7 3 := ⟨_, _, _, rfl, ein_7, by decide, eTb_t 291 (by decide +kernel) rfl⟩
theorem wc_X6_faultOf : eWc m_X6_faultOf 1 := ⟨eTb_t 786 (by decide +kernel) rfl, eTb_t 9 (by decide +kernel) rfl, ⟨by decide +kernel, by decide +kernel, by decide +kernel⟩, by decide +kernel, by decide⟩
theorem ml_RX9_311 : Cond.methodLink RX9 311 yX6_faultOf ∈ eTb := eTb_t 783 (by decide +kernel) rfl
theorem im_X6_faultOf : Cond.instanceMethod yX6_faultOf ∈ eTb := eTb_t 784 (by decide +kernel) rfl
theorem se_X6_faultOf : Cond.selects yX6_faultOf.cls yX6_faultOf yX6_faultOf ∈ eTb := eTb_t 785 (by decide +kernel) rfl
theorem fp_RX9_299 : eFp RX9 299 6 1 .int := ⟨_, _, _, tyX6, rfl, ein_6, by decide, eTb_t 406 (by decide +kernel) rfl, tyX6_ok, nmX6, by decide, by decide +kernel⟩
theorem fp_RX7_49 : eFp RX7 49 7 4 .int := ⟨_, _, _, tyX7, rfl, ein_7, by decide, eTb_t 292 (by decide +kernel) rfl, tyX7_ok, nmX7, by decide, by decide +kernel⟩
theorem wc_X7_add : eWc m_X7_add 2 := ⟨eTb_t 871 (by decide +kernel) rfl, eTb_t 7 (by decide +kernel) rfl, ⟨by decide +kernel, by decide +kernel, by decide +kernel⟩, by decide +kernel, by decide⟩
theorem ml_RX9_315 : Cond.methodLink RX9 315 yX7_add ∈ eTb := eTb_t 868 (by decide +kernel) rfl
theorem im_X7_add : Cond.instanceMethod yX7_add ∈ eTb := eTb_t 869 (by decide +kernel) rfl
theorem se_X7_add : Cond.selects yX7_add.cls yX7_add yX7_add ∈ eTb := eTb_t 870 (by decide +kernel) rfl
theorem fp_RX10_194 : eFp RX10 194 10 17 .int := ⟨_, _, _, tyX10, rfl, ein_10, by decide, eTb_t 1179 (by decide +kernel) rfl, tyX10_ok, nmX10, by decide, by decide +kernel⟩
theorem fp_RX10_190 : eFp RX10 190 10 18 .boolean := ⟨_, _, _, tyX10, rfl, ein_10, by decide, eTb_t 1180 (by decide +kernel) rfl, tyX10_ok, nmX10, by decide, by decide +kernel⟩
theorem ml_RX10_184 : Cond.methodLink RX10 184 yJ0_charAt_5068e ∈ eTb := eTb_t 1518 (by decide +kernel) rfl
theorem wc_X10_begins : eWc m_X10_begins 1 := ⟨eTb_t 1516 (by decide +kernel) rfl, eTb_t 11 (by decide +kernel) rfl, ⟨by decide +kernel, by decide +kernel, by decide +kernel⟩, by decide +kernel, by decide⟩
theorem ml_RX10_197 : Cond.methodLink RX10 197 yX10_begins ∈ eTb := eTb_t 1514 (by decide +kernel) rfl
theorem sm_X10_begins : Cond.static yX10_begins ∈ eTb := eTb_t 1515 (by decide +kernel) rfl
theorem fl_RX10_194 : eFl RX10 194 10 17 := ⟨_, _, _, rfl, ein_10, by decide, eTb_t 1179 (by decide +kernel) rfl⟩
theorem wc_X10_byteAt : eWc m_X10_byteAt 1 := ⟨eTb_t 1522 (by decide +kernel) rfl, eTb_t 11 (by decide +kernel) rfl, ⟨by decide +kernel, by decide +kernel, by decide +kernel⟩, by decide +kernel, by decide⟩
theorem ml_RX10_200 : Cond.methodLink RX10 200 yX10_byteAt ∈ eTb := eTb_t 1519 (by decide +kernel) rfl
theorem im_X10_byteAt : Cond.instanceMethod yX10_byteAt ∈ eTb := eTb_t 1521 (by decide +kernel) rfl
theorem se_X10_byteAt : Cond.selects yX10_byteAt.cls yX10_byteAt yX10_byteAt ∈ eTb := eTb_p 47 (by decide +kernel) rfl
theorem fl_RX10_190 : eFl RX10 190 10 18 := ⟨_, _, _, rfl, ein_10, by decide, eTb_t 1180 (by decide +kernel) rfl⟩
theorem wc_X10_wrong : eWc m_X10_wrong 1 := ⟨eTb_t 1526 (by decide +kernel) rfl, eTb_t 11 (by decide +kernel) rfl, ⟨by decide +kernel, by decide +kernel, by decide +kernel⟩, by decide +kernel, by decide⟩
theorem ml_RX10_203 : Cond.methodLink RX10 203 yX10_wrong ∈ eTb := eTb_t 1523 (by decide +kernel) rfl
theorem im_X10_wrong : Cond.instanceMethod yX10_wrong ∈ eTb := eTb_t 1525 (by decide +kernel) rfl
theorem se_X10_wrong : Cond.selects yX10_wrong.cls yX10_wrong yX10_wrong ∈ eTb := eTb_p 48 (by decide +kernel) rfl
theorem wc_X10_word : eWc m_X10_word 2 := ⟨eTb_t 1513 (by decide +kernel) rfl, eTb_t 11 (by decide +kernel) rfl, ⟨by decide +kernel, by decide +kernel, by decide +kernel⟩, by decide +kernel, by decide⟩
theorem ml_RX10_209 : Cond.methodLink RX10 209 yX10_word ∈ eTb := eTb_t 1510 (by decide +kernel) rfl
theorem im_X10_word : Cond.instanceMethod yX10_word ∈ eTb := eTb_t 1512 (by decide +kernel) rfl
theorem se_X10_word : Cond.selects yX10_word.cls yX10_word yX10_word ∈ eTb := eTb_p 46 (by decide +kernel) rfl
theorem wc_X10_takes : eWc m_X10_takes 1 := ⟨eTb_t 1534 (by decide +kernel) rfl, eTb_t 11 (by decide +kernel) rfl, ⟨by decide +kernel, by decide +kernel, by decide +kernel⟩, by decide +kernel, by decide⟩
theorem ml_RX10_206 : Cond.methodLink RX10 206 yX10_takes ∈ eTb := eTb_t 1531 (by decide +kernel) rfl
theorem im_X10_takes : Cond.instanceMethod yX10_takes ∈ eTb := eTb_t 1533 (by decide +kernel) rfl
theorem se_X10_takes : Cond.selects yX10_takes.cls yX10_takes yX10_takes ∈ eTb := eTb_p 50 (by decide +kernel) rfl
theorem wc_X10_needs : eWc m_X10_needs 1 := ⟨eTb_t 1530 (by decide +kernel) rfl, eTb_t 11 (by decide +kernel) rfl, ⟨by decide +kernel, by decide +kernel, by decide +kernel⟩, by decide +kernel, by decide⟩
theorem ml_RX10_215 : Cond.methodLink RX10 215 yX10_needs ∈ eTb := eTb_t 1527 (by decide +kernel) rfl
theorem im_X10_needs : Cond.instanceMethod yX10_needs ∈ eTb := eTb_t 1529 (by decide +kernel) rfl
theorem se_X10_needs : Cond.selects yX10_needs.cls yX10_needs yX10_needs ∈ eTb := eTb_p 49 (by decide +kernel) rfl
theorem wc_X10_digits : eWc m_X10_digits 0 := ⟨eTb_t 1542 (by decide +kernel) rfl, eTb_t 11 (by decide +kernel) rfl, ⟨by decide +kernel, by decide +kernel, by decide +kernel⟩, by decide +kernel, by decide⟩
theorem ml_RX10_212 : Cond.methodLink RX10 212 yX10_digits ∈ eTb := eTb_t 1539 (by decide +kernel) rfl
theorem im_X10_digits : Cond.instanceMethod yX10_digits ∈ eTb := eTb_t 1541 (by decide +kernel) rfl
theorem se_X10_digits : Cond.selects yX10_digits.cls yX10_digits yX10_digits ∈ eTb := eTb_p 52 (by decide +kernel) rfl
theorem wc_X10_test : eWc m_X10_test 2 := ⟨eTb_t 1538 (by decide +kernel) rfl, eTb_t 11 (by decide +kernel) rfl, ⟨by decide +kernel, by decide +kernel, by decide +kernel⟩, by decide +kernel, by decide⟩
theorem ml_RX10_218 : Cond.methodLink RX10 218 yX10_test ∈ eTb := eTb_t 1535 (by decide +kernel) rfl
theorem im_X10_test : Cond.instanceMethod yX10_test ∈ eTb := eTb_t 1537 (by decide +kernel) rfl
theorem se_X10_test : Cond.selects yX10_test.cls yX10_test yX10_test ∈ eTb := eTb_p 51 (by decide +kernel) rfl
theorem wc_X10_clause : eWc m_X10_clause 1 := ⟨eTb_t 1509 (by decide +kernel) rfl, eTb_t 11 (by decide +kernel) rfl, ⟨by decide +kernel, by decide +kernel, by decide +kernel⟩, by decide +kernel, by decide⟩
theorem ml_RX10_222 : Cond.methodLink RX10 222 yX10_clause ∈ eTb := eTb_t 1506 (by decide +kernel) rfl
theorem im_X10_clause : Cond.instanceMethod yX10_clause ∈ eTb := eTb_t 1508 (by decide +kernel) rfl
theorem se_X10_clause : Cond.selects yX10_clause.cls yX10_clause yX10_clause ∈ eTb := eTb_p 45 (by decide +kernel) rfl
theorem fl_RX9_317 : eFl RX9 317 7 2 := ⟨_, _, _, rfl, ein_7, by decide, eTb_t 289 (by decide +kernel) rfl⟩
theorem ml_RX9_320 : Cond.methodLink RX9 320 yX8_clauseOf ∈ eTb := eTb_t 885 (by decide +kernel) rfl
theorem ml_RX9_323 : Cond.methodLink RX9 323 yX7_says ∈ eTb := eTb_t 886 (by decide +kernel) rfl
theorem wc_X8_shownSet : eWc m_X8_shownSet 0 := ⟨eTb_t 906 (by decide +kernel) rfl, eTb_t 2 (by decide +kernel) rfl, ⟨by decide +kernel, by decide +kernel, by decide +kernel⟩, by decide +kernel, by decide⟩
theorem ml_RX8_154 : Cond.methodLink RX8 154 yX8_shownSet ∈ eTb := eTb_t 903 (by decide +kernel) rfl
theorem im_X8_shownSet : Cond.instanceMethod yX8_shownSet ∈ eTb := eTb_t 904 (by decide +kernel) rfl
theorem se_X8_shownSet : Cond.selects yX8_shownSet.cls yX8_shownSet yX8_shownSet ∈ eTb := eTb_t 905 (by decide +kernel) rfl
theorem fl_RX8_165 : eFl RX8 165 5 4 := ⟨_, _, _, rfl, ein_5, by decide, eTb_t 138 (by decide +kernel) rfl⟩
theorem wc_X8_eyeOn : eWc m_X8_eyeOn 2 := ⟨eTb_t 910 (by decide +kernel) rfl, eTb_t 2 (by decide +kernel) rfl, ⟨by decide +kernel, by decide +kernel, by decide +kernel⟩, by decide +kernel, by decide⟩
theorem ml_RX8_158 : Cond.methodLink RX8 158 yX8_eyeOn ∈ eTb := eTb_t 907 (by decide +kernel) rfl
theorem im_X8_eyeOn : Cond.instanceMethod yX8_eyeOn ∈ eTb := eTb_t 909 (by decide +kernel) rfl
theorem se_X8_eyeOn : Cond.selects yX8_eyeOn.cls yX8_eyeOn yX8_eyeOn ∈ eTb := eTb_p 10 (by decide +kernel) rfl
theorem mn_RX8_162 : Cond.methodLinkNest RX8 162 yX9_isIn "GhostCoast" ∈ eNest := eNest_t 911 (by decide +kernel) rfl
theorem fl_RX8_50 : eFl RX8 50 8 6 := ⟨_, _, _, rfl, ein_8, by decide, eTb_t 375 (by decide +kernel) rfl⟩
theorem lC_54 : layC[54]? = some (.inl (0, 190)) := rfl
theorem wc_X8_collectPairs : eWc m_X8_collectPairs 0 := ⟨eTb_t 902 (by decide +kernel) rfl, eTb_t 2 (by decide +kernel) rfl, ⟨by decide +kernel, by decide +kernel, by decide +kernel⟩, by decide +kernel, by decide⟩
theorem ml_RX9_326 : Cond.methodLink RX9 326 yX8_collectPairs ∈ eTb := eTb_t 899 (by decide +kernel) rfl
theorem im_X8_collectPairs : Cond.instanceMethod yX8_collectPairs ∈ eTb := eTb_t 900 (by decide +kernel) rfl
theorem se_X8_collectPairs : Cond.selects yX8_collectPairs.cls yX8_collectPairs yX8_collectPairs ∈ eTb := eTb_t 901 (by decide +kernel) rfl
theorem fl_RX9_329 : eFl RX9 329 8 6 := ⟨_, _, _, rfl, ein_8, by decide, eTb_t 376 (by decide +kernel) rfl⟩
theorem wc_X8_lesserOf : eWc m_X8_lesserOf 1 := ⟨eTb_t 914 (by decide +kernel) rfl, eTb_t 2 (by decide +kernel) rfl, ⟨by decide +kernel, by decide +kernel, by decide +kernel⟩, by decide +kernel, by decide⟩
theorem ml_RX9_332 : Cond.methodLink RX9 332 yX8_lesserOf ∈ eTb := eTb_t 912 (by decide +kernel) rfl
theorem sm_X8_lesserOf : Cond.static yX8_lesserOf ∈ eTb := eTb_t 913 (by decide +kernel) rfl
theorem wc_X8_greaterOf : eWc m_X8_greaterOf 1 := ⟨eTb_t 917 (by decide +kernel) rfl, eTb_t 2 (by decide +kernel) rfl, ⟨by decide +kernel, by decide +kernel, by decide +kernel⟩, by decide +kernel, by decide⟩
theorem ml_RX9_335 : Cond.methodLink RX9 335 yX8_greaterOf ∈ eTb := eTb_t 915 (by decide +kernel) rfl
theorem sm_X8_greaterOf : Cond.static yX8_greaterOf ∈ eTb := eTb_t 916 (by decide +kernel) rfl
theorem wc_X8_eyeOf : eWc m_X8_eyeOf 1 := ⟨eTb_t 920 (by decide +kernel) rfl, eTb_t 2 (by decide +kernel) rfl, ⟨by decide +kernel, by decide +kernel, by decide +kernel⟩, by decide +kernel, by decide⟩
theorem ml_RX9_338 : Cond.methodLink RX9 338 yX8_eyeOf ∈ eTb := eTb_t 918 (by decide +kernel) rfl
theorem sm_X8_eyeOf : Cond.static yX8_eyeOf ∈ eTb := eTb_t 919 (by decide +kernel) rfl
theorem wc_X10_eyeOf : eWc m_X10_eyeOf 2 := ⟨eTb_t 1570 (by decide +kernel) rfl, eTb_t 11 (by decide +kernel) rfl, ⟨by decide +kernel, by decide +kernel, by decide +kernel⟩, by decide +kernel, by decide⟩
theorem ml_RX10_237 : Cond.methodLink RX10 237 yX10_eyeOf ∈ eTb := eTb_t 1567 (by decide +kernel) rfl
theorem im_X10_eyeOf : Cond.instanceMethod yX10_eyeOf ∈ eTb := eTb_t 1569 (by decide +kernel) rfl
theorem se_X10_eyeOf : Cond.selects yX10_eyeOf.cls yX10_eyeOf yX10_eyeOf ∈ eTb := eTb_p 54 (by decide +kernel) rfl
theorem fl_RX10_240 : eFl RX10 240 10 19 := ⟨_, _, _, rfl, ein_10, by decide, eTb_t 1181 (by decide +kernel) rfl⟩
theorem fp_RX10_240 : eFp RX10 240 10 19 .int := ⟨_, _, _, tyX10, rfl, ein_10, by decide, eTb_t 1181 (by decide +kernel) rfl, tyX10_ok, nmX10, by decide, by decide +kernel⟩
theorem fl_RX10_243 : eFl RX10 243 10 20 := ⟨_, _, _, rfl, ein_10, by decide, eTb_t 1182 (by decide +kernel) rfl⟩
theorem fp_RX10_243 : eFp RX10 243 10 20 .int := ⟨_, _, _, tyX10, rfl, ein_10, by decide, eTb_t 1182 (by decide +kernel) rfl, tyX10_ok, nmX10, by decide, by decide +kernel⟩
theorem wc_X10_pairs : eWc m_X10_pairs 1 := ⟨eTb_t 1566 (by decide +kernel) rfl, eTb_t 11 (by decide +kernel) rfl, ⟨by decide +kernel, by decide +kernel, by decide +kernel⟩, by decide +kernel, by decide⟩
theorem ml_RX10_246 : Cond.methodLink RX10 246 yX10_pairs ∈ eTb := eTb_t 1563 (by decide +kernel) rfl
theorem im_X10_pairs : Cond.instanceMethod yX10_pairs ∈ eTb := eTb_t 1565 (by decide +kernel) rfl
theorem se_X10_pairs : Cond.selects yX10_pairs.cls yX10_pairs yX10_pairs ∈ eTb := eTb_p 53 (by decide +kernel) rfl
theorem mm_RX3_69 : eMn RX3 69 := ⟨eTb_t 929 (by decide +kernel) rfl, eTb_t 930 (by decide +kernel) rfl, eTb_t 14 (by decide +kernel) rfl, eTb_t 931 (by decide +kernel) rfl⟩
theorem mm_RX3_75 : eMx RX3 75 := ⟨eTb_t 932 (by decide +kernel) rfl, eTb_t 853 (by decide +kernel) rfl, eTb_t 14 (by decide +kernel) rfl, eTb_t 854 (by decide +kernel) rfl⟩
theorem wc_X3_leaveRoomFor : eWc m_X3_leaveRoomFor 1 := ⟨eTb_t 928 (by decide +kernel) rfl, eTb_t 8 (by decide +kernel) rfl, ⟨by decide +kernel, by decide +kernel, by decide +kernel⟩, by decide +kernel, by decide⟩
theorem ml_RX9_341 : Cond.methodLink RX9 341 yX3_leaveRoomFor ∈ eTb := eTb_t 925 (by decide +kernel) rfl
theorem im_X3_leaveRoomFor : Cond.instanceMethod yX3_leaveRoomFor ∈ eTb := eTb_t 926 (by decide +kernel) rfl
theorem se_X3_leaveRoomFor : Cond.selects yX3_leaveRoomFor.cls yX3_leaveRoomFor yX3_leaveRoomFor ∈ eTb := eTb_t 927 (by decide +kernel) rfl
theorem ml_RX9_344 : Cond.methodLink RX9 344 yX3_put ∈ eTb := eTb_t 933 (by decide +kernel) rfl
theorem wc_X8_carriersOf : eWc m_X8_carriersOf 1 := ⟨eTb_t 941 (by decide +kernel) rfl, eTb_t 2 (by decide +kernel) rfl, ⟨by decide +kernel, by decide +kernel, by decide +kernel⟩, by decide +kernel, by decide⟩
theorem ml_RX9_347 : Cond.methodLink RX9 347 yX8_carriersOf ∈ eTb := eTb_t 938 (by decide +kernel) rfl
theorem im_X8_carriersOf : Cond.instanceMethod yX8_carriersOf ∈ eTb := eTb_t 939 (by decide +kernel) rfl
theorem se_X8_carriersOf : Cond.selects yX8_carriersOf.cls yX8_carriersOf yX8_carriersOf ∈ eTb := eTb_t 940 (by decide +kernel) rfl
theorem wc_X5_hasAll : eWc m_X5_hasAll 1 := ⟨eTb_t 949 (by decide +kernel) rfl, eTb_t 4 (by decide +kernel) rfl, ⟨by decide +kernel, by decide +kernel, by decide +kernel⟩, by decide +kernel, by decide⟩
theorem ml_RX9_350 : Cond.methodLink RX9 350 yX5_hasAll ∈ eTb := eTb_t 946 (by decide +kernel) rfl
theorem im_X5_hasAll : Cond.instanceMethod yX5_hasAll ∈ eTb := eTb_t 947 (by decide +kernel) rfl
theorem se_X5_hasAll : Cond.selects yX5_hasAll.cls yX5_hasAll yX5_hasAll ∈ eTb := eTb_t 948 (by decide +kernel) rfl
theorem ld_RJ6_265 : Cond.constant RJ6 265 (1431655765) ∈ eTb := eTb_t 953 (by decide +kernel) rfl
theorem ld_RJ6_266 : Cond.constant RJ6 266 (858993459) ∈ eTb := eTb_t 954 (by decide +kernel) rfl
theorem ld_RJ6_267 : Cond.constant RJ6 267 (252645135) ∈ eTb := eTb_t 955 (by decide +kernel) rfl
theorem wc_J6_bitCount_0f7a4 : eWc m_J6_bitCount_0f7a4 1 := ⟨eTb_t 952 (by decide +kernel) rfl, eTb_t 19 (by decide +kernel) rfl, ⟨by decide +kernel, by decide +kernel, by decide +kernel⟩, by decide +kernel, by decide⟩
theorem ml_RX9_353 : Cond.methodLink RX9 353 yJ6_bitCount_0f7a4 ∈ eTb := eTb_t 950 (by decide +kernel) rfl
theorem sm_J6_bitCount_0f7a4 : Cond.static yJ6_bitCount_0f7a4 ∈ eTb := eTb_t 951 (by decide +kernel) rfl
theorem ml_RX5_57 : Cond.methodLink RX5 57 yX5_need ∈ eTb := eTb_t 964 (by decide +kernel) rfl
theorem wc_X5_needsOf : eWc m_X5_needsOf 1 := ⟨eTb_t 963 (by decide +kernel) rfl, eTb_t 4 (by decide +kernel) rfl, ⟨by decide +kernel, by decide +kernel, by decide +kernel⟩, by decide +kernel, by decide⟩
theorem ml_RX8_168 : Cond.methodLink RX8 168 yX5_needsOf ∈ eTb := eTb_t 960 (by decide +kernel) rfl
theorem im_X5_needsOf : Cond.instanceMethod yX5_needsOf ∈ eTb := eTb_t 961 (by decide +kernel) rfl
theorem se_X5_needsOf : Cond.selects yX5_needsOf.cls yX5_needsOf yX5_needsOf ∈ eTb := eTb_t 962 (by decide +kernel) rfl
theorem ml_RX5_61 : Cond.methodLink RX5 61 yX5_price ∈ eTb := eTb_t 969 (by decide +kernel) rfl
theorem wc_X5_pricesOf : eWc m_X5_pricesOf 1 := ⟨eTb_t 968 (by decide +kernel) rfl, eTb_t 4 (by decide +kernel) rfl, ⟨by decide +kernel, by decide +kernel, by decide +kernel⟩, by decide +kernel, by decide⟩
theorem ml_RX8_171 : Cond.methodLink RX8 171 yX5_pricesOf ∈ eTb := eTb_t 965 (by decide +kernel) rfl
theorem im_X5_pricesOf : Cond.instanceMethod yX5_pricesOf ∈ eTb := eTb_t 966 (by decide +kernel) rfl
theorem se_X5_pricesOf : Cond.selects yX5_pricesOf.cls yX5_pricesOf yX5_pricesOf ∈ eTb := eTb_t 967 (by decide +kernel) rfl
theorem ml_RX3_78 : Cond.methodLink RX3 78 yJ6_bitCount_0f7a4 ∈ eTb := eTb_t 974 (by decide +kernel) rfl
theorem ml_RX3_84 : Cond.methodLink RX3 84 yX3_leaveRoomFor ∈ eTb := eTb_t 975 (by decide +kernel) rfl
theorem fl_RX3_88 : eFl RX3 88 5 10 := ⟨_, _, _, rfl, ein_5, by decide, eTb_t 155 (by decide +kernel) rfl⟩
theorem fl_RX3_91 : eFl RX3 91 5 1 := ⟨_, _, _, rfl, ein_5, by decide, eTb_t 127 (by decide +kernel) rfl⟩
theorem wc_X5_credit : eWc m_X5_credit 1 := ⟨eTb_t 979 (by decide +kernel) rfl, eTb_t 4 (by decide +kernel) rfl, ⟨by decide +kernel, by decide +kernel, by decide +kernel⟩, by decide +kernel, by decide⟩
theorem ml_RX3_92 : Cond.methodLink RX3 92 yX5_credit ∈ eTb := eTb_t 976 (by decide +kernel) rfl
theorem im_X5_credit : Cond.instanceMethod yX5_credit ∈ eTb := eTb_t 977 (by decide +kernel) rfl
theorem se_X5_credit : Cond.selects yX5_credit.cls yX5_credit yX5_credit ∈ eTb := eTb_t 978 (by decide +kernel) rfl
theorem wc_X3_putGiven : eWc m_X3_putGiven 2 := ⟨eTb_t 973 (by decide +kernel) rfl, eTb_t 8 (by decide +kernel) rfl, ⟨by decide +kernel, by decide +kernel, by decide +kernel⟩, by decide +kernel, by decide⟩
theorem ml_RX8_174 : Cond.methodLink RX8 174 yX3_putGiven ∈ eTb := eTb_t 970 (by decide +kernel) rfl
theorem im_X3_putGiven : Cond.instanceMethod yX3_putGiven ∈ eTb := eTb_t 971 (by decide +kernel) rfl
theorem se_X3_putGiven : Cond.selects yX3_putGiven.cls yX3_putGiven yX3_putGiven ∈ eTb := eTb_t 972 (by decide +kernel) rfl
theorem fl_RX8_178 : eFl RX8 178 3 0 := ⟨_, _, _, rfl, ein_3, by decide, eTb_t 348 (by decide +kernel) rfl⟩
theorem ml_RX8_182 : Cond.methodLink RX8 182 yX3_sum ∈ eTb := eTb_t 980 (by decide +kernel) rfl
theorem ml_RX8_186 : Cond.methodLink RX8 186 yJ6_bitCount_0f7a4 ∈ eTb := eTb_t 981 (by decide +kernel) rfl
theorem wc_X8_planFor : eWc m_X8_planFor 4 := ⟨eTb_t 959 (by decide +kernel) rfl, eTb_t 2 (by decide +kernel) rfl, ⟨by decide +kernel, by decide +kernel, by decide +kernel⟩, by decide +kernel, by decide⟩
theorem ml_RX9_358 : Cond.methodLink RX9 358 yX8_planFor ∈ eTb := eTb_t 956 (by decide +kernel) rfl
theorem im_X8_planFor : Cond.instanceMethod yX8_planFor ∈ eTb := eTb_t 957 (by decide +kernel) rfl
theorem se_X8_planFor : Cond.selects yX8_planFor.cls yX8_planFor yX8_planFor ∈ eTb := eTb_t 958 (by decide +kernel) rfl
theorem wc_X10_isSet : eWc m_X10_isSet 1 := ⟨eTb_t 1586 (by decide +kernel) rfl, eTb_t 11 (by decide +kernel) rfl, ⟨by decide +kernel, by decide +kernel, by decide +kernel⟩, by decide +kernel, by decide⟩
theorem ml_RX10_252 : Cond.methodLink RX10 252 yX10_isSet ∈ eTb := eTb_t 1583 (by decide +kernel) rfl
theorem im_X10_isSet : Cond.instanceMethod yX10_isSet ∈ eTb := eTb_t 1585 (by decide +kernel) rfl
theorem se_X10_isSet : Cond.selects yX10_isSet.cls yX10_isSet yX10_isSet ∈ eTb := eTb_p 55 (by decide +kernel) rfl
theorem wc_X10_ones : eWc m_X10_ones 1 := ⟨eTb_t 1589 (by decide +kernel) rfl, eTb_t 11 (by decide +kernel) rfl, ⟨by decide +kernel, by decide +kernel, by decide +kernel⟩, by decide +kernel, by decide⟩
theorem ml_RX10_255 : Cond.methodLink RX10 255 yX10_ones ∈ eTb := eTb_t 1587 (by decide +kernel) rfl
theorem sm_X10_ones : Cond.static yX10_ones ∈ eTb := eTb_t 1588 (by decide +kernel) rfl
theorem wc_X10_lasts : eWc m_X10_lasts 3 := ⟨eTb_t 1593 (by decide +kernel) rfl, eTb_t 11 (by decide +kernel) rfl, ⟨by decide +kernel, by decide +kernel, by decide +kernel⟩, by decide +kernel, by decide⟩
theorem ml_RX10_258 : Cond.methodLink RX10 258 yX10_lasts ∈ eTb := eTb_t 1590 (by decide +kernel) rfl
theorem im_X10_lasts : Cond.instanceMethod yX10_lasts ∈ eTb := eTb_t 1592 (by decide +kernel) rfl
theorem se_X10_lasts : Cond.selects yX10_lasts.cls yX10_lasts yX10_lasts ∈ eTb := eTb_p 56 (by decide +kernel) rfl
theorem wc_X10_giveOf : eWc m_X10_giveOf 1 := ⟨eTb_t 1601 (by decide +kernel) rfl, eTb_t 11 (by decide +kernel) rfl, ⟨by decide +kernel, by decide +kernel, by decide +kernel⟩, by decide +kernel, by decide⟩
theorem ml_RX10_249 : Cond.methodLink RX10 249 yX10_giveOf ∈ eTb := eTb_t 1598 (by decide +kernel) rfl
theorem im_X10_giveOf : Cond.instanceMethod yX10_giveOf ∈ eTb := eTb_t 1600 (by decide +kernel) rfl
theorem se_X10_giveOf : Cond.selects yX10_giveOf.cls yX10_giveOf yX10_giveOf ∈ eTb := eTb_p 58 (by decide +kernel) rfl
theorem wc_X10_give : eWc m_X10_give 2 := ⟨eTb_t 1597 (by decide +kernel) rfl, eTb_t 11 (by decide +kernel) rfl, ⟨by decide +kernel, by decide +kernel, by decide +kernel⟩, by decide +kernel, by decide⟩
theorem ml_RX10_261 : Cond.methodLink RX10 261 yX10_give ∈ eTb := eTb_t 1594 (by decide +kernel) rfl
theorem im_X10_give : Cond.instanceMethod yX10_give ∈ eTb := eTb_t 1596 (by decide +kernel) rfl
theorem se_X10_give : Cond.selects yX10_give.cls yX10_give yX10_give ∈ eTb := eTb_p 57 (by decide +kernel) rfl
theorem ml_RX9_361 : Cond.methodLink RX9 361 yX3_putGiven ∈ eTb := eTb_t 986 (by decide +kernel) rfl
theorem ml_RX9_365 : Cond.methodLink RX9 365 yX8_shownSet ∈ eTb := eTb_t 991 (by decide +kernel) rfl
theorem fl_RX8_191 : eFl RX8 191 1 8 := ⟨_, _, _, rfl, ein_1, by decide, eTb_t 244 (by decide +kernel) rfl⟩
theorem mm_RX8_194 : eMn RX8 194 := ⟨eTb_t 996 (by decide +kernel) rfl, eTb_t 930 (by decide +kernel) rfl, eTb_t 14 (by decide +kernel) rfl, eTb_t 931 (by decide +kernel) rfl⟩
theorem wc_X3_putDaily : eWc m_X3_putDaily 3 := ⟨eTb_t 1000 (by decide +kernel) rfl, eTb_t 8 (by decide +kernel) rfl, ⟨by decide +kernel, by decide +kernel, by decide +kernel⟩, by decide +kernel, by decide⟩
theorem ml_RX8_199 : Cond.methodLink RX8 199 yX3_putDaily ∈ eTb := eTb_t 997 (by decide +kernel) rfl
theorem im_X3_putDaily : Cond.instanceMethod yX3_putDaily ∈ eTb := eTb_t 998 (by decide +kernel) rfl
theorem se_X3_putDaily : Cond.selects yX3_putDaily.cls yX3_putDaily yX3_putDaily ∈ eTb := eTb_t 999 (by decide +kernel) rfl
theorem ml_RX8_203 : Cond.methodLink RX8 203 yX3_heaviest ∈ eTb := eTb_t 1001 (by decide +kernel) rfl
theorem wc_X8_firstDayWithout : eWc m_X8_firstDayWithout 2 := ⟨eTb_t 995 (by decide +kernel) rfl, eTb_t 2 (by decide +kernel) rfl, ⟨by decide +kernel, by decide +kernel, by decide +kernel⟩, by decide +kernel, by decide⟩
theorem ml_RX9_368 : Cond.methodLink RX9 368 yX8_firstDayWithout ∈ eTb := eTb_t 992 (by decide +kernel) rfl
theorem im_X8_firstDayWithout : Cond.instanceMethod yX8_firstDayWithout ∈ eTb := eTb_t 993 (by decide +kernel) rfl
theorem se_X8_firstDayWithout : Cond.selects yX8_firstDayWithout.cls yX8_firstDayWithout yX8_firstDayWithout ∈ eTb := eTb_t 994 (by decide +kernel) rfl
theorem fl_RX8_206 : eFl RX8 206 0 12 := ⟨_, _, _, rfl, ein_0, by decide, eTb_t 72 (by decide +kernel) rfl⟩
theorem mn_RX5_64 : Cond.methodLinkNest RX5 64 yX9_isUnder "GhostCoast" ∈ eNest := eNest_t 1014 (by decide +kernel) rfl
theorem wc_X5_breakBy : eWc m_X5_breakBy 1 := ⟨eTb_t 1013 (by decide +kernel) rfl, eTb_t 4 (by decide +kernel) rfl, ⟨by decide +kernel, by decide +kernel, by decide +kernel⟩, by decide +kernel, by decide⟩
theorem ml_RX8_209 : Cond.methodLink RX8 209 yX5_breakBy ∈ eTb := eTb_t 1010 (by decide +kernel) rfl
theorem im_X5_breakBy : Cond.instanceMethod yX5_breakBy ∈ eTb := eTb_t 1011 (by decide +kernel) rfl
theorem se_X5_breakBy : Cond.selects yX5_breakBy.cls yX5_breakBy yX5_breakBy ∈ eTb := eTb_t 1012 (by decide +kernel) rfl
theorem fl_RX8_213 : eFl RX8 213 2 4 := ⟨_, _, _, rfl, ein_2, by decide, eTb_t 196 (by decide +kernel) rfl⟩
theorem fl_RX8_216 : eFl RX8 216 0 13 := ⟨_, _, _, rfl, ein_0, by decide, eTb_t 75 (by decide +kernel) rfl⟩
theorem wc_X2_isSeeing : eWc m_X2_isSeeing 3 := ⟨eTb_t 1018 (by decide +kernel) rfl, eTb_t 5 (by decide +kernel) rfl, ⟨by decide +kernel, by decide +kernel, by decide +kernel⟩, by decide +kernel, by decide⟩
theorem ml_RX8_219 : Cond.methodLink RX8 219 yX2_isSeeing ∈ eTb := eTb_t 1015 (by decide +kernel) rfl
theorem im_X2_isSeeing : Cond.instanceMethod yX2_isSeeing ∈ eTb := eTb_t 1016 (by decide +kernel) rfl
theorem se_X2_isSeeing : Cond.selects yX2_isSeeing.cls yX2_isSeeing yX2_isSeeing ∈ eTb := eTb_t 1017 (by decide +kernel) rfl
theorem fl_RX8_247 : eFl RX8 247 2 3 := ⟨_, _, _, rfl, ein_2, by decide, eTb_t 193 (by decide +kernel) rfl⟩
theorem fl_RX8_250 : eFl RX8 250 2 1 := ⟨_, _, _, rfl, ein_2, by decide, eTb_t 189 (by decide +kernel) rfl⟩
theorem fl_RX8_253 : eFl RX8 253 2 2 := ⟨_, _, _, rfl, ein_2, by decide, eTb_t 191 (by decide +kernel) rfl⟩
theorem ml_RX8_256 : Cond.methodLink RX8 256 yX5_top ∈ eTb := eTb_t 1023 (by decide +kernel) rfl
theorem ml_RX8_259 : Cond.methodLink RX8 259 yX8_reportShow ∈ eTb := eTb_t 1024 (by decide +kernel) rfl
theorem wc_X8_seeShows : eWc m_X8_seeShows 1 := ⟨eTb_t 1022 (by decide +kernel) rfl, eTb_t 2 (by decide +kernel) rfl, ⟨by decide +kernel, by decide +kernel, by decide +kernel⟩, by decide +kernel, by decide⟩
theorem ml_RX8_223 : Cond.methodLink RX8 223 yX8_seeShows ∈ eTb := eTb_t 1019 (by decide +kernel) rfl
theorem im_X8_seeShows : Cond.instanceMethod yX8_seeShows ∈ eTb := eTb_t 1021 (by decide +kernel) rfl
theorem se_X8_seeShows : Cond.selects yX8_seeShows.cls yX8_seeShows yX8_seeShows ∈ eTb := eTb_p 11 (by decide +kernel) rfl
theorem fl_RX8_263 : eFl RX8 263 0 0 := ⟨_, _, _, rfl, ein_0, by decide, eTb_t 42 (by decide +kernel) rfl⟩
theorem fl_RX8_266 : eFl RX8 266 0 9 := ⟨_, _, _, rfl, ein_0, by decide, eTb_t 63 (by decide +kernel) rfl⟩
theorem fl_RX8_269 : eFl RX8 269 0 5 := ⟨_, _, _, rfl, ein_0, by decide, eTb_t 54 (by decide +kernel) rfl⟩
theorem ml_RX8_272 : Cond.methodLink RX8 272 yX0_isOnRoad ∈ eTb := eTb_t 1029 (by decide +kernel) rfl
theorem fl_RX8_275 : eFl RX8 275 0 10 := ⟨_, _, _, rfl, ein_0, by decide, eTb_t 66 (by decide +kernel) rfl⟩
theorem ml_RX8_278 : Cond.methodLink RX8 278 yX8_reportStory ∈ eTb := eTb_t 1030 (by decide +kernel) rfl
theorem wc_X8_seeUnits : eWc m_X8_seeUnits 1 := ⟨eTb_t 1028 (by decide +kernel) rfl, eTb_t 2 (by decide +kernel) rfl, ⟨by decide +kernel, by decide +kernel, by decide +kernel⟩, by decide +kernel, by decide⟩
theorem ml_RX8_226 : Cond.methodLink RX8 226 yX8_seeUnits ∈ eTb := eTb_t 1025 (by decide +kernel) rfl
theorem im_X8_seeUnits : Cond.instanceMethod yX8_seeUnits ∈ eTb := eTb_t 1027 (by decide +kernel) rfl
theorem se_X8_seeUnits : Cond.selects yX8_seeUnits.cls yX8_seeUnits yX8_seeUnits ∈ eTb := eTb_p 12 (by decide +kernel) rfl
theorem fl_RX8_229 : eFl RX8 229 2 6 := ⟨_, _, _, rfl, ein_2, by decide, eTb_t 201 (by decide +kernel) rfl⟩
theorem fl_RX8_232 : eFl RX8 232 2 5 := ⟨_, _, _, rfl, ein_2, by decide, eTb_t 198 (by decide +kernel) rfl⟩
theorem mn_RX8_281 : Cond.methodLinkNest RX8 281 yX9_isBetween "GhostCoast" ∈ eNest := eNest_t 1035 (by decide +kernel) rfl
theorem wc_X8_hearNets : eWc m_X8_hearNets 0 := ⟨eTb_t 1034 (by decide +kernel) rfl, eTb_t 2 (by decide +kernel) rfl, ⟨by decide +kernel, by decide +kernel, by decide +kernel⟩, by decide +kernel, by decide⟩
theorem ml_RX8_235 : Cond.methodLink RX8 235 yX8_hearNets ∈ eTb := eTb_t 1031 (by decide +kernel) rfl
theorem im_X8_hearNets : Cond.instanceMethod yX8_hearNets ∈ eTb := eTb_t 1033 (by decide +kernel) rfl
theorem se_X8_hearNets : Cond.selects yX8_hearNets.cls yX8_hearNets yX8_hearNets ∈ eTb := eTb_p 13 (by decide +kernel) rfl
theorem fl_RX8_284 : eFl RX8 284 5 6 := ⟨_, _, _, rfl, ein_5, by decide, eTb_t 144 (by decide +kernel) rfl⟩
theorem wc_X8_findPapers : eWc m_X8_findPapers 0 := ⟨eTb_t 1039 (by decide +kernel) rfl, eTb_t 2 (by decide +kernel) rfl, ⟨by decide +kernel, by decide +kernel, by decide +kernel⟩, by decide +kernel, by decide⟩
theorem ml_RX8_238 : Cond.methodLink RX8 238 yX8_findPapers ∈ eTb := eTb_t 1036 (by decide +kernel) rfl
theorem im_X8_findPapers : Cond.instanceMethod yX8_findPapers ∈ eTb := eTb_t 1038 (by decide +kernel) rfl
theorem se_X8_findPapers : Cond.selects yX8_findPapers.cls yX8_findPapers yX8_findPapers ∈ eTb := eTb_p 14 (by decide +kernel) rfl
theorem wc_X0_march : eWc m_X0_march 0 := ⟨eTb_t 1043 (by decide +kernel) rfl, eTb_t 3 (by decide +kernel) rfl, ⟨by decide +kernel, by decide +kernel, by decide +kernel⟩, by decide +kernel, by decide⟩
theorem ml_RX8_241 : Cond.methodLink RX8 241 yX0_march ∈ eTb := eTb_t 1040 (by decide +kernel) rfl
theorem im_X0_march : Cond.instanceMethod yX0_march ∈ eTb := eTb_t 1041 (by decide +kernel) rfl
theorem se_X0_march : Cond.selects yX0_march.cls yX0_march yX0_march ∈ eTb := eTb_t 1042 (by decide +kernel) rfl
theorem fp_RX8_85 : eFp RX8 85 0 11 .int := ⟨_, _, _, tyX0, rfl, ein_0, by decide, eTb_t 67 (by decide +kernel) rfl, tyX0_ok, nmX0, by decide, by decide +kernel⟩
theorem fl_RX8_287 : eFl RX8 287 0 15 := ⟨_, _, _, rfl, ein_0, by decide, eTb_t 81 (by decide +kernel) rfl⟩
theorem wc_X5_pay : eWc m_X5_pay 1 := ⟨eTb_t 1051 (by decide +kernel) rfl, eTb_t 4 (by decide +kernel) rfl, ⟨by decide +kernel, by decide +kernel, by decide +kernel⟩, by decide +kernel, by decide⟩
theorem ml_RX8_290 : Cond.methodLink RX8 290 yX5_pay ∈ eTb := eTb_t 1048 (by decide +kernel) rfl
theorem im_X5_pay : Cond.instanceMethod yX5_pay ∈ eTb := eTb_t 1049 (by decide +kernel) rfl
theorem se_X5_pay : Cond.selects yX5_pay.cls yX5_pay yX5_pay ∈ eTb := eTb_t 1050 (by decide +kernel) rfl
theorem fp_RX8_287 : eFp RX8 287 0 15 .int := ⟨_, _, _, tyX0, rfl, ein_0, by decide, eTb_t 81 (by decide +kernel) rfl, tyX0_ok, nmX0, by decide, by decide +kernel⟩
theorem fl_RX8_46 : eFl RX8 46 8 5 := ⟨_, _, _, rfl, ein_8, by decide, eTb_t 373 (by decide +kernel) rfl⟩
theorem fl_RX8_293 : eFl RX8 293 0 14 := ⟨_, _, _, rfl, ein_0, by decide, eTb_t 78 (by decide +kernel) rfl⟩
theorem lC_53 : layC[53]? = some (.inl (0, 486)) := rfl
theorem wc_X5_handsOfAll : eWc m_X5_handsOfAll 0 := ⟨eTb_t 1055 (by decide +kernel) rfl, eTb_t 4 (by decide +kernel) rfl, ⟨by decide +kernel, by decide +kernel, by decide +kernel⟩, by decide +kernel, by decide⟩
theorem ml_RX8_296 : Cond.methodLink RX8 296 yX5_handsOfAll ∈ eTb := eTb_t 1052 (by decide +kernel) rfl
theorem im_X5_handsOfAll : Cond.instanceMethod yX5_handsOfAll ∈ eTb := eTb_t 1053 (by decide +kernel) rfl
theorem se_X5_handsOfAll : Cond.selects yX5_handsOfAll.cls yX5_handsOfAll yX5_handsOfAll ∈ eTb := eTb_t 1054 (by decide +kernel) rfl
theorem wc_X5_standing : eWc m_X5_standing 0 := ⟨eTb_t 1059 (by decide +kernel) rfl, eTb_t 4 (by decide +kernel) rfl, ⟨by decide +kernel, by decide +kernel, by decide +kernel⟩, by decide +kernel, by decide⟩
theorem ml_RX8_299 : Cond.methodLink RX8 299 yX5_standing ∈ eTb := eTb_t 1056 (by decide +kernel) rfl
theorem im_X5_standing : Cond.instanceMethod yX5_standing ∈ eTb := eTb_t 1057 (by decide +kernel) rfl
theorem se_X5_standing : Cond.selects yX5_standing.cls yX5_standing yX5_standing ∈ eTb := eTb_t 1058 (by decide +kernel) rfl
theorem wc_X1_knownBy : eWc m_X1_knownBy 1 := ⟨eTb_t 1063 (by decide +kernel) rfl, eTb_t 6 (by decide +kernel) rfl, ⟨by decide +kernel, by decide +kernel, by decide +kernel⟩, by decide +kernel, by decide⟩
theorem ml_RX8_302 : Cond.methodLink RX8 302 yX1_knownBy ∈ eTb := eTb_t 1060 (by decide +kernel) rfl
theorem im_X1_knownBy : Cond.instanceMethod yX1_knownBy ∈ eTb := eTb_t 1061 (by decide +kernel) rfl
theorem se_X1_knownBy : Cond.selects yX1_knownBy.cls yX1_knownBy yX1_knownBy ∈ eTb := eTb_t 1062 (by decide +kernel) rfl
theorem wc_X8_closeDay : eWc m_X8_closeDay 0 := ⟨eTb_t 1047 (by decide +kernel) rfl, eTb_t 2 (by decide +kernel) rfl, ⟨by decide +kernel, by decide +kernel, by decide +kernel⟩, by decide +kernel, by decide⟩
theorem ml_RX8_244 : Cond.methodLink RX8 244 yX8_closeDay ∈ eTb := eTb_t 1044 (by decide +kernel) rfl
theorem im_X8_closeDay : Cond.instanceMethod yX8_closeDay ∈ eTb := eTb_t 1046 (by decide +kernel) rfl
theorem se_X8_closeDay : Cond.selects yX8_closeDay.cls yX8_closeDay yX8_closeDay ∈ eTb := eTb_p 15 (by decide +kernel) rfl
theorem wc_X8_closeHour : eWc m_X8_closeHour 0 := ⟨eTb_t 1009 (by decide +kernel) rfl, eTb_t 2 (by decide +kernel) rfl, ⟨by decide +kernel, by decide +kernel, by decide +kernel⟩, by decide +kernel, by decide⟩
theorem ml_RX9_371 : Cond.methodLink RX9 371 yX8_closeHour ∈ eTb := eTb_t 1006 (by decide +kernel) rfl
theorem im_X8_closeHour : Cond.instanceMethod yX8_closeHour ∈ eTb := eTb_t 1007 (by decide +kernel) rfl
theorem se_X8_closeHour : Cond.selects yX8_closeHour.cls yX8_closeHour yX8_closeHour ∈ eTb := eTb_t 1008 (by decide +kernel) rfl
theorem wc_X10_storm : eWc m_X10_storm 0 := ⟨eTb_t 1621 (by decide +kernel) rfl, eTb_t 11 (by decide +kernel) rfl, ⟨by decide +kernel, by decide +kernel, by decide +kernel⟩, by decide +kernel, by decide⟩
theorem ml_RX10_271 : Cond.methodLink RX10 271 yX10_storm ∈ eTb := eTb_t 1618 (by decide +kernel) rfl
theorem im_X10_storm : Cond.instanceMethod yX10_storm ∈ eTb := eTb_t 1620 (by decide +kernel) rfl
theorem se_X10_storm : Cond.selects yX10_storm.cls yX10_storm yX10_storm ∈ eTb := eTb_p 60 (by decide +kernel) rfl
theorem wc_X10_flies : eWc m_X10_flies 1 := ⟨eTb_t 1625 (by decide +kernel) rfl, eTb_t 11 (by decide +kernel) rfl, ⟨by decide +kernel, by decide +kernel, by decide +kernel⟩, by decide +kernel, by decide⟩
theorem ml_RX10_274 : Cond.methodLink RX10 274 yX10_flies ∈ eTb := eTb_t 1622 (by decide +kernel) rfl
theorem im_X10_flies : Cond.instanceMethod yX10_flies ∈ eTb := eTb_t 1624 (by decide +kernel) rfl
theorem se_X10_flies : Cond.selects yX10_flies.cls yX10_flies yX10_flies ∈ eTb := eTb_p 61 (by decide +kernel) rfl
theorem wc_X10_listens : eWc m_X10_listens 0 := ⟨eTb_t 1629 (by decide +kernel) rfl, eTb_t 11 (by decide +kernel) rfl, ⟨by decide +kernel, by decide +kernel, by decide +kernel⟩, by decide +kernel, by decide⟩
theorem ml_RX10_277 : Cond.methodLink RX10 277 yX10_listens ∈ eTb := eTb_t 1626 (by decide +kernel) rfl
theorem im_X10_listens : Cond.instanceMethod yX10_listens ∈ eTb := eTb_t 1628 (by decide +kernel) rfl
theorem se_X10_listens : Cond.selects yX10_listens.cls yX10_listens yX10_listens ∈ eTb := eTb_p 62 (by decide +kernel) rfl
theorem wc_X10_papers : eWc m_X10_papers 0 := ⟨eTb_t 1633 (by decide +kernel) rfl, eTb_t 11 (by decide +kernel) rfl, ⟨by decide +kernel, by decide +kernel, by decide +kernel⟩, by decide +kernel, by decide⟩
theorem ml_RX10_280 : Cond.methodLink RX10 280 yX10_papers ∈ eTb := eTb_t 1630 (by decide +kernel) rfl
theorem im_X10_papers : Cond.instanceMethod yX10_papers ∈ eTb := eTb_t 1632 (by decide +kernel) rfl
theorem se_X10_papers : Cond.selects yX10_papers.cls yX10_papers yX10_papers ∈ eTb := eTb_p 63 (by decide +kernel) rfl
theorem wc_X10_marches : eWc m_X10_marches 0 := ⟨eTb_t 1637 (by decide +kernel) rfl, eTb_t 11 (by decide +kernel) rfl, ⟨by decide +kernel, by decide +kernel, by decide +kernel⟩, by decide +kernel, by decide⟩
theorem ml_RX10_283 : Cond.methodLink RX10 283 yX10_marches ∈ eTb := eTb_t 1634 (by decide +kernel) rfl
theorem im_X10_marches : Cond.instanceMethod yX10_marches ∈ eTb := eTb_t 1636 (by decide +kernel) rfl
theorem se_X10_marches : Cond.selects yX10_marches.cls yX10_marches yX10_marches ∈ eTb := eTb_p 64 (by decide +kernel) rfl
theorem wc_X10_standing : eWc m_X10_standing 0 := ⟨eTb_t 1645 (by decide +kernel) rfl, eTb_t 11 (by decide +kernel) rfl, ⟨by decide +kernel, by decide +kernel, by decide +kernel⟩, by decide +kernel, by decide⟩
theorem ml_RX10_265 : Cond.methodLink RX10 265 yX10_standing ∈ eTb := eTb_t 1642 (by decide +kernel) rfl
theorem im_X10_standing : Cond.instanceMethod yX10_standing ∈ eTb := eTb_t 1644 (by decide +kernel) rfl
theorem se_X10_standing : Cond.selects yX10_standing.cls yX10_standing yX10_standing ∈ eTb := eTb_p 66 (by decide +kernel) rfl
theorem wc_X10_knownBy : eWc m_X10_knownBy 1 := ⟨eTb_t 1649 (by decide +kernel) rfl, eTb_t 11 (by decide +kernel) rfl, ⟨by decide +kernel, by decide +kernel, by decide +kernel⟩, by decide +kernel, by decide⟩
theorem ml_RX10_268 : Cond.methodLink RX10 268 yX10_knownBy ∈ eTb := eTb_t 1646 (by decide +kernel) rfl
theorem im_X10_knownBy : Cond.instanceMethod yX10_knownBy ∈ eTb := eTb_t 1648 (by decide +kernel) rfl
theorem se_X10_knownBy : Cond.selects yX10_knownBy.cls yX10_knownBy yX10_knownBy ∈ eTb := eTb_p 67 (by decide +kernel) rfl
theorem wc_X10_closes : eWc m_X10_closes 0 := ⟨eTb_t 1641 (by decide +kernel) rfl, eTb_t 11 (by decide +kernel) rfl, ⟨by decide +kernel, by decide +kernel, by decide +kernel⟩, by decide +kernel, by decide⟩
theorem ml_RX10_286 : Cond.methodLink RX10 286 yX10_closes ∈ eTb := eTb_t 1638 (by decide +kernel) rfl
theorem im_X10_closes : Cond.instanceMethod yX10_closes ∈ eTb := eTb_t 1640 (by decide +kernel) rfl
theorem se_X10_closes : Cond.selects yX10_closes.cls yX10_closes yX10_closes ∈ eTb := eTb_p 65 (by decide +kernel) rfl
theorem wc_X10_oneHour : eWc m_X10_oneHour 0 := ⟨eTb_t 1617 (by decide +kernel) rfl, eTb_t 11 (by decide +kernel) rfl, ⟨by decide +kernel, by decide +kernel, by decide +kernel⟩, by decide +kernel, by decide⟩
theorem ml_RX10_289 : Cond.methodLink RX10 289 yX10_oneHour ∈ eTb := eTb_t 1614 (by decide +kernel) rfl
theorem im_X10_oneHour : Cond.instanceMethod yX10_oneHour ∈ eTb := eTb_t 1616 (by decide +kernel) rfl
theorem se_X10_oneHour : Cond.selects yX10_oneHour.cls yX10_oneHour yX10_oneHour ∈ eTb := eTb_p 59 (by decide +kernel) rfl
theorem wc_X8_isClosed : eWc m_X8_isClosed 1 := ⟨eTb_t 1071 (by decide +kernel) rfl, eTb_t 2 (by decide +kernel) rfl, ⟨by decide +kernel, by decide +kernel, by decide +kernel⟩, by decide +kernel, by decide⟩
theorem ml_RX9_374 : Cond.methodLink RX9 374 yX8_isClosed ∈ eTb := eTb_t 1068 (by decide +kernel) rfl
theorem im_X8_isClosed : Cond.instanceMethod yX8_isClosed ∈ eTb := eTb_t 1069 (by decide +kernel) rfl
theorem se_X8_isClosed : Cond.selects yX8_isClosed.cls yX8_isClosed yX8_isClosed ∈ eTb := eTb_t 1070 (by decide +kernel) rfl
theorem fl_RX9_377 : eFl RX9 377 8 5 := ⟨_, _, _, rfl, ein_8, by decide, eTb_t 374 (by decide +kernel) rfl⟩
theorem wc_X10_isClosed : eWc m_X10_isClosed 1 := ⟨eTb_t 1657 (by decide +kernel) rfl, eTb_t 11 (by decide +kernel) rfl, ⟨by decide +kernel, by decide +kernel, by decide +kernel⟩, by decide +kernel, by decide⟩
theorem ml_RX10_292 : Cond.methodLink RX10 292 yX10_isClosed ∈ eTb := eTb_t 1654 (by decide +kernel) rfl
theorem im_X10_isClosed : Cond.instanceMethod yX10_isClosed ∈ eTb := eTb_t 1656 (by decide +kernel) rfl
theorem se_X10_isClosed : Cond.selects yX10_isClosed.cls yX10_isClosed yX10_isClosed ∈ eTb := eTb_p 68 (by decide +kernel) rfl
theorem wc_X10_isCloud : eWc m_X10_isCloud 2 := ⟨eTb_t 1665 (by decide +kernel) rfl, eTb_t 11 (by decide +kernel) rfl, ⟨by decide +kernel, by decide +kernel, by decide +kernel⟩, by decide +kernel, by decide⟩
theorem ml_RX10_295 : Cond.methodLink RX10 295 yX10_isCloud ∈ eTb := eTb_t 1662 (by decide +kernel) rfl
theorem im_X10_isCloud : Cond.instanceMethod yX10_isCloud ∈ eTb := eTb_t 1664 (by decide +kernel) rfl
theorem se_X10_isCloud : Cond.selects yX10_isCloud.cls yX10_isCloud yX10_isCloud ∈ eTb := eTb_p 69 (by decide +kernel) rfl
theorem ml_RX9_380 : Cond.methodLink RX9 380 yX1_knownBy ∈ eTb := eTb_t 1080 (by decide +kernel) rfl
theorem fl_RX9_383 : eFl RX9 383 4 0 := ⟨_, _, _, rfl, ein_4, by decide, eTb_t 424 (by decide +kernel) rfl⟩
theorem ml_RX9_386 : Cond.methodLink RX9 386 yJ7_fill_53178 ∈ eTb := eTb_t 1085 (by decide +kernel) rfl
theorem wc_J7_fill_53178 : eWc m_J7_fill_53178 2 := ⟨eTb_t 1087 (by decide +kernel) rfl, eTb_t 12 (by decide +kernel) rfl, ⟨by decide +kernel, by decide +kernel, by decide +kernel⟩, by decide +kernel, by decide⟩
theorem sm_J7_fill_53178 : Cond.static yJ7_fill_53178 ∈ eTb := eTb_t 1086 (by decide +kernel) rfl
theorem fl_RX4_15 : eFl RX4 15 4 1 := ⟨_, _, _, rfl, ein_4, by decide, eTb_t 425 (by decide +kernel) rfl⟩
theorem wc_X4_hasRange : eWc m_X4_hasRange 3 := ⟨eTb_t 1103 (by decide +kernel) rfl, eTb_t 10 (by decide +kernel) rfl, ⟨by decide +kernel, by decide +kernel, by decide +kernel⟩, by decide +kernel, by decide⟩
theorem ml_RX9_392 : Cond.methodLink RX9 392 yX4_hasRange ∈ eTb := eTb_t 1100 (by decide +kernel) rfl
theorem im_X4_hasRange : Cond.instanceMethod yX4_hasRange ∈ eTb := eTb_t 1101 (by decide +kernel) rfl
theorem se_X4_hasRange : Cond.selects yX4_hasRange.cls yX4_hasRange yX4_hasRange ∈ eTb := eTb_t 1102 (by decide +kernel) rfl
theorem sy_RX9_395 : eSys RX9 395 := ⟨eTb_t 1104 (by decide +kernel) rfl, eTb_t 714 (by decide +kernel) rfl, eTb_t 713 (by decide +kernel) rfl, eTb_t 13 (by decide +kernel) rfl⟩
theorem fl_RX10_54 : eFl RX10 54 10 21 := ⟨_, _, _, rfl, ein_10, by decide, eTb_t 1183 (by decide +kernel) rfl⟩
theorem lR_15 : layR[15]? = some (.inl (0, 20)) := rfl
theorem fl_RX9_16 : eFl RX9 16 9 1 := ⟨_, _, _, rfl, ein_9, by decide, eTb_t 437 (by decide +kernel) rfl⟩
theorem lC_73 : layC[73]? = some (.inr (.inr (8, [some 74, some 84, some 95, some 101, some 112, some 125, some 126, some 127, some 144]))) := rfl
theorem fl_RX0_9 : eFl RX0 9 0 0 := ⟨_, _, _, rfl, ein_0, by decide, eTb_t 40 (by decide +kernel) rfl⟩
theorem lC_74 : layC[74]? = some (.inr (.inr (0, [some 75, some 76, some 77, some 78, none, some 79, some 80, some 81, some 82, none, some 83, none, none, none, none, none]))) := rfl
theorem lC_75 : layC[75]? = some (.inl (0, 96)) := rfl
theorem sy_RX0_50 : eSys RX0 50 := ⟨eTb_t 1117 (by decide +kernel) rfl, eTb_t 714 (by decide +kernel) rfl, eTb_t 713 (by decide +kernel) rfl, eTb_t 13 (by decide +kernel) rfl⟩
theorem lC_76 : layC[76]? = some (.inl (0, 40)) := rfl
theorem lC_77 : layC[77]? = some (.inl (0, 40)) := rfl
theorem lC_78 : layC[78]? = some (.inl (0, 40)) := rfl
theorem lC_79 : layC[79]? = some (.inl (0, 12)) := rfl
theorem lC_80 : layC[80]? = some (.inl (0, 12)) := rfl
theorem lC_81 : layC[81]? = some (.inl (0, 12)) := rfl
theorem lC_82 : layC[82]? = some (.inl (0, 12)) := rfl
theorem fl_RX0_36 : eFl RX0 36 0 10 := ⟨_, _, _, rfl, ein_0, by decide, eTb_t 64 (by decide +kernel) rfl⟩
theorem lC_83 : layC[83]? = some (.inl (0, 4)) := rfl
theorem fl_RX0_56 : eFl RX0 56 0 11 := ⟨_, _, _, rfl, ein_0, by decide, eTb_t 69 (by decide +kernel) rfl⟩
theorem fp_RX0_56 : eFp RX0 56 0 11 .int := ⟨_, _, _, tyX0, rfl, ein_0, by decide, eTb_t 69 (by decide +kernel) rfl, tyX0_ok, nmX0, by decide, by decide +kernel⟩
theorem fl_RX0_59 : eFl RX0 59 0 12 := ⟨_, _, _, rfl, ein_0, by decide, eTb_t 70 (by decide +kernel) rfl⟩
theorem fp_RX0_59 : eFp RX0 59 0 12 .int := ⟨_, _, _, tyX0, rfl, ein_0, by decide, eTb_t 70 (by decide +kernel) rfl, tyX0_ok, nmX0, by decide, by decide +kernel⟩
theorem fl_RX0_62 : eFl RX0 62 0 13 := ⟨_, _, _, rfl, ein_0, by decide, eTb_t 73 (by decide +kernel) rfl⟩
theorem fp_RX0_62 : eFp RX0 62 0 13 .int := ⟨_, _, _, tyX0, rfl, ein_0, by decide, eTb_t 73 (by decide +kernel) rfl, tyX0_ok, nmX0, by decide, by decide +kernel⟩
theorem fl_RX0_65 : eFl RX0 65 0 14 := ⟨_, _, _, rfl, ein_0, by decide, eTb_t 76 (by decide +kernel) rfl⟩
theorem fp_RX0_65 : eFp RX0 65 0 14 .int := ⟨_, _, _, tyX0, rfl, ein_0, by decide, eTb_t 76 (by decide +kernel) rfl, tyX0_ok, nmX0, by decide, by decide +kernel⟩
theorem fl_RX0_68 : eFl RX0 68 0 15 := ⟨_, _, _, rfl, ein_0, by decide, eTb_t 79 (by decide +kernel) rfl⟩
theorem fp_RX0_68 : eFp RX0 68 0 15 .int := ⟨_, _, _, tyX0, rfl, ein_0, by decide, eTb_t 79 (by decide +kernel) rfl, tyX0_ok, nmX0, by decide, by decide +kernel⟩
theorem wc_X0_become : eWc m_X0_become 1 := ⟨eTb_t 1116 (by decide +kernel) rfl, eTb_t 3 (by decide +kernel) rfl, ⟨by decide +kernel, by decide +kernel, by decide +kernel⟩, by decide +kernel, by decide⟩
theorem ml_RX8_63 : Cond.methodLink RX8 63 yX0_become ∈ eTb := eTb_t 1113 (by decide +kernel) rfl
theorem im_X0_become : Cond.instanceMethod yX0_become ∈ eTb := eTb_t 1114 (by decide +kernel) rfl
theorem se_X0_become : Cond.selects yX0_become.cls yX0_become yX0_become ∈ eTb := eTb_t 1115 (by decide +kernel) rfl
theorem lC_84 : layC[84]? = some (.inr (.inr (5, [some 85, some 86, some 87, some 88, some 89, some 90, some 91, some 92, some 93, some 94, none]))) := rfl
theorem lC_85 : layC[85]? = some (.inl (0, 20)) := rfl
theorem sy_RX5_67 : eSys RX5 67 := ⟨eTb_t 1122 (by decide +kernel) rfl, eTb_t 714 (by decide +kernel) rfl, eTb_t 713 (by decide +kernel) rfl, eTb_t 13 (by decide +kernel) rfl⟩
theorem lC_86 : layC[86]? = some (.inl (0, 20)) := rfl
theorem lC_87 : layC[87]? = some (.inl (0, 20)) := rfl
theorem lC_88 : layC[88]? = some (.inl (0, 20)) := rfl
theorem lC_89 : layC[89]? = some (.inl (0, 20)) := rfl
theorem lC_90 : layC[90]? = some (.inl (2, 20)) := rfl
theorem lC_91 : layC[91]? = some (.inl (0, 20)) := rfl
theorem lC_92 : layC[92]? = some (.inl (2, 20)) := rfl
theorem lC_93 : layC[93]? = some (.inl (0, 20)) := rfl
theorem lC_94 : layC[94]? = some (.inl (0, 20)) := rfl
theorem wc_X5_become : eWc m_X5_become 1 := ⟨eTb_t 1121 (by decide +kernel) rfl, eTb_t 4 (by decide +kernel) rfl, ⟨by decide +kernel, by decide +kernel, by decide +kernel⟩, by decide +kernel, by decide⟩
theorem ml_RX8_67 : Cond.methodLink RX8 67 yX5_become ∈ eTb := eTb_t 1118 (by decide +kernel) rfl
theorem im_X5_become : Cond.instanceMethod yX5_become ∈ eTb := eTb_t 1119 (by decide +kernel) rfl
theorem se_X5_become : Cond.selects yX5_become.cls yX5_become yX5_become ∈ eTb := eTb_t 1120 (by decide +kernel) rfl
theorem lC_95 : layC[95]? = some (.inr (.inr (2, [some 96, some 97, some 98, some 99, none, some 100, none]))) := rfl
theorem lC_96 : layC[96]? = some (.inl (0, 30)) := rfl
theorem sy_RX2_38 : eSys RX2 38 := ⟨eTb_t 1127 (by decide +kernel) rfl, eTb_t 714 (by decide +kernel) rfl, eTb_t 713 (by decide +kernel) rfl, eTb_t 13 (by decide +kernel) rfl⟩
theorem lC_97 : layC[97]? = some (.inl (0, 30)) := rfl
theorem lC_98 : layC[98]? = some (.inl (0, 30)) := rfl
theorem lC_99 : layC[99]? = some (.inl (0, 30)) := rfl
theorem lC_100 : layC[100]? = some (.inl (0, 30)) := rfl
theorem wc_X2_become : eWc m_X2_become 1 := ⟨eTb_t 1126 (by decide +kernel) rfl, eTb_t 5 (by decide +kernel) rfl, ⟨by decide +kernel, by decide +kernel, by decide +kernel⟩, by decide +kernel, by decide⟩
theorem ml_RX8_70 : Cond.methodLink RX8 70 yX2_become ∈ eTb := eTb_t 1123 (by decide +kernel) rfl
theorem im_X2_become : Cond.instanceMethod yX2_become ∈ eTb := eTb_t 1124 (by decide +kernel) rfl
theorem se_X2_become : Cond.selects yX2_become.cls yX2_become yX2_become ∈ eTb := eTb_t 1125 (by decide +kernel) rfl
theorem lC_101 : layC[101]? = some (.inr (.inr (1, [some 102, some 103, some 104, some 105, some 106, some 107, some 108, none, none, none, some 109, some 110, some 111]))) := rfl
theorem lC_102 : layC[102]? = some (.inl (0, 90)) := rfl
theorem sy_RX1_88 : eSys RX1 88 := ⟨eTb_t 1132 (by decide +kernel) rfl, eTb_t 714 (by decide +kernel) rfl, eTb_t 713 (by decide +kernel) rfl, eTb_t 13 (by decide +kernel) rfl⟩
theorem lC_103 : layC[103]? = some (.inl (0, 90)) := rfl
theorem lC_104 : layC[104]? = some (.inl (2, 90)) := rfl
theorem lC_105 : layC[105]? = some (.inl (0, 90)) := rfl
theorem lC_106 : layC[106]? = some (.inl (0, 90)) := rfl
theorem lC_107 : layC[107]? = some (.inl (0, 90)) := rfl
theorem lC_108 : layC[108]? = some (.inl (2, 90)) := rfl
theorem fp_RX1_34 : eFp RX1 34 1 8 .int := ⟨_, _, _, tyX1, rfl, ein_1, by decide, eTb_t 243 (by decide +kernel) rfl, tyX1_ok, nmX1, by decide, by decide +kernel⟩
theorem fp_RX1_76 : eFp RX1 76 1 9 .int := ⟨_, _, _, tyX1, rfl, ein_1, by decide, eTb_t 246 (by decide +kernel) rfl, tyX1_ok, nmX1, by decide, by decide +kernel⟩
theorem lC_109 : layC[109]? = some (.inl (0, 4)) := rfl
theorem wc_X1_become : eWc m_X1_become 1 := ⟨eTb_t 1131 (by decide +kernel) rfl, eTb_t 6 (by decide +kernel) rfl, ⟨by decide +kernel, by decide +kernel, by decide +kernel⟩, by decide +kernel, by decide⟩
theorem ml_RX8_73 : Cond.methodLink RX8 73 yX1_become ∈ eTb := eTb_t 1128 (by decide +kernel) rfl
theorem im_X1_become : Cond.instanceMethod yX1_become ∈ eTb := eTb_t 1129 (by decide +kernel) rfl
theorem se_X1_become : Cond.selects yX1_become.cls yX1_become yX1_become ∈ eTb := eTb_t 1130 (by decide +kernel) rfl
theorem lC_112 : layC[112]? = some (.inr (.inr (7, [some 113, some 114, some 115, some 116, none, some 117, some 118, some 119, some 120, some 121, some 122, some 123, some 124]))) := rfl
theorem lC_113 : layC[113]? = some (.inl (0, 8)) := rfl
theorem sy_RX7_68 : eSys RX7 68 := ⟨eTb_t 1137 (by decide +kernel) rfl, eTb_t 714 (by decide +kernel) rfl, eTb_t 713 (by decide +kernel) rfl, eTb_t 13 (by decide +kernel) rfl⟩
theorem lC_114 : layC[114]? = some (.inl (0, 8)) := rfl
theorem lC_115 : layC[115]? = some (.inl (2, 8)) := rfl
theorem lC_116 : layC[116]? = some (.inl (0, 8)) := rfl
theorem lC_117 : layC[117]? = some (.inl (0, 80)) := rfl
theorem lC_118 : layC[118]? = some (.inl (0, 80)) := rfl
theorem lC_119 : layC[119]? = some (.inl (0, 80)) := rfl
theorem lC_120 : layC[120]? = some (.inl (2, 320)) := rfl
theorem lC_121 : layC[121]? = some (.inl (2, 320)) := rfl
theorem lC_122 : layC[122]? = some (.inl (0, 320)) := rfl
theorem lC_123 : layC[123]? = some (.inl (0, 320)) := rfl
theorem lC_124 : layC[124]? = some (.inl (0, 320)) := rfl
theorem wc_X7_become : eWc m_X7_become 1 := ⟨eTb_t 1136 (by decide +kernel) rfl, eTb_t 7 (by decide +kernel) rfl, ⟨by decide +kernel, by decide +kernel, by decide +kernel⟩, by decide +kernel, by decide⟩
theorem ml_RX8_76 : Cond.methodLink RX8 76 yX7_become ∈ eTb := eTb_t 1133 (by decide +kernel) rfl
theorem im_X7_become : Cond.instanceMethod yX7_become ∈ eTb := eTb_t 1134 (by decide +kernel) rfl
theorem se_X7_become : Cond.selects yX7_become.cls yX7_become yX7_become ∈ eTb := eTb_t 1135 (by decide +kernel) rfl
theorem lC_125 : layC[125]? = some (.inl (0, 486)) := rfl
theorem sy_RX8_79 : eSys RX8 79 := ⟨eTb_t 1138 (by decide +kernel) rfl, eTb_t 714 (by decide +kernel) rfl, eTb_t 713 (by decide +kernel) rfl, eTb_t 13 (by decide +kernel) rfl⟩
theorem wc_X8_become : eWc m_X8_become 1 := ⟨eTb_t 1112 (by decide +kernel) rfl, eTb_t 2 (by decide +kernel) rfl, ⟨by decide +kernel, by decide +kernel, by decide +kernel⟩, by decide +kernel, by decide⟩
theorem ml_RX9_401 : Cond.methodLink RX9 401 yX8_become ∈ eTb := eTb_t 1109 (by decide +kernel) rfl
theorem im_X8_become : Cond.instanceMethod yX8_become ∈ eTb := eTb_t 1110 (by decide +kernel) rfl
theorem se_X8_become : Cond.selects yX8_become.cls yX8_become yX8_become ∈ eTb := eTb_t 1111 (by decide +kernel) rfl
theorem fp_RX9_405 : eFp RX9 405 9 2 .boolean := ⟨_, _, _, tyX9, rfl, ein_9, by decide, eTb_t 438 (by decide +kernel) rfl, tyX9_ok, nmX9, by decide, by decide +kernel⟩
theorem fp_RX10_298 : eFp RX10 298 10 2 .boolean := ⟨_, _, _, tyX10, rfl, ein_10, by decide, eTb_t 1164 (by decide +kernel) rfl, tyX10_ok, nmX10, by decide, by decide +kernel⟩
theorem fl_RX10_13 : eFl RX10 13 10 1 := ⟨_, _, _, rfl, ein_10, by decide, eTb_t 1163 (by decide +kernel) rfl⟩
theorem lR_2 : layR[2]? = some (.inl (0, 2900)) := rfl
theorem fl_RX9_405 : eFl RX9 405 9 2 := ⟨_, _, _, rfl, ein_9, by decide, eTb_t 438 (by decide +kernel) rfl⟩
theorem fl_RX10_298 : eFl RX10 298 10 2 := ⟨_, _, _, rfl, ein_10, by decide, eTb_t 1164 (by decide +kernel) rfl⟩
theorem fl_RX9_118 : eFl RX9 118 0 15 := ⟨_, _, _, rfl, ein_0, by decide, eTb_t 80 (by decide +kernel) rfl⟩
theorem ml_RX9_409 : Cond.methodLink RX9 409 yX5_standing ∈ eTb := eTb_t 1151 (by decide +kernel) rfl
