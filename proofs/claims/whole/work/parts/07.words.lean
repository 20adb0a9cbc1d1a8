/-! the tables' words by their places; what is known of methods, classes, cells -/
theorem inT_1 {w : Cond} (h : w ∈ tables_1_1) : w ∈ lw_tbl := List.mem_append_right _ (List.mem_append_left _ h)
theorem inT_2 {w : Cond} (h : w ∈ tables_1_2) : w ∈ lw_tbl := List.mem_append_right _ (List.mem_append_right _ (List.mem_append_left _ h))
theorem inT_3 {w : Cond} (h : w ∈ tables_1_3) : w ∈ lw_tbl := List.mem_append_right _ (List.mem_append_right _ (List.mem_append_right _ (List.mem_append_left _ h)))
theorem inT_4 {w : Cond} (h : w ∈ tables_1_4) : w ∈ lw_tbl := List.mem_append_right _ (List.mem_append_right _ (List.mem_append_right _ (List.mem_append_right _ (List.mem_append_left _ h))))
theorem inT_5 {w : Cond} (h : w ∈ tables_1_5) : w ∈ lw_tbl := List.mem_append_right _ (List.mem_append_right _ (List.mem_append_right _ (List.mem_append_right _ (List.mem_append_right _ (List.mem_append_left _ h)))))
theorem inT_6 {w : Cond} (h : w ∈ tables_1_6) : w ∈ lw_tbl := List.mem_append_right _ (List.mem_append_right _ (List.mem_append_right _ (List.mem_append_right _ (List.mem_append_right _ (List.mem_append_right _ (h))))))
theorem inP {w : Cond} (h : w ∈ k2_sels lw_privs) : w ∈ lw_tbl := List.mem_append_left _ h
theorem gw0 : Cond.static yX0_isField ∈ GW := GW_in (inT_1 (List.mem_of_getElem? (i := 196) rfl)) rfl
theorem gw1 : Cond.methodLink RX0 15 yX0_isField ∈ GW := GW_in (inT_1 (List.mem_of_getElem? (i := 195) rfl)) rfl
theorem gw2 : Cond.fieldLink RX0 19 RX0 (tbn 0) "[I" ∈ GW := GW_in (inT_1 (List.mem_of_getElem? (i := 198) rfl)) rfl
theorem gw3 : Cond.fieldLink RX0 22 RX0 (tbn 1) "[I" ∈ GW := GW_in (inT_1 (List.mem_of_getElem? (i := 200) rfl)) rfl
theorem gw4 : Cond.fieldLink RX0 25 RX0 (tbn 2) "[I" ∈ GW := GW_in (inT_1 (List.mem_of_getElem? (i := 216) rfl)) rfl
theorem gw5 : Cond.fieldLink RX0 11 "EvenSpring$Calendar" "fields" "[I" ∈ GW := GW_in (inT_1 (List.mem_of_getElem? (i := 38) rfl)) rfl
theorem gw6 : Cond.methodLink RX0 28 arraycopyName ∈ GW := GW_in (inT_1 (List.mem_of_getElem? (i := 218) rfl)) rfl
theorem gw7 : Cond.native arraycopyName ∈ GW := GW_in (inT_1 (List.mem_of_getElem? (i := 220) rfl)) rfl
theorem gw8 : Cond.static arraycopyName ∈ GW := GW_in (inT_1 (List.mem_of_getElem? (i := 219) rfl)) rfl
theorem gw9 : Cond.initialized "java/lang/System" ∈ GW := GW_in (inT_1 (List.mem_of_getElem? (i := 8) rfl)) rfl
theorem gw10 : Cond.static yX0_allows ∈ GW := GW_in (inT_1 (List.mem_of_getElem? (i := 193) rfl)) rfl
theorem gw11 : Cond.methodLink RX0 34 yX0_allows ∈ GW := GW_in (inT_2 (List.mem_of_getElem? (i := 2) rfl)) rfl
theorem gw12 : Cond.methodLink RX0 38 yX0_runsAsNew ∈ GW := GW_in (inT_2 (List.mem_of_getElem? (i := 32) rfl)) rfl
theorem gw13 : Cond.methodLink RX0 42 yX0_length ∈ GW := GW_in (inT_2 (List.mem_of_getElem? (i := 36) rfl)) rfl
theorem gw14 : Cond.static yX0_jugDaysUpTo ∈ GW := GW_in (inT_2 (List.mem_of_getElem? (i := 41) rfl)) rfl
theorem gw15 : Cond.methodLink RX0 46 yX0_jugDaysUpTo ∈ GW := GW_in (inT_2 (List.mem_of_getElem? (i := 40) rfl)) rfl
theorem gw16 : Cond.methodLink RX0 49 yX0_runsAt ∈ GW := GW_in (inT_2 (List.mem_of_getElem? (i := 28) rfl)) rfl
theorem gw17 : Cond.fieldLink RX1 9 "EvenSpring$Pilgrim" "ill" "I" ∈ GW := GW_in (inT_1 (List.mem_of_getElem? (i := 48) rfl)) rfl
theorem gw18 : Cond.fieldLink RX1 15 "EvenSpring$Pilgrim" "trusts" "I" ∈ GW := GW_in (inT_1 (List.mem_of_getElem? (i := 51) rfl)) rfl
theorem gw19 : Cond.fieldLink RX1 18 "EvenSpring$Pilgrim" "bathed" "I" ∈ GW := GW_in (inT_1 (List.mem_of_getElem? (i := 53) rfl)) rfl
theorem gw20 : Cond.methodLink RX1 27 Lib.Math.min.name ∈ GW := GW_in (inT_2 (List.mem_of_getElem? (i := 101) rfl)) rfl
theorem gw21 : Cond.static Lib.Math.min.name ∈ GW := GW_in (inT_2 (List.mem_of_getElem? (i := 102) rfl)) rfl
theorem gw22 : Cond.initialized "java/lang/Math" ∈ GW := GW_in (inT_1 (List.mem_of_getElem? (i := 9) rfl)) rfl
theorem gw23 : Cond.code Lib.Math.min.name Lib.Math.min.code 2 (some .int) ∈ GW := GW_in (inT_2 (List.mem_of_getElem? (i := 103) rfl)) rfl
theorem gw24 : Cond.methodLink RX1 21 Lib.Math.max.name ∈ GW := GW_in (inT_2 (List.mem_of_getElem? (i := 98) rfl)) rfl
theorem gw25 : Cond.static Lib.Math.max.name ∈ GW := GW_in (inT_2 (List.mem_of_getElem? (i := 99) rfl)) rfl
theorem gw26 : Cond.code Lib.Math.max.name Lib.Math.max.code 2 (some .int) ∈ GW := GW_in (inT_2 (List.mem_of_getElem? (i := 100) rfl)) rfl
theorem gw27 : Cond.methodLink RX1 30 yX1_takeWater ∈ GW := GW_in (inT_2 (List.mem_of_getElem? (i := 117) rfl)) rfl
theorem gw28 : Cond.static yX5_isIn ∈ GW := GW_in (inT_2 (List.mem_of_getElem? (i := 135) rfl)) rfl
theorem gn29 : Cond.methodLinkNest RX1 34 yX5_isIn "EvenSpring" ∈ NW := List.mem_of_getElem? (i := 27) rfl
theorem gw30 : Cond.methodLink RX1 38 yX1_takeBath ∈ GW := GW_in (inT_2 (List.mem_of_getElem? (i := 137) rfl)) rfl
theorem gw31 : Cond.fieldLink RX2 15 "EvenSpring$Sheet" "bits" "I" ∈ GW := GW_in (inT_1 (List.mem_of_getElem? (i := 146) rfl)) rfl
theorem gw32 : Cond.methodLink RX2 19 Lib.Math.min.name ∈ GW := GW_in (inT_3 (List.mem_of_getElem? (i := 194) rfl)) rfl
theorem gw33 : Cond.methodLink RX2 25 Lib.Math.max.name ∈ GW := GW_in (inT_3 (List.mem_of_getElem? (i := 195) rfl)) rfl
theorem gw34 : Cond.fieldLink RX2 28 "EvenSpring$Sheet" "size" "I" ∈ GW := GW_in (inT_1 (List.mem_of_getElem? (i := 148) rfl)) rfl
theorem gw35 : Cond.fieldLink RX2 9 "EvenSpring$Sheet" "numbers" "[J" ∈ GW := GW_in (inT_1 (List.mem_of_getElem? (i := 150) rfl)) rfl
theorem gw36 : Cond.methodLink RX2 31 yX2_lowest ∈ GW := GW_in (inT_3 (List.mem_of_getElem? (i := 213) rfl)) rfl
theorem gw37 : Cond.fieldLink RX3 29 "EvenSpring$Spring" "day" "I" ∈ GW := GW_in (inT_1 (List.mem_of_getElem? (i := 63) rfl)) rfl
theorem gw38 : Cond.fieldLink RX3 9 "EvenSpring$Spring" "power" "I" ∈ GW := GW_in (inT_1 (List.mem_of_getElem? (i := 65) rfl)) rfl
theorem gw39 : Cond.fieldLink RX3 32 "EvenSpring$Spring" "truth" "I" ∈ GW := GW_in (inT_1 (List.mem_of_getElem? (i := 68) rfl)) rfl
theorem gw40 : Cond.fieldLink RX3 35 "EvenSpring$Spring" "good" "I" ∈ GW := GW_in (inT_1 (List.mem_of_getElem? (i := 71) rfl)) rfl
theorem gw41 : Cond.fieldLink RX3 38 "EvenSpring$Spring" "bad" "I" ∈ GW := GW_in (inT_1 (List.mem_of_getElem? (i := 73) rfl)) rfl
theorem gw42 : Cond.fieldLink RX3 41 "EvenSpring$Spring" "calendarCount" "I" ∈ GW := GW_in (inT_1 (List.mem_of_getElem? (i := 76) rfl)) rfl
theorem gw43 : Cond.fieldLink RX3 44 "EvenSpring$Spring" "pilgrimCount" "I" ∈ GW := GW_in (inT_1 (List.mem_of_getElem? (i := 78) rfl)) rfl
theorem gw44 : Cond.fieldLink RX3 17 "EvenSpring$Spring" "calendars" "[LEvenSpring$Calendar;" ∈ GW := GW_in (inT_1 (List.mem_of_getElem? (i := 81) rfl)) rfl
theorem gw45 : Cond.fieldLink RX3 23 "EvenSpring$Spring" "pilgrims" "[LEvenSpring$Pilgrim;" ∈ GW := GW_in (inT_1 (List.mem_of_getElem? (i := 82) rfl)) rfl
theorem gw46 : Cond.methodLink RX3 51 yX1_become ∈ GW := GW_in (inT_3 (List.mem_of_getElem? (i := 54) rfl)) rfl
theorem gw47 : Cond.methodLink RX3 47 yX0_become ∈ GW := GW_in (inT_3 (List.mem_of_getElem? (i := 53) rfl)) rfl
theorem gw48 : Cond.methodLink RX3 54 yX3_calendarAt ∈ GW := GW_in (inT_2 (List.mem_of_getElem? (i := 64) rfl)) rfl
theorem gw49 : Cond.methodLink RX3 58 yX0_startAs ∈ GW := GW_in (inT_1 (List.mem_of_getElem? (i := 212) rfl)) rfl
theorem gw50 : Cond.methodLink RX3 62 yX1_startWith ∈ GW := GW_in (inT_2 (List.mem_of_getElem? (i := 69) rfl)) rfl
theorem gw51 : Cond.methodLink RX3 66 yX0_isHoly ∈ GW := GW_in (inT_2 (List.mem_of_getElem? (i := 112) rfl)) rfl
theorem gw52 : Cond.methodLink RX3 86 Lib.Math.min.name ∈ GW := GW_in (inT_2 (List.mem_of_getElem? (i := 143) rfl)) rfl
theorem gw53 : Cond.methodLink RX3 70 yX3_holySet ∈ GW := GW_in (inT_2 (List.mem_of_getElem? (i := 126) rfl)) rfl
theorem gn54 : Cond.methodLinkNest RX3 78 yX5_isIn "EvenSpring" ∈ NW := List.mem_of_getElem? (i := 28) rfl
theorem gw55 : Cond.methodLink RX3 82 yX3_drawJug ∈ GW := GW_in (inT_2 (List.mem_of_getElem? (i := 139) rfl)) rfl
theorem gw56 : Cond.methodLink RX3 74 yX1_passDay ∈ GW := GW_in (inT_2 (List.mem_of_getElem? (i := 130) rfl)) rfl
theorem gn57 : Cond.fieldLinkNest RX3 92 "EvenSpring$Pilgrim" "ill" "I" "EvenSpring" ∈ NW := List.mem_of_getElem? (i := 3) rfl
theorem gn58 : Cond.fieldLinkNest RX3 95 "EvenSpring$Pilgrim" "bathed" "I" "EvenSpring" ∈ NW := List.mem_of_getElem? (i := 6) rfl
theorem gw59 : Cond.fieldLink RX4 22 "EvenSpring$SpringText" "length" "I" ∈ GW := GW_in (inT_1 (List.mem_of_getElem? (i := 111) rfl)) rfl
theorem gw60 : Cond.fieldLink RX4 9 "EvenSpring$SpringText" "tape" "[B" ∈ GW := GW_in (inT_1 (List.mem_of_getElem? (i := 110) rfl)) rfl
theorem gw61 : Cond.fieldLink RX4 30 "EvenSpring$SpringText" "end" "I" ∈ GW := GW_in (inT_1 (List.mem_of_getElem? (i := 117) rfl)) rfl
theorem gw62 : Cond.fieldLink RX4 40 "EvenSpring$SpringText" "start" "I" ∈ GW := GW_in (inT_1 (List.mem_of_getElem? (i := 116) rfl)) rfl
theorem gw63 : Cond.methodLink RX4 147 yX4_byteAt ∈ GW := GW_in (inT_3 (List.mem_of_getElem? (i := 59) rfl)) rfl
theorem gw64 : Cond.static yX4_isLetter ∈ GW := GW_in (inT_3 (List.mem_of_getElem? (i := 64) rfl)) rfl
theorem gw65 : Cond.methodLink RX4 155 yX4_isLetter ∈ GW := GW_in (inT_3 (List.mem_of_getElem? (i := 63) rfl)) rfl
theorem gw66 : Cond.static yX4_isDigit ∈ GW := GW_in (inT_3 (List.mem_of_getElem? (i := 67) rfl)) rfl
theorem gw67 : Cond.methodLink RX4 159 yX4_isDigit ∈ GW := GW_in (inT_3 (List.mem_of_getElem? (i := 66) rfl)) rfl
theorem gw68 : Cond.fieldLink RX4 43 "EvenSpring$SpringText" "token" "I" ∈ GW := GW_in (inT_1 (List.mem_of_getElem? (i := 115) rfl)) rfl
theorem gw69 : Cond.fieldLink RX4 72 "EvenSpring$SpringText" "number" "I" ∈ GW := GW_in (inT_1 (List.mem_of_getElem? (i := 118) rfl)) rfl
theorem gw70 : Cond.methodLink RX4 162 Lib.Math.min.name ∈ GW := GW_in (inT_3 (List.mem_of_getElem? (i := 69) rfl)) rfl
theorem gw71 : Cond.fieldLink RJ0 38 "java/lang/String" "COMPACT_STRINGS" "Z" ∈ GW := GW_in (inT_3 (List.mem_of_getElem? (i := 87) rfl)) rfl
theorem gw72 : Cond.fieldLink RJ0 15 "java/lang/String" "coder" "B" ∈ GW := GW_in (inT_6 (List.mem_of_getElem? (i := 10) rfl)) rfl
theorem gw73 : Cond.fieldLink RJ0 9 "java/lang/String" "value" "[B" ∈ GW := GW_in (inT_6 (List.mem_of_getElem? (i := 9) rfl)) rfl
theorem gw74 : Cond.methodLink RJ0 335 yJ0_coder_7d493 ∈ GW := GW_in (inT_3 (List.mem_of_getElem? (i := 83) rfl)) rfl
theorem gw75 : Cond.fieldLink RJ0 1053 "jdk/internal/util/Preconditions" "SIOOBE_FORMATTER" "Ljava/util/function/BiFunction;" ∈ GW := GW_in (inT_3 (List.mem_of_getElem? (i := 103) rfl)) rfl
theorem gw76 : Cond.static yJ3_checkIndex_8e157 ∈ GW := GW_in (inT_3 (List.mem_of_getElem? (i := 106) rfl)) rfl
theorem gw77 : Cond.methodLink RJ0 1059 yJ3_checkIndex_8e157 ∈ GW := GW_in (inT_3 (List.mem_of_getElem? (i := 105) rfl)) rfl
theorem gw78 : Cond.static yJ0_checkIndex_df160 ∈ GW := GW_in (inT_3 (List.mem_of_getElem? (i := 101) rfl)) rfl
theorem gw79 : Cond.methodLink RJ1 9 yJ0_checkIndex_df160 ∈ GW := GW_in (inT_3 (List.mem_of_getElem? (i := 100) rfl)) rfl
theorem gw80 : Cond.methodLink RJ0 492 yJ0_isLatin1_aae02 ∈ GW := GW_in (inT_3 (List.mem_of_getElem? (i := 93) rfl)) rfl
theorem gw81 : Cond.static yJ1_charAt_3b067 ∈ GW := GW_in (inT_3 (List.mem_of_getElem? (i := 98) rfl)) rfl
theorem gw82 : Cond.methodLink RJ0 495 yJ1_charAt_3b067 ∈ GW := GW_in (inT_3 (List.mem_of_getElem? (i := 97) rfl)) rfl
theorem gw83 : Cond.methodLink RX4 143 yJ0_length_8abf5 ∈ GW := GW_in (inT_3 (List.mem_of_getElem? (i := 79) rfl)) rfl
theorem gw84 : Cond.methodLink RX4 151 yJ0_charAt_5068e ∈ GW := GW_in (inT_3 (List.mem_of_getElem? (i := 89) rfl)) rfl
theorem gw85 : Cond.static yX5_within ∈ GW := GW_in (inT_2 (List.mem_of_getElem? (i := 22) rfl)) rfl
theorem gn86 : Cond.methodLinkNest RX4 123 yX5_within "EvenSpring" ∈ NW := List.mem_of_getElem? (i := 29) rfl
theorem gw87 : Cond.fieldLink RX4 18 "EvenSpring$SpringText" "told" "LEvenSpring$Spring;" ∈ GW := GW_in (inT_1 (List.mem_of_getElem? (i := 113) rfl)) rfl
theorem gn88 : Cond.fieldLinkNest RX4 114 "EvenSpring$Spring" "pilgrimCount" "I" "EvenSpring" ∈ NW := List.mem_of_getElem? (i := 16) rfl
theorem gw89 : Cond.methodLink RX4 33 yX4_readToken ∈ GW := GW_in (inT_3 (List.mem_of_getElem? (i := 55) rfl)) rfl
theorem gw90 : Cond.methodLink RX4 68 yX4_isNumber ∈ GW := GW_in (inT_3 (List.mem_of_getElem? (i := 131) rfl)) rfl
theorem gw91 : Cond.methodLink RX4 48 yX4_isWord ∈ GW := GW_in (inT_3 (List.mem_of_getElem? (i := 75) rfl)) rfl
theorem gw92 : Cond.methodLink RX4 119 yX3_addPilgrim ∈ GW := GW_in (inT_3 (List.mem_of_getElem? (i := 137) rfl)) rfl
theorem gn93 : Cond.fieldLinkNest RX4 83 "EvenSpring$Spring" "calendarCount" "I" "EvenSpring" ∈ NW := List.mem_of_getElem? (i := 15) rfl
theorem gn94 : Cond.fieldLinkNest RX4 75 "EvenSpring$Spring" "truth" "I" "EvenSpring" ∈ NW := List.mem_of_getElem? (i := 10) rfl
theorem gn95 : Cond.fieldLinkNest RX4 77 "EvenSpring$Spring" "power" "I" "EvenSpring" ∈ NW := List.mem_of_getElem? (i := 8) rfl
theorem gw96 : Cond.static yX4_nameOf ∈ GW := GW_in (inT_3 (List.mem_of_getElem? (i := 157) rfl)) rfl
theorem gw97 : Cond.methodLink RX4 127 yX4_nameOf ∈ GW := GW_in (inT_3 (List.mem_of_getElem? (i := 156) rfl)) rfl
theorem gw98 : Cond.methodLink RX4 103 yX3_calendarAt ∈ GW := GW_in (inT_3 (List.mem_of_getElem? (i := 171) rfl)) rfl
theorem gw99 : Cond.methodLink RX4 107 yX0_allows ∈ GW := GW_in (inT_3 (List.mem_of_getElem? (i := 172) rfl)) rfl
theorem gw100 : Cond.methodLink RX4 110 yX0_change ∈ GW := GW_in (inT_3 (List.mem_of_getElem? (i := 173) rfl)) rfl
theorem gw101 : Cond.methodLink RX4 79 yX4_kindNamed ∈ GW := GW_in (inT_3 (List.mem_of_getElem? (i := 152) rfl)) rfl
theorem gw102 : Cond.methodLink RX4 86 yX3_addCalendar ∈ GW := GW_in (inT_3 (List.mem_of_getElem? (i := 165) rfl)) rfl
theorem gw103 : Cond.methodLink RX4 94 yX4_tellField ∈ GW := GW_in (inT_3 (List.mem_of_getElem? (i := 167) rfl)) rfl
theorem gw104 : Cond.methodLink RX4 65 yX4_tellCalendar ∈ GW := GW_in (inT_3 (List.mem_of_getElem? (i := 148) rfl)) rfl
theorem gw105 : Cond.methodLink RX4 62 yX4_tellPower ∈ GW := GW_in (inT_3 (List.mem_of_getElem? (i := 144) rfl)) rfl
theorem gw106 : Cond.methodLink RX4 57 yX4_tellTruth ∈ GW := GW_in (inT_3 (List.mem_of_getElem? (i := 139) rfl)) rfl
theorem gw107 : Cond.methodLink RX4 52 yX4_tellPilgrim ∈ GW := GW_in (inT_3 (List.mem_of_getElem? (i := 127) rfl)) rfl
theorem gw108 : Cond.methodLink RX4 26 yX3_become ∈ GW := GW_in (inT_3 (List.mem_of_getElem? (i := 49) rfl)) rfl
theorem gw109 : Cond.methodLink RX4 36 yX4_tellItem ∈ GW := GW_in (inT_3 (List.mem_of_getElem? (i := 70) rfl)) rfl
theorem gw110 : Cond.constant RX5 58 (-1000000001 : Int32) ∈ GW := GW_in (inT_1 (List.mem_of_getElem? (i := 202) rfl)) rfl
theorem gw111 : Cond.fieldLink RX5 32 "EvenSpring" "findings" "[I" ∈ GW := GW_in (inT_1 (List.mem_of_getElem? (i := 165) rfl)) rfl
theorem gw112 : Cond.methodLink RX5 54 yX0_allows ∈ GW := GW_in (inT_1 (List.mem_of_getElem? (i := 192) rfl)) rfl
theorem gw113 : Cond.fieldLink RX5 12 "EvenSpring" "here" "LEvenSpring$Spring;" ∈ GW := GW_in (inT_1 (List.mem_of_getElem? (i := 160) rfl)) rfl
theorem gn114 : Cond.fieldLinkNest RX5 63 "EvenSpring$Spring" "calendarCount" "I" "EvenSpring" ∈ NW := List.mem_of_getElem? (i := 14) rfl
theorem gw115 : Cond.methodLink RX5 68 yX3_addCalendar ∈ GW := GW_in (inT_1 (List.mem_of_getElem? (i := 208) rfl)) rfl
theorem gw116 : Cond.constant RX5 67 (-1000000002 : Int32) ∈ GW := GW_in (inT_1 (List.mem_of_getElem? (i := 207) rfl)) rfl
theorem gw117 : Cond.methodLink RX5 59 yX5_found ∈ GW := GW_in (inT_1 (List.mem_of_getElem? (i := 203) rfl)) rfl
theorem gw118 : Cond.methodLink RX5 72 yX3_calendarAt ∈ GW := GW_in (inT_1 (List.mem_of_getElem? (i := 225) rfl)) rfl
theorem gw119 : Cond.methodLink RX5 76 yX0_isField ∈ GW := GW_in (inT_1 (List.mem_of_getElem? (i := 229) rfl)) rfl
theorem gw120 : Cond.methodLink RX5 80 yX0_value ∈ GW := GW_in (inT_1 (List.mem_of_getElem? (i := 230) rfl)) rfl
theorem gw121 : Cond.methodLink RX5 83 yX0_change ∈ GW := GW_in (inT_1 (List.mem_of_getElem? (i := 238) rfl)) rfl
theorem gw122 : Cond.methodLink RX5 87 yX0_isOfKind ∈ GW := GW_in (inT_2 (List.mem_of_getElem? (i := 11) rfl)) rfl
theorem gw123 : Cond.constant RX5 90 (-1000000003 : Int32) ∈ GW := GW_in (inT_2 (List.mem_of_getElem? (i := 15) rfl)) rfl
theorem gw124 : Cond.constant RX5 91 (99999 : Int32) ∈ GW := GW_in (inT_2 (List.mem_of_getElem? (i := 20) rfl)) rfl
theorem gw125 : Cond.methodLink RX5 92 yX5_within ∈ GW := GW_in (inT_2 (List.mem_of_getElem? (i := 21) rfl)) rfl
theorem gw126 : Cond.methodLink RX5 96 yX0_dateAt ∈ GW := GW_in (inT_2 (List.mem_of_getElem? (i := 24) rfl)) rfl
theorem gw127 : Cond.methodLink RX5 99 yX0_monthAt ∈ GW := GW_in (inT_2 (List.mem_of_getElem? (i := 43) rfl)) rfl
theorem gw128 : Cond.methodLink RX5 102 yX0_isHoly ∈ GW := GW_in (inT_2 (List.mem_of_getElem? (i := 47) rfl)) rfl
theorem gw129 : Cond.methodLink RX5 105 yX0_runsAt ∈ GW := GW_in (inT_2 (List.mem_of_getElem? (i := 51) rfl)) rfl
theorem gn130 : Cond.fieldLinkNest RX5 111 "EvenSpring$Spring" "truth" "I" "EvenSpring" ∈ NW := List.mem_of_getElem? (i := 11) rfl
theorem gn131 : Cond.fieldLinkNest RX5 108 "EvenSpring$Spring" "power" "I" "EvenSpring" ∈ NW := List.mem_of_getElem? (i := 9) rfl
theorem gw132 : Cond.methodLink RX5 114 yX3_canTrust ∈ GW := GW_in (inT_2 (List.mem_of_getElem? (i := 60) rfl)) rfl
theorem gn133 : Cond.fieldLinkNest RX5 117 "EvenSpring$Spring" "pilgrimCount" "I" "EvenSpring" ∈ NW := List.mem_of_getElem? (i := 17) rfl
theorem gw134 : Cond.methodLink RX5 120 yX3_addPilgrim ∈ GW := GW_in (inT_2 (List.mem_of_getElem? (i := 65) rfl)) rfl
theorem gw135 : Cond.methodLink RX5 124 yX3_pilgrimAt ∈ GW := GW_in (inT_2 (List.mem_of_getElem? (i := 77) rfl)) rfl
theorem gn136 : Cond.fieldLinkNest RX5 134 "EvenSpring$Pilgrim" "bathed" "I" "EvenSpring" ∈ NW := List.mem_of_getElem? (i := 5) rfl
theorem gn137 : Cond.fieldLinkNest RX5 131 "EvenSpring$Pilgrim" "trusts" "I" "EvenSpring" ∈ NW := List.mem_of_getElem? (i := 4) rfl
theorem gn138 : Cond.fieldLinkNest RX5 128 "EvenSpring$Pilgrim" "ill" "I" "EvenSpring" ∈ NW := List.mem_of_getElem? (i := 2) rfl
theorem gw139 : Cond.methodLink RX5 137 yX3_takeJug ∈ GW := GW_in (inT_2 (List.mem_of_getElem? (i := 89) rfl)) rfl
theorem gw140 : Cond.methodLink RX5 142 yX1_takeWater ∈ GW := GW_in (inT_2 (List.mem_of_getElem? (i := 94) rfl)) rfl
theorem gw141 : Cond.constant RX5 141 (-1000000005 : Int32) ∈ GW := GW_in (inT_2 (List.mem_of_getElem? (i := 93) rfl)) rfl
theorem gn142 : Cond.fieldLinkNest RX5 146 "EvenSpring$Spring" "day" "I" "EvenSpring" ∈ NW := List.mem_of_getElem? (i := 7) rfl
theorem gw143 : Cond.methodLink RX5 149 yX3_isHolyBy ∈ GW := GW_in (inT_2 (List.mem_of_getElem? (i := 108) rfl)) rfl
theorem gw144 : Cond.methodLink RX5 152 yX1_takeBath ∈ GW := GW_in (inT_2 (List.mem_of_getElem? (i := 113) rfl)) rfl
theorem gw145 : Cond.constant RJ6 265 (1431655765 : Int32) ∈ GW := GW_in (inT_2 (List.mem_of_getElem? (i := 151) rfl)) rfl
theorem gw146 : Cond.constant RJ6 266 (858993459 : Int32) ∈ GW := GW_in (inT_2 (List.mem_of_getElem? (i := 152) rfl)) rfl
theorem gw147 : Cond.constant RJ6 267 (252645135 : Int32) ∈ GW := GW_in (inT_2 (List.mem_of_getElem? (i := 153) rfl)) rfl
theorem gw148 : Cond.methodLink RX5 158 yX3_wellSet ∈ GW := GW_in (inT_2 (List.mem_of_getElem? (i := 144) rfl)) rfl
theorem gw149 : Cond.static yJ6_bitCount_0f7a4 ∈ GW := GW_in (inT_2 (List.mem_of_getElem? (i := 149) rfl)) rfl
theorem gw150 : Cond.methodLink RX5 162 yJ6_bitCount_0f7a4 ∈ GW := GW_in (inT_2 (List.mem_of_getElem? (i := 148) rfl)) rfl
theorem gw151 : Cond.methodLink RX5 155 yX3_passDay ∈ GW := GW_in (inT_2 (List.mem_of_getElem? (i := 122) rfl)) rfl
theorem gn152 : Cond.fieldLinkNest RX5 167 "EvenSpring$Spring" "good" "I" "EvenSpring" ∈ NW := List.mem_of_getElem? (i := 12) rfl
theorem gn153 : Cond.fieldLinkNest RX5 170 "EvenSpring$Spring" "bad" "I" "EvenSpring" ∈ NW := List.mem_of_getElem? (i := 13) rfl
theorem gw154 : Cond.methodLink RX5 173 yX3_illOfAll ∈ GW := GW_in (inT_2 (List.mem_of_getElem? (i := 158) rfl)) rfl
theorem gw155 : Cond.fieldLink RX5 36 "EvenSpring" "ahead" "[I" ∈ GW := GW_in (inT_1 (List.mem_of_getElem? (i := 166) rfl)) rfl
theorem gw156 : Cond.methodLink RX5 199 yX3_holySet ∈ GW := GW_in (inT_2 (List.mem_of_getElem? (i := 170) rfl)) rfl
theorem gw157 : Cond.fieldLink RX5 42 "EvenSpring" "trial" "LEvenSpring$Pilgrim;" ∈ GW := GW_in (inT_1 (List.mem_of_getElem? (i := 167) rfl)) rfl
theorem gw158 : Cond.methodLink RX5 205 yX1_become ∈ GW := GW_in (inT_2 (List.mem_of_getElem? (i := 175) rfl)) rfl
theorem gw159 : Cond.methodLink RX5 277 yX1_passDay ∈ GW := GW_in (inT_2 (List.mem_of_getElem? (i := 179) rfl)) rfl
theorem gw160 : Cond.methodLink RX5 176 yX5_lookAhead ∈ GW := GW_in (inT_2 (List.mem_of_getElem? (i := 166) rfl)) rfl
theorem gw161 : Cond.methodLink RX5 179 yX5_tryDays ∈ GW := GW_in (inT_2 (List.mem_of_getElem? (i := 171) rfl)) rfl
theorem gw162 : Cond.methodLink RX5 183 yX5_daysToWell ∈ GW := GW_in (inT_2 (List.mem_of_getElem? (i := 184) rfl)) rfl
theorem gw163 : Cond.constant RX5 187 (-1000000004 : Int32) ∈ GW := GW_in (inT_2 (List.mem_of_getElem? (i := 188) rfl)) rfl
theorem gw164 : Cond.methodLink RX5 291 yX5_isIn ∈ GW := GW_in (inT_2 (List.mem_of_getElem? (i := 205) rfl)) rfl
theorem gw165 : Cond.methodLink RX5 188 yX3_hasBoth ∈ GW := GW_in (inT_2 (List.mem_of_getElem? (i := 197) rfl)) rfl
theorem gw166 : Cond.methodLink RX5 191 yX5_agreeAhead ∈ GW := GW_in (inT_2 (List.mem_of_getElem? (i := 201) rfl)) rfl
theorem gw167 : Cond.methodLink RX5 194 Lib.Math.max.name ∈ GW := GW_in (inT_2 (List.mem_of_getElem? (i := 210) rfl)) rfl
theorem gw168 : Cond.methodLink RX5 202 yX5_illOfAllAhead ∈ GW := GW_in (inT_2 (List.mem_of_getElem? (i := 227) rfl)) rfl
theorem gw169 : Cond.fieldLink RX5 49 "EvenSpring" "tried" "LEvenSpring$Calendar;" ∈ GW := GW_in (inT_1 (List.mem_of_getElem? (i := 168) rfl)) rfl
theorem gw170 : Cond.static yX0_least ∈ GW := GW_in (inT_3 (List.mem_of_getElem? (i := 4) rfl)) rfl
theorem gw171 : Cond.methodLink RX5 294 yX0_least ∈ GW := GW_in (inT_3 (List.mem_of_getElem? (i := 3) rfl)) rfl
theorem gw172 : Cond.methodLink RX5 297 yX0_become ∈ GW := GW_in (inT_3 (List.mem_of_getElem? (i := 6) rfl)) rfl
theorem gw173 : Cond.static yX0_greatest ∈ GW := GW_in (inT_3 (List.mem_of_getElem? (i := 11) rfl)) rfl
theorem gw174 : Cond.methodLink RX5 300 yX0_greatest ∈ GW := GW_in (inT_3 (List.mem_of_getElem? (i := 10) rfl)) rfl
theorem gw175 : Cond.methodLink RX5 303 yX5_agreementsOfTried ∈ GW := GW_in (inT_3 (List.mem_of_getElem? (i := 13) rfl)) rfl
theorem gw176 : Cond.methodLink RX5 209 yX5_bestValue ∈ GW := GW_in (inT_2 (List.mem_of_getElem? (i := 239) rfl)) rfl
theorem gw177 : Cond.methodLink RX5 213 yX5_wellAhead ∈ GW := GW_in (inT_3 (List.mem_of_getElem? (i := 25) rfl)) rfl
theorem gw178 : Cond.fieldLink RX5 22 "EvenSpring" "text" "LEvenSpring$SpringText;" ∈ GW := GW_in (inT_1 (List.mem_of_getElem? (i := 163) rfl)) rfl
theorem gn179 : Cond.fieldLinkNest RX5 216 "EvenSpring$SpringText" "length" "I" "EvenSpring" ∈ NW := List.mem_of_getElem? (i := 19) rfl
theorem gw180 : Cond.methodLink RX5 219 yX4_add ∈ GW := GW_in (inT_3 (List.mem_of_getElem? (i := 33) rfl)) rfl
theorem gw181 : Cond.methodLink RX5 223 yX4_tell ∈ GW := GW_in (inT_3 (List.mem_of_getElem? (i := 45) rfl)) rfl
theorem gn182 : Cond.fieldLinkNest RX5 227 "EvenSpring$SpringText" "told" "LEvenSpring$Spring;" "EvenSpring" ∈ NW := List.mem_of_getElem? (i := 20) rfl
theorem gw183 : Cond.methodLink RX5 230 yX3_become ∈ GW := GW_in (inT_3 (List.mem_of_getElem? (i := 177) rfl)) rfl
theorem gw184 : Cond.fieldLink RX5 28 "EvenSpring" "sheets" "[LEvenSpring$Sheet;" ∈ GW := GW_in (inT_1 (List.mem_of_getElem? (i := 164) rfl)) rfl
theorem gw185 : Cond.methodLink RX5 233 yX5_sheetAt ∈ GW := GW_in (inT_3 (List.mem_of_getElem? (i := 182) rfl)) rfl
theorem gw186 : Cond.static yX2_allows ∈ GW := GW_in (inT_3 (List.mem_of_getElem? (i := 187) rfl)) rfl
theorem gw187 : Cond.methodLink RX5 237 yX2_allows ∈ GW := GW_in (inT_3 (List.mem_of_getElem? (i := 186) rfl)) rfl
theorem gw188 : Cond.methodLink RX5 240 yX2_lay ∈ GW := GW_in (inT_3 (List.mem_of_getElem? (i := 190) rfl)) rfl
theorem gn189 : Cond.fieldLinkNest RX5 243 "EvenSpring$Sheet" "size" "I" "EvenSpring" ∈ NW := List.mem_of_getElem? (i := 25) rfl
theorem gw190 : Cond.constant RX5 239 (-1000000007 : Int32) ∈ GW := GW_in (inT_3 (List.mem_of_getElem? (i := 189) rfl)) rfl
theorem gw191 : Cond.methodLink RX5 246 yX2_isMissing ∈ GW := GW_in (inT_3 (List.mem_of_getElem? (i := 200) rfl)) rfl
theorem gw192 : Cond.methodLink RX5 251 yX2_numberAt ∈ GW := GW_in (inT_3 (List.mem_of_getElem? (i := 205) rfl)) rfl
theorem gw193 : Cond.methodLink RX5 255 yX2_put ∈ GW := GW_in (inT_3 (List.mem_of_getElem? (i := 209) rfl)) rfl
theorem gw194 : Cond.constant RX5 250 (-1000000006 : Int32) ∈ GW := GW_in (inT_3 (List.mem_of_getElem? (i := 204) rfl)) rfl
theorem gn195 : Cond.fieldLinkNest RX5 259 "EvenSpring$Sheet" "bits" "I" "EvenSpring" ∈ NW := List.mem_of_getElem? (i := 24) rfl
theorem gw196 : Cond.methodLink RX5 262 yX2_hasRange ∈ GW := GW_in (inT_3 (List.mem_of_getElem? (i := 221) rfl)) rfl
theorem gn197 : Cond.fieldLinkNest RX5 265 "EvenSpring$Sheet" "numbers" "[J" "EvenSpring" ∈ NW := List.mem_of_getElem? (i := 26) rfl
theorem gw198 : Cond.methodLink RX5 269 arraycopyName ∈ GW := GW_in (inT_3 (List.mem_of_getElem? (i := 225) rfl)) rfl
theorem gw199 : Cond.constantLong RX5 275 (99 : Int64) ∈ GW := GW_in (inT_3 (List.mem_of_getElem? (i := 230) rfl)) rfl
theorem gw200 : Cond.methodLink RX5 280 yX5_makesJustSo ∈ GW := GW_in (inT_3 (List.mem_of_getElem? (i := 239) rfl)) rfl
theorem gw201 : Cond.fieldLink RX5 16 "EvenSpring" "kept" "LEvenSpring$Spring;" ∈ GW := GW_in (inT_1 (List.mem_of_getElem? (i := 161) rfl)) rfl
theorem gw202 : Cond.fieldLink RX5 284 "EvenSpring" "isKept" "Z" ∈ GW := GW_in (inT_1 (List.mem_of_getElem? (i := 162) rfl)) rfl
theorem gw203 : Cond.methodLink RX5 288 yX3_bathedOfAll ∈ GW := GW_in (inT_4 (List.mem_of_getElem? (i := 19) rfl)) rfl
theorem gw204 : Cond.fieldLink RX6 22 "EvenSpringModel" "statuses" "[I" ∈ GW := GW_in (inT_4 (List.mem_of_getElem? (i := 37) rfl)) rfl
theorem gw205 : Cond.constant RX6 41 (-1000000001 : Int32) ∈ GW := GW_in (inT_4 (List.mem_of_getElem? (i := 93) rfl)) rfl
theorem gw206 : Cond.fieldLink RX6 16 "EvenSpringModel" "other" "[I" ∈ GW := GW_in (inT_4 (List.mem_of_getElem? (i := 35) rfl)) rfl
theorem gw207 : Cond.fieldLink RX6 7 "EvenSpringModel" "s" "[I" ∈ GW := GW_in (inT_4 (List.mem_of_getElem? (i := 33) rfl)) rfl
theorem gw208 : Cond.fieldLink RX6 19 "EvenSpringModel" "aside" "[I" ∈ GW := GW_in (inT_4 (List.mem_of_getElem? (i := 36) rfl)) rfl
theorem gw209 : Cond.static yX6_in ∈ GW := GW_in (inT_4 (List.mem_of_getElem? (i := 91) rfl)) rfl
theorem gw210 : Cond.methodLink RX6 42 yX6_in ∈ GW := GW_in (inT_4 (List.mem_of_getElem? (i := 90) rfl)) rfl
theorem gw211 : Cond.methodLink RX6 46 yX6_isCalendar ∈ GW := GW_in (inT_4 (List.mem_of_getElem? (i := 107) rfl)) rfl
theorem gw212 : Cond.constantLong RX6 50 (5 : Int64) ∈ GW := GW_in (inT_4 (List.mem_of_getElem? (i := 89) rfl)) rfl
theorem gw213 : Cond.static yX6_spot ∈ GW := GW_in (inT_4 (List.mem_of_getElem? (i := 182) rfl)) rfl
theorem gw214 : Cond.methodLink RX6 52 yX6_spot ∈ GW := GW_in (inT_4 (List.mem_of_getElem? (i := 181) rfl)) rfl
theorem gw215 : Cond.static yX6_isKind ∈ GW := GW_in (inT_4 (List.mem_of_getElem? (i := 87) rfl)) rfl
theorem gw216 : Cond.methodLink RX6 56 yX6_isKind ∈ GW := GW_in (inT_4 (List.mem_of_getElem? (i := 86) rfl)) rfl
theorem gw217 : Cond.methodLink RX6 64 yX6_adds ∈ GW := GW_in (inT_4 (List.mem_of_getElem? (i := 99) rfl)) rfl
theorem gw218 : Cond.constant RX6 63 (-1000000002 : Int32) ∈ GW := GW_in (inT_4 (List.mem_of_getElem? (i := 98) rfl)) rfl
theorem gw219 : Cond.methodLink RX6 59 yX6_finds ∈ GW := GW_in (inT_4 (List.mem_of_getElem? (i := 94) rfl)) rfl
theorem gw220 : Cond.constantLong RX6 67 (4 : Int64) ∈ GW := GW_in (inT_4 (List.mem_of_getElem? (i := 111) rfl)) rfl
theorem gw221 : Cond.methodLink RX6 69 yX6_its ∈ GW := GW_in (inT_4 (List.mem_of_getElem? (i := 112) rfl)) rfl
theorem gw222 : Cond.constantLong RX6 76 (99 : Int64) ∈ GW := GW_in (inT_4 (List.mem_of_getElem? (i := 125) rfl)) rfl
theorem gw223 : Cond.constantLong RX6 74 (9999 : Int64) ∈ GW := GW_in (inT_4 (List.mem_of_getElem? (i := 124) rfl)) rfl
theorem gw224 : Cond.constantLong RX6 72 (60 : Int64) ∈ GW := GW_in (inT_4 (List.mem_of_getElem? (i := 123) rfl)) rfl
theorem gw225 : Cond.static yX6_isPart ∈ GW := GW_in (inT_4 (List.mem_of_getElem? (i := 121) rfl)) rfl
theorem gw226 : Cond.methodLink RX6 78 yX6_isPart ∈ GW := GW_in (inT_4 (List.mem_of_getElem? (i := 120) rfl)) rfl
theorem gw227 : Cond.methodLink RX6 82 yX6_becomes ∈ GW := GW_in (inT_4 (List.mem_of_getElem? (i := 126) rfl)) rfl
theorem gw228 : Cond.static yX6_isUnder ∈ GW := GW_in (inT_4 (List.mem_of_getElem? (i := 139) rfl)) rfl
theorem gw229 : Cond.methodLink RX6 85 yX6_isUnder ∈ GW := GW_in (inT_4 (List.mem_of_getElem? (i := 138) rfl)) rfl
theorem gw230 : Cond.constant RX6 88 (-1000000003 : Int32) ∈ GW := GW_in (inT_4 (List.mem_of_getElem? (i := 141) rfl)) rfl
theorem gw231 : Cond.methodLink RX6 89 yX6_runs ∈ GW := GW_in (inT_4 (List.mem_of_getElem? (i := 152) rfl)) rfl
theorem gw232 : Cond.methodLink RX6 92 yX6_dateOf ∈ GW := GW_in (inT_4 (List.mem_of_getElem? (i := 148) rfl)) rfl
theorem gw233 : Cond.methodLink RX6 95 yX6_monthOf ∈ GW := GW_in (inT_4 (List.mem_of_getElem? (i := 156) rfl)) rfl
theorem gw234 : Cond.constantLong RX6 98 (99999 : Int64) ∈ GW := GW_in (inT_4 (List.mem_of_getElem? (i := 146) rfl)) rfl
theorem gw235 : Cond.constantLong RX6 100 (3 : Int64) ∈ GW := GW_in (inT_4 (List.mem_of_getElem? (i := 147) rfl)) rfl
theorem gw236 : Cond.methodLink RX6 102 yX6_isHoly ∈ GW := GW_in (inT_4 (List.mem_of_getElem? (i := 160) rfl)) rfl
theorem gw237 : Cond.constantLong RX6 105 (50 : Int64) ∈ GW := GW_in (inT_4 (List.mem_of_getElem? (i := 168) rfl)) rfl
theorem gw238 : Cond.methodLink RX6 107 yX6_isTrust ∈ GW := GW_in (inT_4 (List.mem_of_getElem? (i := 173) rfl)) rfl
theorem gw239 : Cond.methodLink RX6 110 yX6_comes ∈ GW := GW_in (inT_4 (List.mem_of_getElem? (i := 177) rfl)) rfl
theorem gw240 : Cond.methodLink RX6 113 yX6_isPilgrim ∈ GW := GW_in (inT_4 (List.mem_of_getElem? (i := 188) rfl)) rfl
theorem gw241 : Cond.constantLong RX6 116 (2 : Int64) ∈ GW := GW_in (inT_4 (List.mem_of_getElem? (i := 192) rfl)) rfl
theorem gw242 : Cond.methodLink RX6 118 yX6_isOf ∈ GW := GW_in (inT_4 (List.mem_of_getElem? (i := 193) rfl)) rfl
theorem gw243 : Cond.methodLink RX6 122 yX6_helps ∈ GW := GW_in (inT_4 (List.mem_of_getElem? (i := 206) rfl)) rfl
theorem gw244 : Cond.constant RX6 121 (-1000000005 : Int32) ∈ GW := GW_in (inT_4 (List.mem_of_getElem? (i := 205) rfl)) rfl
theorem gw245 : Cond.methodLink RX6 126 yX6_bathes ∈ GW := GW_in (inT_4 (List.mem_of_getElem? (i := 214) rfl)) rfl
theorem gw246 : Cond.methodLink RX6 130 yX6_day ∈ GW := GW_in (inT_4 (List.mem_of_getElem? (i := 228) rfl)) rfl
theorem gw247 : Cond.constantLong RX6 133 (400 : Int64) ∈ GW := GW_in (inT_4 (List.mem_of_getElem? (i := 222) rfl)) rfl
theorem gw248 : Cond.constant RX6 135 (99999 : Int32) ∈ GW := GW_in (inT_4 (List.mem_of_getElem? (i := 223) rfl)) rfl
theorem gw249 : Cond.methodLink RX6 136 yX6_goesOn ∈ GW := GW_in (inT_4 (List.mem_of_getElem? (i := 224) rfl)) rfl
theorem gw250 : Cond.methodLink RX6 139 yX6_wellOnes ∈ GW := GW_in (inT_4 (List.mem_of_getElem? (i := 232) rfl)) rfl
theorem gw251 : Cond.static yX6_ones ∈ GW := GW_in (inT_4 (List.mem_of_getElem? (i := 237) rfl)) rfl
theorem gw252 : Cond.methodLink RX6 143 yX6_ones ∈ GW := GW_in (inT_4 (List.mem_of_getElem? (i := 236) rfl)) rfl
theorem gw253 : Cond.methodLink RX6 146 yX6_together ∈ GW := GW_in (inT_5 (List.mem_of_getElem? (i := 3) rfl)) rfl
theorem gw254 : Cond.methodLink RX6 149 yX6_laysAside ∈ GW := GW_in (inT_5 (List.mem_of_getElem? (i := 11) rfl)) rfl
theorem gw255 : Cond.methodLink RX6 152 yX6_takesBack ∈ GW := GW_in (inT_5 (List.mem_of_getElem? (i := 15) rfl)) rfl
theorem gw256 : Cond.methodLink RX6 155 yX6_wellIn ∈ GW := GW_in (inT_5 (List.mem_of_getElem? (i := 23) rfl)) rfl
theorem gw257 : Cond.constant RX6 158 (-1000000004 : Int32) ∈ GW := GW_in (inT_5 (List.mem_of_getElem? (i := 27) rfl)) rfl
theorem gw258 : Cond.methodLink RX6 159 yX6_isAgreed ∈ GW := GW_in (inT_5 (List.mem_of_getElem? (i := 44) rfl)) rfl
theorem gw259 : Cond.methodLink RX6 163 yX6_areTwo ∈ GW := GW_in (inT_5 (List.mem_of_getElem? (i := 36) rfl)) rfl
theorem gw260 : Cond.methodLink RX6 166 yX6_agreed ∈ GW := GW_in (inT_5 (List.mem_of_getElem? (i := 40) rfl)) rfl
theorem gw261 : Cond.methodLink RX6 170 yX6_holyBy ∈ GW := GW_in (inT_5 (List.mem_of_getElem? (i := 56) rfl)) rfl
theorem gw262 : Cond.static yX6_isDate ∈ GW := GW_in (inT_5 (List.mem_of_getElem? (i := 65) rfl)) rfl
theorem gw263 : Cond.methodLink RX6 173 yX6_isDate ∈ GW := GW_in (inT_5 (List.mem_of_getElem? (i := 64) rfl)) rfl
theorem gw264 : Cond.constantLong RX6 176 (100 : Int64) ∈ GW := GW_in (inT_5 (List.mem_of_getElem? (i := 75) rfl)) rfl
theorem gw265 : Cond.methodLink RX6 178 yX6_mostAgreed ∈ GW := GW_in (inT_5 (List.mem_of_getElem? (i := 84) rfl)) rfl
theorem gw266 : Cond.fieldLink RX6 182 "EvenSpringModel" "taped" "I" ∈ GW := GW_in (inT_4 (List.mem_of_getElem? (i := 40) rfl)) rfl
theorem gw267 : Cond.fieldLink RX6 25 "EvenSpringModel" "tape" "[I" ∈ GW := GW_in (inT_4 (List.mem_of_getElem? (i := 39) rfl)) rfl
theorem gw268 : Cond.constantLong RX6 186 (97 : Int64) ∈ GW := GW_in (inT_5 (List.mem_of_getElem? (i := 123) rfl)) rfl
theorem gw269 : Cond.constantLong RX6 188 (122 : Int64) ∈ GW := GW_in (inT_5 (List.mem_of_getElem? (i := 124) rfl)) rfl
theorem gw270 : Cond.constantLong RX6 190 (48 : Int64) ∈ GW := GW_in (inT_5 (List.mem_of_getElem? (i := 128) rfl)) rfl
theorem gw271 : Cond.constantLong RX6 192 (57 : Int64) ∈ GW := GW_in (inT_5 (List.mem_of_getElem? (i := 129) rfl)) rfl
theorem gw272 : Cond.fieldLink RX6 194 "EvenSpringModel" "to" "I" ∈ GW := GW_in (inT_4 (List.mem_of_getElem? (i := 42) rfl)) rfl
theorem gw273 : Cond.fieldLink RX6 197 "EvenSpringModel" "from" "I" ∈ GW := GW_in (inT_4 (List.mem_of_getElem? (i := 41) rfl)) rfl
theorem gw274 : Cond.methodLink RX6 200 yX6_byteAt ∈ GW := GW_in (inT_5 (List.mem_of_getElem? (i := 116) rfl)) rfl
theorem gw275 : Cond.static yX6_isLetter ∈ GW := GW_in (inT_5 (List.mem_of_getElem? (i := 121) rfl)) rfl
theorem gw276 : Cond.methodLink RX6 203 yX6_isLetter ∈ GW := GW_in (inT_5 (List.mem_of_getElem? (i := 120) rfl)) rfl
theorem gw277 : Cond.static yX6_isDigit ∈ GW := GW_in (inT_5 (List.mem_of_getElem? (i := 126) rfl)) rfl
theorem gw278 : Cond.methodLink RX6 206 yX6_isDigit ∈ GW := GW_in (inT_5 (List.mem_of_getElem? (i := 125) rfl)) rfl
theorem gw279 : Cond.fieldLink RX6 209 "EvenSpringModel" "isWrong" "Z" ∈ GW := GW_in (inT_4 (List.mem_of_getElem? (i := 44) rfl)) rfl
theorem gw280 : Cond.methodLink RX6 213 yX6_token ∈ GW := GW_in (inT_5 (List.mem_of_getElem? (i := 112) rfl)) rfl
theorem gw281 : Cond.constantLong RX6 216 (36028797018963967 : Int64) ∈ GW := GW_in (inT_5 (List.mem_of_getElem? (i := 142) rfl)) rfl
theorem gw282 : Cond.constantLong RX6 218 (32 : Int64) ∈ GW := GW_in (inT_5 (List.mem_of_getElem? (i := 143) rfl)) rfl
theorem gw283 : Cond.fieldLink RX6 220 "EvenSpringModel" "value" "I" ∈ GW := GW_in (inT_4 (List.mem_of_getElem? (i := 43) rfl)) rfl
theorem gw284 : Cond.methodLink RX6 223 yX6_must ∈ GW := GW_in (inT_5 (List.mem_of_getElem? (i := 154) rfl)) rfl
theorem gw285 : Cond.methodLink RX6 227 yX6_word ∈ GW := GW_in (inT_5 (List.mem_of_getElem? (i := 138) rfl)) rfl
theorem gw286 : Cond.constantLong RX6 231 (3659220 : Int64) ∈ GW := GW_in (inT_5 (List.mem_of_getElem? (i := 144) rfl)) rfl
theorem gw287 : Cond.constantLong RX6 233 (15748 : Int64) ∈ GW := GW_in (inT_5 (List.mem_of_getElem? (i := 145) rfl)) rfl
theorem gw288 : Cond.constantLong RX6 235 (14519 : Int64) ∈ GW := GW_in (inT_5 (List.mem_of_getElem? (i := 146) rfl)) rfl
theorem gw289 : Cond.constantLong RX6 237 (3559 : Int64) ∈ GW := GW_in (inT_5 (List.mem_of_getElem? (i := 147) rfl)) rfl
theorem gw290 : Cond.constantLong RX6 239 (398384 : Int64) ∈ GW := GW_in (inT_5 (List.mem_of_getElem? (i := 148) rfl)) rfl
theorem gw291 : Cond.constantLong RX6 241 (441803 : Int64) ∈ GW := GW_in (inT_5 (List.mem_of_getElem? (i := 149) rfl)) rfl
theorem gw292 : Cond.methodLink RX6 243 yX6_number ∈ GW := GW_in (inT_5 (List.mem_of_getElem? (i := 163) rfl)) rfl
theorem gw293 : Cond.constantLong RX6 247 (2268462 : Int64) ∈ GW := GW_in (inT_5 (List.mem_of_getElem? (i := 158) rfl)) rfl
theorem gw294 : Cond.methodLink RX6 249 yX6_partItem ∈ GW := GW_in (inT_5 (List.mem_of_getElem? (i := 159) rfl)) rfl
theorem gw295 : Cond.constantLong RX6 253 (408362632 : Int64) ∈ GW := GW_in (inT_5 (List.mem_of_getElem? (i := 167) rfl)) rfl
theorem gw296 : Cond.constantLong RX6 255 (398548 : Int64) ∈ GW := GW_in (inT_5 (List.mem_of_getElem? (i := 168) rfl)) rfl
theorem gw297 : Cond.constantLong RX6 257 (609435213 : Int64) ∈ GW := GW_in (inT_5 (List.mem_of_getElem? (i := 169) rfl)) rfl
theorem gw298 : Cond.constantLong RX6 259 (690671251 : Int64) ∈ GW := GW_in (inT_5 (List.mem_of_getElem? (i := 175) rfl)) rfl
theorem gw299 : Cond.methodLink RX6 261 yX6_kindHere ∈ GW := GW_in (inT_5 (List.mem_of_getElem? (i := 134) rfl)) rfl
theorem gw300 : Cond.constantLong RX6 267 (17494690093 : Int64) ∈ GW := GW_in (inT_5 (List.mem_of_getElem? (i := 170) rfl)) rfl
theorem gw301 : Cond.constantLong RX6 272 (21583496 : Int64) ∈ GW := GW_in (inT_5 (List.mem_of_getElem? (i := 176) rfl)) rfl
theorem gw302 : Cond.constantLong RX6 274 (17292466 : Int64) ∈ GW := GW_in (inT_5 (List.mem_of_getElem? (i := 177) rfl)) rfl
theorem gw303 : Cond.methodLink RX6 269 yX6_pilgrimItem ∈ GW := GW_in (inT_5 (List.mem_of_getElem? (i := 171) rfl)) rfl
theorem gw304 : Cond.methodLink RX6 264 yX6_calendarItem ∈ GW := GW_in (inT_5 (List.mem_of_getElem? (i := 150) rfl)) rfl
theorem gw305 : Cond.methodLink RX6 276 yX6_saves ∈ GW := GW_in (inT_5 (List.mem_of_getElem? (i := 108) rfl)) rfl
theorem gw306 : Cond.methodLink RX6 279 yX6_item ∈ GW := GW_in (inT_5 (List.mem_of_getElem? (i := 130) rfl)) rfl
theorem gw307 : Cond.methodLink RX6 282 yX6_putsBack ∈ GW := GW_in (inT_5 (List.mem_of_getElem? (i := 178) rfl)) rfl
theorem gw308 : Cond.static yX6_isOne ∈ GW := GW_in (inT_5 (List.mem_of_getElem? (i := 187) rfl)) rfl
theorem gw309 : Cond.methodLink RX6 285 yX6_isOne ∈ GW := GW_in (inT_5 (List.mem_of_getElem? (i := 186) rfl)) rfl
theorem gw310 : Cond.fieldLink RX6 28 "EvenSpringModel" "bitsOf" "[I" ∈ GW := GW_in (inT_4 (List.mem_of_getElem? (i := 45) rfl)) rfl
theorem gw311 : Cond.fieldLink RX6 31 "EvenSpringModel" "sizeOf" "[I" ∈ GW := GW_in (inT_4 (List.mem_of_getElem? (i := 46) rfl)) rfl
theorem gw312 : Cond.fieldLink RX6 34 "EvenSpringModel" "numbers" "[J" ∈ GW := GW_in (inT_4 (List.mem_of_getElem? (i := 47) rfl)) rfl
theorem gw313 : Cond.constant RX6 288 (-1000000007 : Int32) ∈ GW := GW_in (inT_5 (List.mem_of_getElem? (i := 189) rfl)) rfl
theorem gw314 : Cond.constant RX6 289 (-1000000006 : Int32) ∈ GW := GW_in (inT_5 (List.mem_of_getElem? (i := 198) rfl)) rfl
theorem gw315 : Cond.methodLink RX6 290 yX6_wrongSheet ∈ GW := GW_in (inT_5 (List.mem_of_getElem? (i := 194) rfl)) rfl
theorem gw316 : Cond.static yX6_narrowed ∈ GW := GW_in (inT_5 (List.mem_of_getElem? (i := 200) rfl)) rfl
theorem gw317 : Cond.methodLink RX6 293 yX6_narrowed ∈ GW := GW_in (inT_5 (List.mem_of_getElem? (i := 199) rfl)) rfl
theorem gw318 : Cond.fieldLink RX6 38 "EvenSpringModel" "moved" "[J" ∈ GW := GW_in (inT_4 (List.mem_of_getElem? (i := 48) rfl)) rfl
theorem gw319 : Cond.methodLink RX6 297 yX6_wrongBook ∈ GW := GW_in (inT_5 (List.mem_of_getElem? (i := 214) rfl)) rfl
theorem gw320 : Cond.methodLink RX6 300 yX6_isBook ∈ GW := GW_in (inT_5 (List.mem_of_getElem? (i := 222) rfl)) rfl
theorem gw321 : Cond.fieldLink RX6 303 "EvenSpringModel" "isKept" "Z" ∈ GW := GW_in (inT_4 (List.mem_of_getElem? (i := 38) rfl)) rfl
theorem gw322 : Cond.fieldLink RX6 13 "EvenSpringModel" "keptS" "[I" ∈ GW := GW_in (inT_4 (List.mem_of_getElem? (i := 34) rfl)) rfl
theorem gw323 : Cond.constantLong RX6 306 (-1 : Int64) ∈ GW := GW_in (inT_6 (List.mem_of_getElem? (i := 6) rfl)) rfl
theorem gw324 : Cond.constantLong RX6 308 (6 : Int64) ∈ GW := GW_in (inT_6 (List.mem_of_getElem? (i := 7) rfl)) rfl
theorem gw325 : Cond.code yX0_isField cX0_isField 1 (some .boolean) ∈ GW := GW_in (inT_1 (List.mem_of_getElem? (i := 197) rfl)) rfl
theorem gw326 : Cond.initialized RX0 ∈ GW := GW_in (inT_1 (List.mem_of_getElem? (i := 3) rfl)) rfl
theorem gw327 : Cond.code yX0_allows cX0_allows 2 (some .boolean) ∈ GW := GW_in (inT_1 (List.mem_of_getElem? (i := 194) rfl)) rfl
theorem gw328 : Cond.code yX0_least cX0_least 1 (some .int) ∈ GW := GW_in (inT_3 (List.mem_of_getElem? (i := 5) rfl)) rfl
theorem gw329 : Cond.code yX0_greatest cX0_greatest 1 (some .int) ∈ GW := GW_in (inT_3 (List.mem_of_getElem? (i := 12) rfl)) rfl
theorem gw330 : Cond.code yX0_startAs cX0_startAs 2 (none) ∈ GW := GW_in (inT_1 (List.mem_of_getElem? (i := 215) rfl)) rfl
theorem gw331 : Cond.instanceMethod yX0_startAs ∈ GW := GW_in (inT_1 (List.mem_of_getElem? (i := 213) rfl)) rfl
theorem gw332 : Cond.selects RX0 yX0_startAs yX0_startAs ∈ GW := GW_in (inT_1 (List.mem_of_getElem? (i := 214) rfl)) rfl
theorem gw333 : Cond.code yX0_become cX0_become 2 (none) ∈ GW := GW_in (inT_3 (List.mem_of_getElem? (i := 9) rfl)) rfl
theorem gw334 : Cond.instanceMethod yX0_become ∈ GW := GW_in (inT_3 (List.mem_of_getElem? (i := 7) rfl)) rfl
theorem gw335 : Cond.selects RX0 yX0_become yX0_become ∈ GW := GW_in (inT_3 (List.mem_of_getElem? (i := 8) rfl)) rfl
theorem gw336 : Cond.code yX0_value cX0_value 2 (some .int) ∈ GW := GW_in (inT_1 (List.mem_of_getElem? (i := 233) rfl)) rfl
theorem gw337 : Cond.instanceMethod yX0_value ∈ GW := GW_in (inT_1 (List.mem_of_getElem? (i := 231) rfl)) rfl
theorem gw338 : Cond.selects RX0 yX0_value yX0_value ∈ GW := GW_in (inT_1 (List.mem_of_getElem? (i := 232) rfl)) rfl
theorem gw339 : Cond.code yX0_change cX0_change 4 (some .int) ∈ GW := GW_in (inT_2 (List.mem_of_getElem? (i := 1) rfl)) rfl
theorem gw340 : Cond.instanceMethod yX0_change ∈ GW := GW_in (inT_1 (List.mem_of_getElem? (i := 239) rfl)) rfl
theorem gw341 : Cond.selects RX0 yX0_change yX0_change ∈ GW := GW_in (inT_2 (List.mem_of_getElem? (i := 0) rfl)) rfl
theorem gw342 : Cond.code yX0_isOfKind cX0_isOfKind 3 (some .boolean) ∈ GW := GW_in (inT_2 (List.mem_of_getElem? (i := 14) rfl)) rfl
theorem gw343 : Cond.instanceMethod yX0_isOfKind ∈ GW := GW_in (inT_2 (List.mem_of_getElem? (i := 12) rfl)) rfl
theorem gw344 : Cond.selects RX0 yX0_isOfKind yX0_isOfKind ∈ GW := GW_in (inT_2 (List.mem_of_getElem? (i := 13) rfl)) rfl
theorem gw345 : Cond.code yX0_length cX0_length 1 (some .int) ∈ GW := GW_in (inT_2 (List.mem_of_getElem? (i := 39) rfl)) rfl
theorem gw346 : Cond.instanceMethod yX0_length ∈ GW := GW_in (inT_2 (List.mem_of_getElem? (i := 38) rfl)) rfl
theorem gw347 : Cond.selects RX0 yX0_length yX0_length ∈ GW := GW_in (inP (List.mem_of_getElem? (i := 2) rfl)) rfl
theorem gw348 : Cond.code yX0_runsAsNew cX0_runsAsNew 2 (some .int) ∈ GW := GW_in (inT_2 (List.mem_of_getElem? (i := 35) rfl)) rfl
theorem gw349 : Cond.instanceMethod yX0_runsAsNew ∈ GW := GW_in (inT_2 (List.mem_of_getElem? (i := 34) rfl)) rfl
theorem gw350 : Cond.selects RX0 yX0_runsAsNew yX0_runsAsNew ∈ GW := GW_in (inP (List.mem_of_getElem? (i := 1) rfl)) rfl
theorem gw351 : Cond.code yX0_jugDaysUpTo cX0_jugDaysUpTo 1 (some .int) ∈ GW := GW_in (inT_2 (List.mem_of_getElem? (i := 42) rfl)) rfl
theorem gw352 : Cond.code yX0_runsAt cX0_runsAt 3 (some .int) ∈ GW := GW_in (inT_2 (List.mem_of_getElem? (i := 31) rfl)) rfl
theorem gw353 : Cond.instanceMethod yX0_runsAt ∈ GW := GW_in (inT_2 (List.mem_of_getElem? (i := 29) rfl)) rfl
theorem gw354 : Cond.selects RX0 yX0_runsAt yX0_runsAt ∈ GW := GW_in (inT_2 (List.mem_of_getElem? (i := 30) rfl)) rfl
theorem gw355 : Cond.code yX0_dateAt cX0_dateAt 2 (some .int) ∈ GW := GW_in (inT_2 (List.mem_of_getElem? (i := 27) rfl)) rfl
theorem gw356 : Cond.instanceMethod yX0_dateAt ∈ GW := GW_in (inT_2 (List.mem_of_getElem? (i := 25) rfl)) rfl
theorem gw357 : Cond.selects RX0 yX0_dateAt yX0_dateAt ∈ GW := GW_in (inT_2 (List.mem_of_getElem? (i := 26) rfl)) rfl
theorem gw358 : Cond.code yX0_monthAt cX0_monthAt 2 (some .int) ∈ GW := GW_in (inT_2 (List.mem_of_getElem? (i := 46) rfl)) rfl
theorem gw359 : Cond.instanceMethod yX0_monthAt ∈ GW := GW_in (inT_2 (List.mem_of_getElem? (i := 44) rfl)) rfl
theorem gw360 : Cond.selects RX0 yX0_monthAt yX0_monthAt ∈ GW := GW_in (inT_2 (List.mem_of_getElem? (i := 45) rfl)) rfl
theorem gw361 : Cond.code yX0_isHoly cX0_isHoly 5 (some .boolean) ∈ GW := GW_in (inT_2 (List.mem_of_getElem? (i := 50) rfl)) rfl
theorem gw362 : Cond.instanceMethod yX0_isHoly ∈ GW := GW_in (inT_2 (List.mem_of_getElem? (i := 48) rfl)) rfl
theorem gw363 : Cond.selects RX0 yX0_isHoly yX0_isHoly ∈ GW := GW_in (inT_2 (List.mem_of_getElem? (i := 49) rfl)) rfl
theorem gw364 : Cond.code yX1_startWith cX1_startWith 3 (none) ∈ GW := GW_in (inT_2 (List.mem_of_getElem? (i := 72) rfl)) rfl
theorem gw365 : Cond.initialized RX1 ∈ GW := GW_in (inT_1 (List.mem_of_getElem? (i := 4) rfl)) rfl
theorem gw366 : Cond.instanceMethod yX1_startWith ∈ GW := GW_in (inT_2 (List.mem_of_getElem? (i := 70) rfl)) rfl
theorem gw367 : Cond.selects RX1 yX1_startWith yX1_startWith ∈ GW := GW_in (inT_2 (List.mem_of_getElem? (i := 71) rfl)) rfl
theorem gw368 : Cond.code yX1_become cX1_become 2 (none) ∈ GW := GW_in (inT_2 (List.mem_of_getElem? (i := 178) rfl)) rfl
theorem gw369 : Cond.instanceMethod yX1_become ∈ GW := GW_in (inT_2 (List.mem_of_getElem? (i := 176) rfl)) rfl
theorem gw370 : Cond.selects RX1 yX1_become yX1_become ∈ GW := GW_in (inT_2 (List.mem_of_getElem? (i := 177) rfl)) rfl
theorem gw371 : Cond.code yX1_takeWater cX1_takeWater 3 (none) ∈ GW := GW_in (inT_2 (List.mem_of_getElem? (i := 97) rfl)) rfl
theorem gw372 : Cond.instanceMethod yX1_takeWater ∈ GW := GW_in (inT_2 (List.mem_of_getElem? (i := 95) rfl)) rfl
theorem gw373 : Cond.selects RX1 yX1_takeWater yX1_takeWater ∈ GW := GW_in (inT_2 (List.mem_of_getElem? (i := 96) rfl)) rfl
theorem gw374 : Cond.code yX1_takeBath cX1_takeBath 3 (none) ∈ GW := GW_in (inT_2 (List.mem_of_getElem? (i := 116) rfl)) rfl
theorem gw375 : Cond.instanceMethod yX1_takeBath ∈ GW := GW_in (inT_2 (List.mem_of_getElem? (i := 114) rfl)) rfl
theorem gw376 : Cond.selects RX1 yX1_takeBath yX1_takeBath ∈ GW := GW_in (inT_2 (List.mem_of_getElem? (i := 115) rfl)) rfl
theorem gw377 : Cond.code yX5_isIn cX5_isIn 2 (some .boolean) ∈ GW := GW_in (inT_2 (List.mem_of_getElem? (i := 136) rfl)) rfl
theorem gw378 : Cond.initialized RX5 ∈ GW := GW_in (inT_1 (List.mem_of_getElem? (i := 1) rfl)) rfl
theorem gw379 : Cond.code yX1_passDay cX1_passDay 4 (none) ∈ GW := GW_in (inT_2 (List.mem_of_getElem? (i := 133) rfl)) rfl
theorem gw380 : Cond.instanceMethod yX1_passDay ∈ GW := GW_in (inT_2 (List.mem_of_getElem? (i := 131) rfl)) rfl
theorem gw381 : Cond.selects RX1 yX1_passDay yX1_passDay ∈ GW := GW_in (inT_2 (List.mem_of_getElem? (i := 132) rfl)) rfl
theorem gw382 : Cond.code yX2_allows cX2_allows 1 (some .boolean) ∈ GW := GW_in (inT_3 (List.mem_of_getElem? (i := 188) rfl)) rfl
theorem gw383 : Cond.initialized RX2 ∈ GW := GW_in (inT_1 (List.mem_of_getElem? (i := 6) rfl)) rfl
theorem gw384 : Cond.code yX2_lay cX2_lay 4 (none) ∈ GW := GW_in (inT_3 (List.mem_of_getElem? (i := 193) rfl)) rfl
theorem gw385 : Cond.instanceMethod yX2_lay ∈ GW := GW_in (inT_3 (List.mem_of_getElem? (i := 191) rfl)) rfl
theorem gw386 : Cond.selects RX2 yX2_lay yX2_lay ∈ GW := GW_in (inT_3 (List.mem_of_getElem? (i := 192) rfl)) rfl
theorem gw387 : Cond.code yX2_isMissing cX2_isMissing 1 (some .boolean) ∈ GW := GW_in (inT_3 (List.mem_of_getElem? (i := 203) rfl)) rfl
theorem gw388 : Cond.instanceMethod yX2_isMissing ∈ GW := GW_in (inT_3 (List.mem_of_getElem? (i := 201) rfl)) rfl
theorem gw389 : Cond.selects RX2 yX2_isMissing yX2_isMissing ∈ GW := GW_in (inT_3 (List.mem_of_getElem? (i := 202) rfl)) rfl
theorem gw390 : Cond.code yX2_hasRange cX2_hasRange 3 (some .boolean) ∈ GW := GW_in (inT_3 (List.mem_of_getElem? (i := 224) rfl)) rfl
theorem gw391 : Cond.instanceMethod yX2_hasRange ∈ GW := GW_in (inT_3 (List.mem_of_getElem? (i := 222) rfl)) rfl
theorem gw392 : Cond.selects RX2 yX2_hasRange yX2_hasRange ∈ GW := GW_in (inT_3 (List.mem_of_getElem? (i := 223) rfl)) rfl
theorem gw393 : Cond.code yX2_numberAt cX2_numberAt 2 (some .long) ∈ GW := GW_in (inT_3 (List.mem_of_getElem? (i := 208) rfl)) rfl
theorem gw394 : Cond.instanceMethod yX2_numberAt ∈ GW := GW_in (inT_3 (List.mem_of_getElem? (i := 206) rfl)) rfl
theorem gw395 : Cond.selects RX2 yX2_numberAt yX2_numberAt ∈ GW := GW_in (inT_3 (List.mem_of_getElem? (i := 207) rfl)) rfl
theorem gw396 : Cond.code yX2_lowest cX2_lowest 3 (some .long) ∈ GW := GW_in (inT_3 (List.mem_of_getElem? (i := 216) rfl)) rfl
theorem gw397 : Cond.instanceMethod yX2_lowest ∈ GW := GW_in (inT_3 (List.mem_of_getElem? (i := 215) rfl)) rfl
theorem gw398 : Cond.selects RX2 yX2_lowest yX2_lowest ∈ GW := GW_in (inP (List.mem_of_getElem? (i := 24) rfl)) rfl
theorem gw399 : Cond.code yX2_put cX2_put 4 (none) ∈ GW := GW_in (inT_3 (List.mem_of_getElem? (i := 212) rfl)) rfl
theorem gw400 : Cond.instanceMethod yX2_put ∈ GW := GW_in (inT_3 (List.mem_of_getElem? (i := 210) rfl)) rfl
theorem gw401 : Cond.selects RX2 yX2_put yX2_put ∈ GW := GW_in (inT_3 (List.mem_of_getElem? (i := 211) rfl)) rfl
theorem gw402 : Cond.code yX3_become cX3_become 3 (none) ∈ GW := GW_in (inT_3 (List.mem_of_getElem? (i := 52) rfl)) rfl
theorem gw403 : Cond.initialized RX3 ∈ GW := GW_in (inT_1 (List.mem_of_getElem? (i := 2) rfl)) rfl
theorem gw404 : Cond.instanceMethod yX3_become ∈ GW := GW_in (inT_3 (List.mem_of_getElem? (i := 50) rfl)) rfl
theorem gw405 : Cond.selects RX3 yX3_become yX3_become ∈ GW := GW_in (inT_3 (List.mem_of_getElem? (i := 51) rfl)) rfl
theorem gw406 : Cond.code yX3_calendarAt cX3_calendarAt 3 (some (.object "EvenSpring$Calendar")) ∈ GW := GW_in (inT_1 (List.mem_of_getElem? (i := 228) rfl)) rfl
theorem gw407 : Cond.instanceMethod yX3_calendarAt ∈ GW := GW_in (inT_1 (List.mem_of_getElem? (i := 226) rfl)) rfl
theorem gw408 : Cond.selects RX3 yX3_calendarAt yX3_calendarAt ∈ GW := GW_in (inT_1 (List.mem_of_getElem? (i := 227) rfl)) rfl
theorem gw409 : Cond.code yX3_pilgrimAt cX3_pilgrimAt 3 (some (.object "EvenSpring$Pilgrim")) ∈ GW := GW_in (inT_2 (List.mem_of_getElem? (i := 80) rfl)) rfl
theorem gw410 : Cond.instanceMethod yX3_pilgrimAt ∈ GW := GW_in (inT_2 (List.mem_of_getElem? (i := 78) rfl)) rfl
theorem gw411 : Cond.selects RX3 yX3_pilgrimAt yX3_pilgrimAt ∈ GW := GW_in (inT_2 (List.mem_of_getElem? (i := 79) rfl)) rfl
theorem gw412 : Cond.code yX3_hasBoth cX3_hasBoth 3 (some .boolean) ∈ GW := GW_in (inT_2 (List.mem_of_getElem? (i := 200) rfl)) rfl
theorem gw413 : Cond.instanceMethod yX3_hasBoth ∈ GW := GW_in (inT_2 (List.mem_of_getElem? (i := 198) rfl)) rfl
theorem gw414 : Cond.selects RX3 yX3_hasBoth yX3_hasBoth ∈ GW := GW_in (inT_2 (List.mem_of_getElem? (i := 199) rfl)) rfl
theorem gw415 : Cond.code yX3_canTrust cX3_canTrust 2 (some .boolean) ∈ GW := GW_in (inT_2 (List.mem_of_getElem? (i := 63) rfl)) rfl
theorem gw416 : Cond.instanceMethod yX3_canTrust ∈ GW := GW_in (inT_2 (List.mem_of_getElem? (i := 61) rfl)) rfl
theorem gw417 : Cond.selects RX3 yX3_canTrust yX3_canTrust ∈ GW := GW_in (inT_2 (List.mem_of_getElem? (i := 62) rfl)) rfl
theorem gw418 : Cond.code yX3_addCalendar cX3_addCalendar 2 (none) ∈ GW := GW_in (inT_1 (List.mem_of_getElem? (i := 211) rfl)) rfl
theorem gw419 : Cond.instanceMethod yX3_addCalendar ∈ GW := GW_in (inT_1 (List.mem_of_getElem? (i := 209) rfl)) rfl
theorem gw420 : Cond.selects RX3 yX3_addCalendar yX3_addCalendar ∈ GW := GW_in (inT_1 (List.mem_of_getElem? (i := 210) rfl)) rfl
theorem gw421 : Cond.code yX3_addPilgrim cX3_addPilgrim 3 (none) ∈ GW := GW_in (inT_2 (List.mem_of_getElem? (i := 68) rfl)) rfl
theorem gw422 : Cond.instanceMethod yX3_addPilgrim ∈ GW := GW_in (inT_2 (List.mem_of_getElem? (i := 66) rfl)) rfl
theorem gw423 : Cond.selects RX3 yX3_addPilgrim yX3_addPilgrim ∈ GW := GW_in (inT_2 (List.mem_of_getElem? (i := 67) rfl)) rfl
theorem gw424 : Cond.code yX3_isHolyBy cX3_isHolyBy 4 (some .boolean) ∈ GW := GW_in (inT_2 (List.mem_of_getElem? (i := 111) rfl)) rfl
theorem gw425 : Cond.instanceMethod yX3_isHolyBy ∈ GW := GW_in (inT_2 (List.mem_of_getElem? (i := 109) rfl)) rfl
theorem gw426 : Cond.selects RX3 yX3_isHolyBy yX3_isHolyBy ∈ GW := GW_in (inT_2 (List.mem_of_getElem? (i := 110) rfl)) rfl
theorem gw427 : Cond.code yX3_holySet cX3_holySet 4 (some .int) ∈ GW := GW_in (inT_2 (List.mem_of_getElem? (i := 129) rfl)) rfl
theorem gw428 : Cond.instanceMethod yX3_holySet ∈ GW := GW_in (inT_2 (List.mem_of_getElem? (i := 127) rfl)) rfl
theorem gw429 : Cond.selects RX3 yX3_holySet yX3_holySet ∈ GW := GW_in (inT_2 (List.mem_of_getElem? (i := 128) rfl)) rfl
theorem gw430 : Cond.code yX3_takeJug cX3_takeJug 2 (some .boolean) ∈ GW := GW_in (inT_2 (List.mem_of_getElem? (i := 92) rfl)) rfl
theorem gw431 : Cond.instanceMethod yX3_takeJug ∈ GW := GW_in (inT_2 (List.mem_of_getElem? (i := 90) rfl)) rfl
theorem gw432 : Cond.selects RX3 yX3_takeJug yX3_takeJug ∈ GW := GW_in (inT_2 (List.mem_of_getElem? (i := 91) rfl)) rfl
theorem gw433 : Cond.code yX3_drawJug cX3_drawJug 2 (none) ∈ GW := GW_in (inT_2 (List.mem_of_getElem? (i := 142) rfl)) rfl
theorem gw434 : Cond.instanceMethod yX3_drawJug ∈ GW := GW_in (inT_2 (List.mem_of_getElem? (i := 141) rfl)) rfl
theorem gw435 : Cond.selects RX3 yX3_drawJug yX3_drawJug ∈ GW := GW_in (inP (List.mem_of_getElem? (i := 3) rfl)) rfl
theorem gw436 : Cond.code yX3_passDay cX3_passDay 3 (none) ∈ GW := GW_in (inT_2 (List.mem_of_getElem? (i := 125) rfl)) rfl
theorem gw437 : Cond.instanceMethod yX3_passDay ∈ GW := GW_in (inT_2 (List.mem_of_getElem? (i := 123) rfl)) rfl
theorem gw438 : Cond.selects RX3 yX3_passDay yX3_passDay ∈ GW := GW_in (inT_2 (List.mem_of_getElem? (i := 124) rfl)) rfl
theorem gw439 : Cond.code yX3_wellSet cX3_wellSet 3 (some .int) ∈ GW := GW_in (inT_2 (List.mem_of_getElem? (i := 147) rfl)) rfl
theorem gw440 : Cond.instanceMethod yX3_wellSet ∈ GW := GW_in (inT_2 (List.mem_of_getElem? (i := 145) rfl)) rfl
theorem gw441 : Cond.selects RX3 yX3_wellSet yX3_wellSet ∈ GW := GW_in (inT_2 (List.mem_of_getElem? (i := 146) rfl)) rfl
theorem gw442 : Cond.code yX3_illOfAll cX3_illOfAll 3 (some .int) ∈ GW := GW_in (inT_2 (List.mem_of_getElem? (i := 161) rfl)) rfl
theorem gw443 : Cond.instanceMethod yX3_illOfAll ∈ GW := GW_in (inT_2 (List.mem_of_getElem? (i := 159) rfl)) rfl
theorem gw444 : Cond.selects RX3 yX3_illOfAll yX3_illOfAll ∈ GW := GW_in (inT_2 (List.mem_of_getElem? (i := 160) rfl)) rfl
theorem gw445 : Cond.code yX3_bathedOfAll cX3_bathedOfAll 3 (some .int) ∈ GW := GW_in (inT_4 (List.mem_of_getElem? (i := 22) rfl)) rfl
theorem gw446 : Cond.instanceMethod yX3_bathedOfAll ∈ GW := GW_in (inT_4 (List.mem_of_getElem? (i := 20) rfl)) rfl
theorem gw447 : Cond.selects RX3 yX3_bathedOfAll yX3_bathedOfAll ∈ GW := GW_in (inT_4 (List.mem_of_getElem? (i := 21) rfl)) rfl
theorem gw448 : Cond.code yX4_add cX4_add 2 (none) ∈ GW := GW_in (inT_3 (List.mem_of_getElem? (i := 36) rfl)) rfl
theorem gw449 : Cond.initialized RX4 ∈ GW := GW_in (inT_1 (List.mem_of_getElem? (i := 5) rfl)) rfl
theorem gw450 : Cond.instanceMethod yX4_add ∈ GW := GW_in (inT_3 (List.mem_of_getElem? (i := 34) rfl)) rfl
theorem gw451 : Cond.selects RX4 yX4_add yX4_add ∈ GW := GW_in (inT_3 (List.mem_of_getElem? (i := 35) rfl)) rfl
theorem gw452 : Cond.code yX4_byteAt cX4_byteAt 2 (some .int) ∈ GW := GW_in (inT_3 (List.mem_of_getElem? (i := 62) rfl)) rfl
theorem gw453 : Cond.instanceMethod yX4_byteAt ∈ GW := GW_in (inT_3 (List.mem_of_getElem? (i := 61) rfl)) rfl
theorem gw454 : Cond.selects RX4 yX4_byteAt yX4_byteAt ∈ GW := GW_in (inP (List.mem_of_getElem? (i := 13) rfl)) rfl
theorem gw455 : Cond.code yX4_isLetter cX4_isLetter 1 (some .boolean) ∈ GW := GW_in (inT_3 (List.mem_of_getElem? (i := 65) rfl)) rfl
theorem gw456 : Cond.code yX4_isDigit cX4_isDigit 1 (some .boolean) ∈ GW := GW_in (inT_3 (List.mem_of_getElem? (i := 68) rfl)) rfl
theorem gw457 : Cond.code yX4_readToken cX4_readToken 1 (none) ∈ GW := GW_in (inT_3 (List.mem_of_getElem? (i := 58) rfl)) rfl
theorem gw458 : Cond.instanceMethod yX4_readToken ∈ GW := GW_in (inT_3 (List.mem_of_getElem? (i := 57) rfl)) rfl
theorem gw459 : Cond.selects RX4 yX4_readToken yX4_readToken ∈ GW := GW_in (inP (List.mem_of_getElem? (i := 12) rfl)) rfl
theorem gw460 : Cond.code yJ0_coder_7d493 cJ0_coder_7d493 1 (some .byte) ∈ GW := GW_in (inT_3 (List.mem_of_getElem? (i := 86) rfl)) rfl
theorem gw461 : Cond.initialized RJ0 ∈ GW := GW_in (inT_1 (List.mem_of_getElem? (i := 11) rfl)) rfl
theorem gw462 : Cond.instanceMethod yJ0_coder_7d493 ∈ GW := GW_in (inT_3 (List.mem_of_getElem? (i := 84) rfl)) rfl
theorem gw463 : Cond.selects RJ0 yJ0_coder_7d493 yJ0_coder_7d493 ∈ GW := GW_in (inT_3 (List.mem_of_getElem? (i := 85) rfl)) rfl
theorem gw464 : Cond.code yJ0_length_8abf5 cJ0_length_8abf5 1 (some .int) ∈ GW := GW_in (inT_3 (List.mem_of_getElem? (i := 82) rfl)) rfl
theorem gw465 : Cond.instanceMethod yJ0_length_8abf5 ∈ GW := GW_in (inT_3 (List.mem_of_getElem? (i := 80) rfl)) rfl
theorem gw466 : Cond.selects RJ0 yJ0_length_8abf5 yJ0_length_8abf5 ∈ GW := GW_in (inT_3 (List.mem_of_getElem? (i := 81) rfl)) rfl
theorem gw467 : Cond.code yJ0_isLatin1_aae02 cJ0_isLatin1_aae02 1 (some .boolean) ∈ GW := GW_in (inT_3 (List.mem_of_getElem? (i := 96) rfl)) rfl
theorem gw468 : Cond.instanceMethod yJ0_isLatin1_aae02 ∈ GW := GW_in (inT_3 (List.mem_of_getElem? (i := 94) rfl)) rfl
theorem gw469 : Cond.selects RJ0 yJ0_isLatin1_aae02 yJ0_isLatin1_aae02 ∈ GW := GW_in (inT_3 (List.mem_of_getElem? (i := 95) rfl)) rfl
theorem gw470 : Cond.code yJ3_checkIndex_8e157 cJ3_checkIndex_8e157 3 (some .int) ∈ GW := GW_in (inT_3 (List.mem_of_getElem? (i := 107) rfl)) rfl
theorem gw471 : Cond.initialized RJ3 ∈ GW := GW_in (inT_1 (List.mem_of_getElem? (i := 13) rfl)) rfl
theorem gw472 : Cond.code yJ0_checkIndex_df160 cJ0_checkIndex_df160 2 (none) ∈ GW := GW_in (inT_3 (List.mem_of_getElem? (i := 102) rfl)) rfl
theorem gw473 : Cond.code yJ1_charAt_3b067 cJ1_charAt_3b067 2 (some .char) ∈ GW := GW_in (inT_3 (List.mem_of_getElem? (i := 99) rfl)) rfl
theorem gw474 : Cond.initialized RJ1 ∈ GW := GW_in (inT_1 (List.mem_of_getElem? (i := 12) rfl)) rfl
theorem gw475 : Cond.code yJ0_charAt_5068e cJ0_charAt_5068e 2 (some .char) ∈ GW := GW_in (inT_3 (List.mem_of_getElem? (i := 92) rfl)) rfl
theorem gw476 : Cond.instanceMethod yJ0_charAt_5068e ∈ GW := GW_in (inT_3 (List.mem_of_getElem? (i := 90) rfl)) rfl
theorem gw477 : Cond.selects RJ0 yJ0_charAt_5068e yJ0_charAt_5068e ∈ GW := GW_in (inT_3 (List.mem_of_getElem? (i := 91) rfl)) rfl
theorem gw478 : Cond.code yX4_isWord cX4_isWord 3 (some .boolean) ∈ GW := GW_in (inT_3 (List.mem_of_getElem? (i := 78) rfl)) rfl
theorem gw479 : Cond.instanceMethod yX4_isWord ∈ GW := GW_in (inT_3 (List.mem_of_getElem? (i := 77) rfl)) rfl
theorem gw480 : Cond.selects RX4 yX4_isWord yX4_isWord ∈ GW := GW_in (inP (List.mem_of_getElem? (i := 15) rfl)) rfl
theorem gw481 : Cond.code yX5_within cX5_within 3 (some .boolean) ∈ GW := GW_in (inT_2 (List.mem_of_getElem? (i := 23) rfl)) rfl
theorem gw482 : Cond.code yX4_isNumber cX4_isNumber 3 (some .boolean) ∈ GW := GW_in (inT_3 (List.mem_of_getElem? (i := 134) rfl)) rfl
theorem gw483 : Cond.instanceMethod yX4_isNumber ∈ GW := GW_in (inT_3 (List.mem_of_getElem? (i := 133) rfl)) rfl
theorem gw484 : Cond.selects RX4 yX4_isNumber yX4_isNumber ∈ GW := GW_in (inP (List.mem_of_getElem? (i := 17) rfl)) rfl
theorem gw485 : Cond.code yX4_tellPilgrim cX4_tellPilgrim 3 (some .boolean) ∈ GW := GW_in (inT_3 (List.mem_of_getElem? (i := 130) rfl)) rfl
theorem gw486 : Cond.instanceMethod yX4_tellPilgrim ∈ GW := GW_in (inT_3 (List.mem_of_getElem? (i := 129) rfl)) rfl
theorem gw487 : Cond.selects RX4 yX4_tellPilgrim yX4_tellPilgrim ∈ GW := GW_in (inP (List.mem_of_getElem? (i := 16) rfl)) rfl
theorem gw488 : Cond.code yX4_tellTruth cX4_tellTruth 1 (some .boolean) ∈ GW := GW_in (inT_3 (List.mem_of_getElem? (i := 142) rfl)) rfl
theorem gw489 : Cond.instanceMethod yX4_tellTruth ∈ GW := GW_in (inT_3 (List.mem_of_getElem? (i := 141) rfl)) rfl
theorem gw490 : Cond.selects RX4 yX4_tellTruth yX4_tellTruth ∈ GW := GW_in (inP (List.mem_of_getElem? (i := 18) rfl)) rfl
theorem gw491 : Cond.code yX4_tellPower cX4_tellPower 1 (some .boolean) ∈ GW := GW_in (inT_3 (List.mem_of_getElem? (i := 147) rfl)) rfl
theorem gw492 : Cond.instanceMethod yX4_tellPower ∈ GW := GW_in (inT_3 (List.mem_of_getElem? (i := 146) rfl)) rfl
theorem gw493 : Cond.selects RX4 yX4_tellPower yX4_tellPower ∈ GW := GW_in (inP (List.mem_of_getElem? (i := 19) rfl)) rfl
theorem gw494 : Cond.code yX4_nameOf cX4_nameOf 1 (some (.object "java/lang/String")) ∈ GW := GW_in (inT_3 (List.mem_of_getElem? (i := 158) rfl)) rfl
theorem gw495 : Cond.code yX4_kindNamed cX4_kindNamed 2 (some .int) ∈ GW := GW_in (inT_3 (List.mem_of_getElem? (i := 155) rfl)) rfl
theorem gw496 : Cond.instanceMethod yX4_kindNamed ∈ GW := GW_in (inT_3 (List.mem_of_getElem? (i := 154) rfl)) rfl
theorem gw497 : Cond.selects RX4 yX4_kindNamed yX4_kindNamed ∈ GW := GW_in (inP (List.mem_of_getElem? (i := 21) rfl)) rfl
theorem gw498 : Cond.code yX4_tellField cX4_tellField 4 (some .boolean) ∈ GW := GW_in (inT_3 (List.mem_of_getElem? (i := 170) rfl)) rfl
theorem gw499 : Cond.instanceMethod yX4_tellField ∈ GW := GW_in (inT_3 (List.mem_of_getElem? (i := 169) rfl)) rfl
theorem gw500 : Cond.selects RX4 yX4_tellField yX4_tellField ∈ GW := GW_in (inP (List.mem_of_getElem? (i := 22) rfl)) rfl
theorem gw501 : Cond.code yX4_tellCalendar cX4_tellCalendar 2 (some .boolean) ∈ GW := GW_in (inT_3 (List.mem_of_getElem? (i := 151) rfl)) rfl
theorem gw502 : Cond.instanceMethod yX4_tellCalendar ∈ GW := GW_in (inT_3 (List.mem_of_getElem? (i := 150) rfl)) rfl
theorem gw503 : Cond.selects RX4 yX4_tellCalendar yX4_tellCalendar ∈ GW := GW_in (inP (List.mem_of_getElem? (i := 20) rfl)) rfl
theorem gw504 : Cond.code yX4_tellItem cX4_tellItem 1 (some .boolean) ∈ GW := GW_in (inT_3 (List.mem_of_getElem? (i := 73) rfl)) rfl
theorem gw505 : Cond.instanceMethod yX4_tellItem ∈ GW := GW_in (inT_3 (List.mem_of_getElem? (i := 72) rfl)) rfl
theorem gw506 : Cond.selects RX4 yX4_tellItem yX4_tellItem ∈ GW := GW_in (inP (List.mem_of_getElem? (i := 14) rfl)) rfl
theorem gw507 : Cond.code yX4_tell cX4_tell 3 (some .int) ∈ GW := GW_in (inT_3 (List.mem_of_getElem? (i := 48) rfl)) rfl
theorem gw508 : Cond.instanceMethod yX4_tell ∈ GW := GW_in (inT_3 (List.mem_of_getElem? (i := 46) rfl)) rfl
theorem gw509 : Cond.selects RX4 yX4_tell yX4_tell ∈ GW := GW_in (inT_3 (List.mem_of_getElem? (i := 47) rfl)) rfl
theorem gw510 : Cond.code yX5_found cX5_found 3 (some .int) ∈ GW := GW_in (inT_1 (List.mem_of_getElem? (i := 206) rfl)) rfl
theorem gw511 : Cond.instanceMethod yX5_found ∈ GW := GW_in (inT_1 (List.mem_of_getElem? (i := 205) rfl)) rfl
theorem gw512 : Cond.selects RX5 yX5_found yX5_found ∈ GW := GW_in (inP (List.mem_of_getElem? (i := 0) rfl)) rfl
theorem gw513 : Cond.code yX5_calendar cX5_calendar 2 (some .int) ∈ GW := GW_in (inT_1 (List.mem_of_getElem? (i := 191) rfl)) rfl
theorem gw514 : Cond.instanceMethod yX5_calendar ∈ GW := GW_in (inT_1 (List.mem_of_getElem? (i := 189) rfl)) rfl
theorem gw515 : Cond.selects RX5 yX5_calendar yX5_calendar ∈ GW := GW_in (inT_1 (List.mem_of_getElem? (i := 190) rfl)) rfl
theorem gw516 : Cond.code yX5_of cX5_of 4 (some .int) ∈ GW := GW_in (inT_1 (List.mem_of_getElem? (i := 224) rfl)) rfl
theorem gw517 : Cond.instanceMethod yX5_of ∈ GW := GW_in (inT_1 (List.mem_of_getElem? (i := 222) rfl)) rfl
theorem gw518 : Cond.selects RX5 yX5_of yX5_of ∈ GW := GW_in (inT_1 (List.mem_of_getElem? (i := 223) rfl)) rfl
theorem gw519 : Cond.code yX5_set cX5_set 5 (some .int) ∈ GW := GW_in (inT_1 (List.mem_of_getElem? (i := 237) rfl)) rfl
theorem gw520 : Cond.instanceMethod yX5_set ∈ GW := GW_in (inT_1 (List.mem_of_getElem? (i := 235) rfl)) rfl
theorem gw521 : Cond.selects RX5 yX5_set yX5_set ∈ GW := GW_in (inT_1 (List.mem_of_getElem? (i := 236) rfl)) rfl
theorem gw522 : Cond.code yX5_turn cX5_turn 4 (some .int) ∈ GW := GW_in (inT_2 (List.mem_of_getElem? (i := 6) rfl)) rfl
theorem gw523 : Cond.instanceMethod yX5_turn ∈ GW := GW_in (inT_2 (List.mem_of_getElem? (i := 4) rfl)) rfl
theorem gw524 : Cond.selects RX5 yX5_turn yX5_turn ∈ GW := GW_in (inT_2 (List.mem_of_getElem? (i := 5) rfl)) rfl
theorem gw525 : Cond.code yX5_as cX5_as 4 (some .int) ∈ GW := GW_in (inT_2 (List.mem_of_getElem? (i := 10) rfl)) rfl
theorem gw526 : Cond.instanceMethod yX5_as ∈ GW := GW_in (inT_2 (List.mem_of_getElem? (i := 8) rfl)) rfl
theorem gw527 : Cond.selects RX5 yX5_as yX5_as ∈ GW := GW_in (inT_2 (List.mem_of_getElem? (i := 9) rfl)) rfl
theorem gw528 : Cond.code yX5_date cX5_date 5 (some .int) ∈ GW := GW_in (inT_2 (List.mem_of_getElem? (i := 19) rfl)) rfl
theorem gw529 : Cond.instanceMethod yX5_date ∈ GW := GW_in (inT_2 (List.mem_of_getElem? (i := 17) rfl)) rfl
theorem gw530 : Cond.selects RX5 yX5_date yX5_date ∈ GW := GW_in (inT_2 (List.mem_of_getElem? (i := 18) rfl)) rfl
theorem gw531 : Cond.code yX5_law cX5_law 4 (some .int) ∈ GW := GW_in (inT_2 (List.mem_of_getElem? (i := 55) rfl)) rfl
theorem gw532 : Cond.instanceMethod yX5_law ∈ GW := GW_in (inT_2 (List.mem_of_getElem? (i := 53) rfl)) rfl
theorem gw533 : Cond.selects RX5 yX5_law yX5_law ∈ GW := GW_in (inT_2 (List.mem_of_getElem? (i := 54) rfl)) rfl
theorem gw534 : Cond.code yX5_pilgrim cX5_pilgrim 3 (some .int) ∈ GW := GW_in (inT_2 (List.mem_of_getElem? (i := 59) rfl)) rfl
theorem gw535 : Cond.instanceMethod yX5_pilgrim ∈ GW := GW_in (inT_2 (List.mem_of_getElem? (i := 57) rfl)) rfl
theorem gw536 : Cond.selects RX5 yX5_pilgrim yX5_pilgrim ∈ GW := GW_in (inT_2 (List.mem_of_getElem? (i := 58) rfl)) rfl
theorem gw537 : Cond.code yX5_about cX5_about 4 (some .int) ∈ GW := GW_in (inT_2 (List.mem_of_getElem? (i := 76) rfl)) rfl
theorem gw538 : Cond.instanceMethod yX5_about ∈ GW := GW_in (inT_2 (List.mem_of_getElem? (i := 74) rfl)) rfl
theorem gw539 : Cond.selects RX5 yX5_about yX5_about ∈ GW := GW_in (inT_2 (List.mem_of_getElem? (i := 75) rfl)) rfl
theorem gw540 : Cond.code yX5_mind cX5_mind 6 (some .int) ∈ GW := GW_in (inT_2 (List.mem_of_getElem? (i := 84) rfl)) rfl
theorem gw541 : Cond.instanceMethod yX5_mind ∈ GW := GW_in (inT_2 (List.mem_of_getElem? (i := 82) rfl)) rfl
theorem gw542 : Cond.selects RX5 yX5_mind yX5_mind ∈ GW := GW_in (inT_2 (List.mem_of_getElem? (i := 83) rfl)) rfl
theorem gw543 : Cond.code yX5_drink cX5_drink 5 (some .int) ∈ GW := GW_in (inT_2 (List.mem_of_getElem? (i := 88) rfl)) rfl
theorem gw544 : Cond.instanceMethod yX5_drink ∈ GW := GW_in (inT_2 (List.mem_of_getElem? (i := 86) rfl)) rfl
theorem gw545 : Cond.selects RX5 yX5_drink yX5_drink ∈ GW := GW_in (inT_2 (List.mem_of_getElem? (i := 87) rfl)) rfl
theorem gw546 : Cond.code yX5_bathe cX5_bathe 3 (some .int) ∈ GW := GW_in (inT_2 (List.mem_of_getElem? (i := 107) rfl)) rfl
theorem gw547 : Cond.instanceMethod yX5_bathe ∈ GW := GW_in (inT_2 (List.mem_of_getElem? (i := 105) rfl)) rfl
theorem gw548 : Cond.selects RX5 yX5_bathe yX5_bathe ∈ GW := GW_in (inT_2 (List.mem_of_getElem? (i := 106) rfl)) rfl
theorem gw549 : Cond.code yJ6_bitCount_0f7a4 cJ6_bitCount_0f7a4 1 (some .int) ∈ GW := GW_in (inT_2 (List.mem_of_getElem? (i := 150) rfl)) rfl
theorem gw550 : Cond.initialized RJ6 ∈ GW := GW_in (inT_1 (List.mem_of_getElem? (i := 10) rfl)) rfl
theorem gw551 : Cond.code yX5_days cX5_days 3 (some .int) ∈ GW := GW_in (inT_2 (List.mem_of_getElem? (i := 121) rfl)) rfl
theorem gw552 : Cond.instanceMethod yX5_days ∈ GW := GW_in (inT_2 (List.mem_of_getElem? (i := 119) rfl)) rfl
theorem gw553 : Cond.selects RX5 yX5_days yX5_days ∈ GW := GW_in (inT_2 (List.mem_of_getElem? (i := 120) rfl)) rfl
theorem gw554 : Cond.code yX5_now cX5_now 2 (some .int) ∈ GW := GW_in (inT_2 (List.mem_of_getElem? (i := 157) rfl)) rfl
theorem gw555 : Cond.instanceMethod yX5_now ∈ GW := GW_in (inT_2 (List.mem_of_getElem? (i := 155) rfl)) rfl
theorem gw556 : Cond.selects RX5 yX5_now yX5_now ∈ GW := GW_in (inT_2 (List.mem_of_getElem? (i := 156) rfl)) rfl
theorem gw557 : Cond.code yX5_lookAhead cX5_lookAhead 3 (none) ∈ GW := GW_in (inT_2 (List.mem_of_getElem? (i := 169) rfl)) rfl
theorem gw558 : Cond.instanceMethod yX5_lookAhead ∈ GW := GW_in (inT_2 (List.mem_of_getElem? (i := 168) rfl)) rfl
theorem gw559 : Cond.selects RX5 yX5_lookAhead yX5_lookAhead ∈ GW := GW_in (inP (List.mem_of_getElem? (i := 4) rfl)) rfl
theorem gw560 : Cond.code yX5_tryDays cX5_tryDays 6 (none) ∈ GW := GW_in (inT_2 (List.mem_of_getElem? (i := 174) rfl)) rfl
theorem gw561 : Cond.instanceMethod yX5_tryDays ∈ GW := GW_in (inT_2 (List.mem_of_getElem? (i := 173) rfl)) rfl
theorem gw562 : Cond.selects RX5 yX5_tryDays yX5_tryDays ∈ GW := GW_in (inP (List.mem_of_getElem? (i := 5) rfl)) rfl
theorem gw563 : Cond.code yX5_on cX5_on 5 (some .int) ∈ GW := GW_in (inT_2 (List.mem_of_getElem? (i := 165) rfl)) rfl
theorem gw564 : Cond.instanceMethod yX5_on ∈ GW := GW_in (inT_2 (List.mem_of_getElem? (i := 163) rfl)) rfl
theorem gw565 : Cond.selects RX5 yX5_on yX5_on ∈ GW := GW_in (inT_2 (List.mem_of_getElem? (i := 164) rfl)) rfl
theorem gw566 : Cond.code yX5_daysToWell cX5_daysToWell 4 (some .int) ∈ GW := GW_in (inT_2 (List.mem_of_getElem? (i := 187) rfl)) rfl
theorem gw567 : Cond.instanceMethod yX5_daysToWell ∈ GW := GW_in (inT_2 (List.mem_of_getElem? (i := 186) rfl)) rfl
theorem gw568 : Cond.selects RX5 yX5_daysToWell yX5_daysToWell ∈ GW := GW_in (inP (List.mem_of_getElem? (i := 6) rfl)) rfl
theorem gw569 : Cond.code yX5_well cX5_well 4 (some .int) ∈ GW := GW_in (inT_2 (List.mem_of_getElem? (i := 183) rfl)) rfl
theorem gw570 : Cond.instanceMethod yX5_well ∈ GW := GW_in (inT_2 (List.mem_of_getElem? (i := 181) rfl)) rfl
theorem gw571 : Cond.selects RX5 yX5_well yX5_well ∈ GW := GW_in (inT_2 (List.mem_of_getElem? (i := 182) rfl)) rfl
theorem gw572 : Cond.code yX5_next cX5_next 4 (some .int) ∈ GW := GW_in (inT_2 (List.mem_of_getElem? (i := 192) rfl)) rfl
theorem gw573 : Cond.instanceMethod yX5_next ∈ GW := GW_in (inT_2 (List.mem_of_getElem? (i := 190) rfl)) rfl
theorem gw574 : Cond.selects RX5 yX5_next yX5_next ∈ GW := GW_in (inT_2 (List.mem_of_getElem? (i := 191) rfl)) rfl
theorem gw575 : Cond.code yX5_agreeAhead cX5_agreeAhead 4 (some .boolean) ∈ GW := GW_in (inT_2 (List.mem_of_getElem? (i := 204) rfl)) rfl
theorem gw576 : Cond.instanceMethod yX5_agreeAhead ∈ GW := GW_in (inT_2 (List.mem_of_getElem? (i := 203) rfl)) rfl
theorem gw577 : Cond.selects RX5 yX5_agreeAhead yX5_agreeAhead ∈ GW := GW_in (inP (List.mem_of_getElem? (i := 7) rfl)) rfl
theorem gw578 : Cond.code yX5_agree cX5_agree 6 (some .int) ∈ GW := GW_in (inT_2 (List.mem_of_getElem? (i := 196) rfl)) rfl
theorem gw579 : Cond.instanceMethod yX5_agree ∈ GW := GW_in (inT_2 (List.mem_of_getElem? (i := 194) rfl)) rfl
theorem gw580 : Cond.selects RX5 yX5_agree yX5_agree ∈ GW := GW_in (inT_2 (List.mem_of_getElem? (i := 195) rfl)) rfl
theorem gw581 : Cond.code yX5_row cX5_row 7 (some .int) ∈ GW := GW_in (inT_2 (List.mem_of_getElem? (i := 209) rfl)) rfl
theorem gw582 : Cond.instanceMethod yX5_row ∈ GW := GW_in (inT_2 (List.mem_of_getElem? (i := 207) rfl)) rfl
theorem gw583 : Cond.selects RX5 yX5_row yX5_row ∈ GW := GW_in (inT_2 (List.mem_of_getElem? (i := 208) rfl)) rfl
theorem gw584 : Cond.code yX5_meet cX5_meet 3 (some .int) ∈ GW := GW_in (inT_2 (List.mem_of_getElem? (i := 214) rfl)) rfl
theorem gw585 : Cond.instanceMethod yX5_meet ∈ GW := GW_in (inT_2 (List.mem_of_getElem? (i := 212) rfl)) rfl
theorem gw586 : Cond.selects RX5 yX5_meet yX5_meet ∈ GW := GW_in (inT_2 (List.mem_of_getElem? (i := 213) rfl)) rfl
theorem gw587 : Cond.code yX5_both cX5_both 9 (some .int) ∈ GW := GW_in (inT_2 (List.mem_of_getElem? (i := 218) rfl)) rfl
theorem gw588 : Cond.instanceMethod yX5_both ∈ GW := GW_in (inT_2 (List.mem_of_getElem? (i := 216) rfl)) rfl
theorem gw589 : Cond.selects RX5 yX5_both yX5_both ∈ GW := GW_in (inT_2 (List.mem_of_getElem? (i := 217) rfl)) rfl
theorem gw590 : Cond.code yX5_trust cX5_trust 7 (some .int) ∈ GW := GW_in (inT_2 (List.mem_of_getElem? (i := 222) rfl)) rfl
theorem gw591 : Cond.instanceMethod yX5_trust ∈ GW := GW_in (inT_2 (List.mem_of_getElem? (i := 220) rfl)) rfl
theorem gw592 : Cond.selects RX5 yX5_trust yX5_trust ∈ GW := GW_in (inT_2 (List.mem_of_getElem? (i := 221) rfl)) rfl
theorem gw593 : Cond.code yX5_illOfAllAhead cX5_illOfAllAhead 6 (some .int) ∈ GW := GW_in (inT_2 (List.mem_of_getElem? (i := 230) rfl)) rfl
theorem gw594 : Cond.instanceMethod yX5_illOfAllAhead ∈ GW := GW_in (inT_2 (List.mem_of_getElem? (i := 229) rfl)) rfl
theorem gw595 : Cond.selects RX5 yX5_illOfAllAhead yX5_illOfAllAhead ∈ GW := GW_in (inP (List.mem_of_getElem? (i := 8) rfl)) rfl
theorem gw596 : Cond.code yX5_truth cX5_truth 6 (some .int) ∈ GW := GW_in (inT_2 (List.mem_of_getElem? (i := 226) rfl)) rfl
theorem gw597 : Cond.instanceMethod yX5_truth ∈ GW := GW_in (inT_2 (List.mem_of_getElem? (i := 224) rfl)) rfl
theorem gw598 : Cond.selects RX5 yX5_truth yX5_truth ∈ GW := GW_in (inT_2 (List.mem_of_getElem? (i := 225) rfl)) rfl
theorem gw599 : Cond.code yX5_cure cX5_cure 5 (some .int) ∈ GW := GW_in (inT_2 (List.mem_of_getElem? (i := 234) rfl)) rfl
theorem gw600 : Cond.instanceMethod yX5_cure ∈ GW := GW_in (inT_2 (List.mem_of_getElem? (i := 232) rfl)) rfl
theorem gw601 : Cond.selects RX5 yX5_cure yX5_cure ∈ GW := GW_in (inT_2 (List.mem_of_getElem? (i := 233) rfl)) rfl
theorem gw602 : Cond.code yX5_agreementsOfTried cX5_agreementsOfTried 4 (some .int) ∈ GW := GW_in (inT_3 (List.mem_of_getElem? (i := 16) rfl)) rfl
theorem gw603 : Cond.instanceMethod yX5_agreementsOfTried ∈ GW := GW_in (inT_3 (List.mem_of_getElem? (i := 15) rfl)) rfl
theorem gw604 : Cond.selects RX5 yX5_agreementsOfTried yX5_agreementsOfTried ∈ GW := GW_in (inP (List.mem_of_getElem? (i := 10) rfl)) rfl
theorem gw605 : Cond.code yX5_bestValue cX5_bestValue 11 (some .int) ∈ GW := GW_in (inT_3 (List.mem_of_getElem? (i := 2) rfl)) rfl
theorem gw606 : Cond.instanceMethod yX5_bestValue ∈ GW := GW_in (inT_3 (List.mem_of_getElem? (i := 1) rfl)) rfl
theorem gw607 : Cond.selects RX5 yX5_bestValue yX5_bestValue ∈ GW := GW_in (inP (List.mem_of_getElem? (i := 9) rfl)) rfl
theorem gw608 : Cond.code yX5_kind cX5_kind 3 (some .int) ∈ GW := GW_in (inT_2 (List.mem_of_getElem? (i := 238) rfl)) rfl
theorem gw609 : Cond.instanceMethod yX5_kind ∈ GW := GW_in (inT_2 (List.mem_of_getElem? (i := 236) rfl)) rfl
theorem gw610 : Cond.selects RX5 yX5_kind yX5_kind ∈ GW := GW_in (inT_2 (List.mem_of_getElem? (i := 237) rfl)) rfl
theorem gw611 : Cond.code yX5_begin cX5_begin 3 (some .int) ∈ GW := GW_in (inT_3 (List.mem_of_getElem? (i := 20) rfl)) rfl
theorem gw612 : Cond.instanceMethod yX5_begin ∈ GW := GW_in (inT_3 (List.mem_of_getElem? (i := 18) rfl)) rfl
theorem gw613 : Cond.selects RX5 yX5_begin yX5_begin ∈ GW := GW_in (inT_3 (List.mem_of_getElem? (i := 19) rfl)) rfl
theorem gw614 : Cond.code yX5_wellAhead cX5_wellAhead 6 (some .int) ∈ GW := GW_in (inT_3 (List.mem_of_getElem? (i := 28) rfl)) rfl
theorem gw615 : Cond.instanceMethod yX5_wellAhead ∈ GW := GW_in (inT_3 (List.mem_of_getElem? (i := 27) rfl)) rfl
theorem gw616 : Cond.selects RX5 yX5_wellAhead yX5_wellAhead ∈ GW := GW_in (inP (List.mem_of_getElem? (i := 11) rfl)) rfl
theorem gw617 : Cond.code yX5_power cX5_power 6 (some .int) ∈ GW := GW_in (inT_3 (List.mem_of_getElem? (i := 24) rfl)) rfl
theorem gw618 : Cond.instanceMethod yX5_power ∈ GW := GW_in (inT_3 (List.mem_of_getElem? (i := 22) rfl)) rfl
theorem gw619 : Cond.selects RX5 yX5_power yX5_power ∈ GW := GW_in (inT_3 (List.mem_of_getElem? (i := 23) rfl)) rfl
theorem gw620 : Cond.code yX5_feed cX5_feed 4 (some .int) ∈ GW := GW_in (inT_3 (List.mem_of_getElem? (i := 32) rfl)) rfl
theorem gw621 : Cond.instanceMethod yX5_feed ∈ GW := GW_in (inT_3 (List.mem_of_getElem? (i := 30) rfl)) rfl
theorem gw622 : Cond.selects RX5 yX5_feed yX5_feed ∈ GW := GW_in (inT_3 (List.mem_of_getElem? (i := 31) rfl)) rfl
theorem gw623 : Cond.code yX5_wipe cX5_wipe 2 (some .int) ∈ GW := GW_in (inT_3 (List.mem_of_getElem? (i := 40) rfl)) rfl
theorem gw624 : Cond.instanceMethod yX5_wipe ∈ GW := GW_in (inT_3 (List.mem_of_getElem? (i := 38) rfl)) rfl
theorem gw625 : Cond.selects RX5 yX5_wipe yX5_wipe ∈ GW := GW_in (inT_3 (List.mem_of_getElem? (i := 39) rfl)) rfl
theorem gw626 : Cond.code yX5_spring cX5_spring 2 (some .int) ∈ GW := GW_in (inT_3 (List.mem_of_getElem? (i := 44) rfl)) rfl
theorem gw627 : Cond.instanceMethod yX5_spring ∈ GW := GW_in (inT_3 (List.mem_of_getElem? (i := 42) rfl)) rfl
theorem gw628 : Cond.selects RX5 yX5_spring yX5_spring ∈ GW := GW_in (inT_3 (List.mem_of_getElem? (i := 43) rfl)) rfl
theorem gw629 : Cond.code yX5_sheetAt cX5_sheetAt 2 (some (.object "EvenSpring$Sheet")) ∈ GW := GW_in (inT_3 (List.mem_of_getElem? (i := 185) rfl)) rfl
theorem gw630 : Cond.instanceMethod yX5_sheetAt ∈ GW := GW_in (inT_3 (List.mem_of_getElem? (i := 184) rfl)) rfl
theorem gw631 : Cond.selects RX5 yX5_sheetAt yX5_sheetAt ∈ GW := GW_in (inP (List.mem_of_getElem? (i := 23) rfl)) rfl
theorem gw632 : Cond.code yX5_sheet cX5_sheet 5 (some .int) ∈ GW := GW_in (inT_3 (List.mem_of_getElem? (i := 181) rfl)) rfl
theorem gw633 : Cond.instanceMethod yX5_sheet ∈ GW := GW_in (inT_3 (List.mem_of_getElem? (i := 179) rfl)) rfl
theorem gw634 : Cond.selects RX5 yX5_sheet yX5_sheet ∈ GW := GW_in (inT_3 (List.mem_of_getElem? (i := 180) rfl)) rfl
theorem gw635 : Cond.code yX5_write cX5_write 8 (some .long) ∈ GW := GW_in (inT_3 (List.mem_of_getElem? (i := 199) rfl)) rfl
theorem gw636 : Cond.instanceMethod yX5_write ∈ GW := GW_in (inT_3 (List.mem_of_getElem? (i := 197) rfl)) rfl
theorem gw637 : Cond.selects RX5 yX5_write yX5_write ∈ GW := GW_in (inT_3 (List.mem_of_getElem? (i := 198) rfl)) rfl
theorem gw638 : Cond.code yX5_copy cX5_copy 8 (some .int) ∈ GW := GW_in (inT_3 (List.mem_of_getElem? (i := 220) rfl)) rfl
theorem gw639 : Cond.instanceMethod yX5_copy ∈ GW := GW_in (inT_3 (List.mem_of_getElem? (i := 218) rfl)) rfl
theorem gw640 : Cond.selects RX5 yX5_copy yX5_copy ∈ GW := GW_in (inT_3 (List.mem_of_getElem? (i := 219) rfl)) rfl
theorem gw641 : Cond.code yX5_lays cX5_lays 8 (some .int) ∈ GW := GW_in (inT_3 (List.mem_of_getElem? (i := 229) rfl)) rfl
theorem gw642 : Cond.instanceMethod yX5_lays ∈ GW := GW_in (inT_3 (List.mem_of_getElem? (i := 227) rfl)) rfl
theorem gw643 : Cond.selects RX5 yX5_lays yX5_lays ∈ GW := GW_in (inT_3 (List.mem_of_getElem? (i := 228) rfl)) rfl
theorem gw644 : Cond.code yX5_book cX5_book 6 (some .int) ∈ GW := GW_in (inT_3 (List.mem_of_getElem? (i := 234) rfl)) rfl
theorem gw645 : Cond.instanceMethod yX5_book ∈ GW := GW_in (inT_3 (List.mem_of_getElem? (i := 232) rfl)) rfl
theorem gw646 : Cond.selects RX5 yX5_book yX5_book ∈ GW := GW_in (inT_3 (List.mem_of_getElem? (i := 233) rfl)) rfl
theorem gw647 : Cond.code yX5_makesJustSo cX5_makesJustSo 6 (some .boolean) ∈ GW := GW_in (inT_4 (List.mem_of_getElem? (i := 2) rfl)) rfl
theorem gw648 : Cond.instanceMethod yX5_makesJustSo ∈ GW := GW_in (inT_4 (List.mem_of_getElem? (i := 1) rfl)) rfl
theorem gw649 : Cond.selects RX5 yX5_makesJustSo yX5_makesJustSo ∈ GW := GW_in (inP (List.mem_of_getElem? (i := 25) rfl)) rfl
theorem gw650 : Cond.code yX5_read cX5_read 8 (some .int) ∈ GW := GW_in (inT_3 (List.mem_of_getElem? (i := 238) rfl)) rfl
theorem gw651 : Cond.instanceMethod yX5_read ∈ GW := GW_in (inT_3 (List.mem_of_getElem? (i := 236) rfl)) rfl
theorem gw652 : Cond.selects RX5 yX5_read yX5_read ∈ GW := GW_in (inT_3 (List.mem_of_getElem? (i := 237) rfl)) rfl
theorem gw653 : Cond.code yX5_image cX5_image 1 (some .int) ∈ GW := GW_in (inT_4 (List.mem_of_getElem? (i := 6) rfl)) rfl
theorem gw654 : Cond.instanceMethod yX5_image ∈ GW := GW_in (inT_4 (List.mem_of_getElem? (i := 4) rfl)) rfl
theorem gw655 : Cond.selects RX5 yX5_image yX5_image ∈ GW := GW_in (inT_4 (List.mem_of_getElem? (i := 5) rfl)) rfl
theorem gw656 : Cond.code yX5_undo cX5_undo 1 (some .int) ∈ GW := GW_in (inT_4 (List.mem_of_getElem? (i := 10) rfl)) rfl
theorem gw657 : Cond.instanceMethod yX5_undo ∈ GW := GW_in (inT_4 (List.mem_of_getElem? (i := 8) rfl)) rfl
theorem gw658 : Cond.selects RX5 yX5_undo yX5_undo ∈ GW := GW_in (inT_4 (List.mem_of_getElem? (i := 9) rfl)) rfl
theorem gw659 : Cond.code yX5_tear cX5_tear 2 (some .int) ∈ GW := GW_in (inT_4 (List.mem_of_getElem? (i := 14) rfl)) rfl
theorem gw660 : Cond.instanceMethod yX5_tear ∈ GW := GW_in (inT_4 (List.mem_of_getElem? (i := 12) rfl)) rfl
theorem gw661 : Cond.selects RX5 yX5_tear yX5_tear ∈ GW := GW_in (inT_4 (List.mem_of_getElem? (i := 13) rfl)) rfl
theorem gw662 : Cond.code yX5_count cX5_count 2 (some .int) ∈ GW := GW_in (inT_4 (List.mem_of_getElem? (i := 18) rfl)) rfl
theorem gw663 : Cond.instanceMethod yX5_count ∈ GW := GW_in (inT_4 (List.mem_of_getElem? (i := 16) rfl)) rfl
theorem gw664 : Cond.selects RX5 yX5_count yX5_count ∈ GW := GW_in (inT_4 (List.mem_of_getElem? (i := 17) rfl)) rfl
theorem gw665 : Cond.code yX5_status cX5_status 4 (some .int) ∈ GW := GW_in (inT_4 (List.mem_of_getElem? (i := 26) rfl)) rfl
theorem gw666 : Cond.instanceMethod yX5_status ∈ GW := GW_in (inT_4 (List.mem_of_getElem? (i := 24) rfl)) rfl
theorem gw667 : Cond.selects RX5 yX5_status yX5_status ∈ GW := GW_in (inT_4 (List.mem_of_getElem? (i := 25) rfl)) rfl
theorem gw668 : Cond.code yX6_in cX6_in 6 (some .boolean) ∈ GW := GW_in (inT_4 (List.mem_of_getElem? (i := 92) rfl)) rfl
theorem gw669 : Cond.initialized RX6 ∈ GW := GW_in (inT_1 (List.mem_of_getElem? (i := 7) rfl)) rfl
theorem gw670 : Cond.code yX6_finds cX6_finds 2 (some .int) ∈ GW := GW_in (inT_4 (List.mem_of_getElem? (i := 97) rfl)) rfl
theorem gw671 : Cond.instanceMethod yX6_finds ∈ GW := GW_in (inT_4 (List.mem_of_getElem? (i := 96) rfl)) rfl
theorem gw672 : Cond.selects RX6 yX6_finds yX6_finds ∈ GW := GW_in (inP (List.mem_of_getElem? (i := 26) rfl)) rfl
theorem gw673 : Cond.code yX6_saves cX6_saves 2 (none) ∈ GW := GW_in (inT_5 (List.mem_of_getElem? (i := 111) rfl)) rfl
theorem gw674 : Cond.instanceMethod yX6_saves ∈ GW := GW_in (inT_5 (List.mem_of_getElem? (i := 110) rfl)) rfl
theorem gw675 : Cond.selects RX6 yX6_saves yX6_saves ∈ GW := GW_in (inP (List.mem_of_getElem? (i := 53) rfl)) rfl
theorem gw676 : Cond.code yX6_putsBack cX6_putsBack 2 (none) ∈ GW := GW_in (inT_5 (List.mem_of_getElem? (i := 181) rfl)) rfl
theorem gw677 : Cond.instanceMethod yX6_putsBack ∈ GW := GW_in (inT_5 (List.mem_of_getElem? (i := 180) rfl)) rfl
theorem gw678 : Cond.selects RX6 yX6_putsBack yX6_putsBack ∈ GW := GW_in (inP (List.mem_of_getElem? (i := 64) rfl)) rfl
theorem gw679 : Cond.code yX6_laysAside cX6_laysAside 2 (none) ∈ GW := GW_in (inT_5 (List.mem_of_getElem? (i := 14) rfl)) rfl
theorem gw680 : Cond.instanceMethod yX6_laysAside ∈ GW := GW_in (inT_5 (List.mem_of_getElem? (i := 13) rfl)) rfl
theorem gw681 : Cond.selects RX6 yX6_laysAside yX6_laysAside ∈ GW := GW_in (inP (List.mem_of_getElem? (i := 45) rfl)) rfl
theorem gw682 : Cond.code yX6_takesBack cX6_takesBack 3 (some .int) ∈ GW := GW_in (inT_5 (List.mem_of_getElem? (i := 18) rfl)) rfl
theorem gw683 : Cond.instanceMethod yX6_takesBack ∈ GW := GW_in (inT_5 (List.mem_of_getElem? (i := 17) rfl)) rfl
theorem gw684 : Cond.selects RX6 yX6_takesBack yX6_takesBack ∈ GW := GW_in (inP (List.mem_of_getElem? (i := 46) rfl)) rfl
theorem gw685 : Cond.code yX6_becomes cX6_becomes 4 (some .int) ∈ GW := GW_in (inT_4 (List.mem_of_getElem? (i := 129) rfl)) rfl
theorem gw686 : Cond.instanceMethod yX6_becomes ∈ GW := GW_in (inT_4 (List.mem_of_getElem? (i := 128) rfl)) rfl
theorem gw687 : Cond.selects RX6 yX6_becomes yX6_becomes ∈ GW := GW_in (inP (List.mem_of_getElem? (i := 30) rfl)) rfl
theorem gw688 : Cond.code yX6_isCalendar cX6_isCalendar 2 (some .boolean) ∈ GW := GW_in (inT_4 (List.mem_of_getElem? (i := 110) rfl)) rfl
theorem gw689 : Cond.instanceMethod yX6_isCalendar ∈ GW := GW_in (inT_4 (List.mem_of_getElem? (i := 109) rfl)) rfl
theorem gw690 : Cond.selects RX6 yX6_isCalendar yX6_isCalendar ∈ GW := GW_in (inP (List.mem_of_getElem? (i := 28) rfl)) rfl
theorem gw691 : Cond.code yX6_areTwo cX6_areTwo 3 (some .boolean) ∈ GW := GW_in (inT_5 (List.mem_of_getElem? (i := 39) rfl)) rfl
theorem gw692 : Cond.instanceMethod yX6_areTwo ∈ GW := GW_in (inT_5 (List.mem_of_getElem? (i := 38) rfl)) rfl
theorem gw693 : Cond.selects RX6 yX6_areTwo yX6_areTwo ∈ GW := GW_in (inP (List.mem_of_getElem? (i := 48) rfl)) rfl
theorem gw694 : Cond.code yX6_isPilgrim cX6_isPilgrim 2 (some .boolean) ∈ GW := GW_in (inT_4 (List.mem_of_getElem? (i := 191) rfl)) rfl
theorem gw695 : Cond.instanceMethod yX6_isPilgrim ∈ GW := GW_in (inT_4 (List.mem_of_getElem? (i := 190) rfl)) rfl
theorem gw696 : Cond.selects RX6 yX6_isPilgrim yX6_isPilgrim ∈ GW := GW_in (inP (List.mem_of_getElem? (i := 37) rfl)) rfl
theorem gw697 : Cond.code yX6_isKind cX6_isKind 1 (some .boolean) ∈ GW := GW_in (inT_4 (List.mem_of_getElem? (i := 88) rfl)) rfl
theorem gw698 : Cond.code yX6_its cX6_its 3 (some .int) ∈ GW := GW_in (inT_4 (List.mem_of_getElem? (i := 115) rfl)) rfl
theorem gw699 : Cond.instanceMethod yX6_its ∈ GW := GW_in (inT_4 (List.mem_of_getElem? (i := 114) rfl)) rfl
theorem gw700 : Cond.selects RX6 yX6_its yX6_its ∈ GW := GW_in (inP (List.mem_of_getElem? (i := 29) rfl)) rfl
theorem gw701 : Cond.code yX6_spot cX6_spot 2 (some .int) ∈ GW := GW_in (inT_4 (List.mem_of_getElem? (i := 183) rfl)) rfl
theorem gw702 : Cond.code yX6_isOf cX6_isOf 3 (some .int) ∈ GW := GW_in (inT_4 (List.mem_of_getElem? (i := 196) rfl)) rfl
theorem gw703 : Cond.instanceMethod yX6_isOf ∈ GW := GW_in (inT_4 (List.mem_of_getElem? (i := 195) rfl)) rfl
theorem gw704 : Cond.selects RX6 yX6_isOf yX6_isOf ∈ GW := GW_in (inP (List.mem_of_getElem? (i := 38) rfl)) rfl
theorem gw705 : Cond.code yX6_adds cX6_adds 3 (some .int) ∈ GW := GW_in (inT_4 (List.mem_of_getElem? (i := 102) rfl)) rfl
theorem gw706 : Cond.instanceMethod yX6_adds ∈ GW := GW_in (inT_4 (List.mem_of_getElem? (i := 101) rfl)) rfl
theorem gw707 : Cond.selects RX6 yX6_adds yX6_adds ∈ GW := GW_in (inP (List.mem_of_getElem? (i := 27) rfl)) rfl
theorem gw708 : Cond.code yX6_calendar cX6_calendar 2 (some .int) ∈ GW := GW_in (inT_4 (List.mem_of_getElem? (i := 85) rfl)) rfl
theorem gw709 : Cond.instanceMethod yX6_calendar ∈ GW := GW_in (inT_4 (List.mem_of_getElem? (i := 83) rfl)) rfl
theorem gw710 : Cond.selects RX6 yX6_calendar yX6_calendar ∈ GW := GW_in (inT_4 (List.mem_of_getElem? (i := 84) rfl)) rfl
theorem gw711 : Cond.code yX6_of cX6_of 3 (some .int) ∈ GW := GW_in (inT_4 (List.mem_of_getElem? (i := 106) rfl)) rfl
theorem gw712 : Cond.instanceMethod yX6_of ∈ GW := GW_in (inT_4 (List.mem_of_getElem? (i := 104) rfl)) rfl
theorem gw713 : Cond.selects RX6 yX6_of yX6_of ∈ GW := GW_in (inT_4 (List.mem_of_getElem? (i := 105) rfl)) rfl
theorem gw714 : Cond.code yX6_isPart cX6_isPart 2 (some .boolean) ∈ GW := GW_in (inT_4 (List.mem_of_getElem? (i := 122) rfl)) rfl
theorem gw715 : Cond.code yX6_set cX6_set 4 (some .int) ∈ GW := GW_in (inT_4 (List.mem_of_getElem? (i := 119) rfl)) rfl
theorem gw716 : Cond.instanceMethod yX6_set ∈ GW := GW_in (inT_4 (List.mem_of_getElem? (i := 117) rfl)) rfl
theorem gw717 : Cond.selects RX6 yX6_set yX6_set ∈ GW := GW_in (inT_4 (List.mem_of_getElem? (i := 118) rfl)) rfl
theorem gw718 : Cond.code yX6_turn cX6_turn 3 (some .int) ∈ GW := GW_in (inT_4 (List.mem_of_getElem? (i := 133) rfl)) rfl
theorem gw719 : Cond.instanceMethod yX6_turn ∈ GW := GW_in (inT_4 (List.mem_of_getElem? (i := 131) rfl)) rfl
theorem gw720 : Cond.selects RX6 yX6_turn yX6_turn ∈ GW := GW_in (inT_4 (List.mem_of_getElem? (i := 132) rfl)) rfl
theorem gw721 : Cond.code yX6_isUnder cX6_isUnder 2 (some .boolean) ∈ GW := GW_in (inT_4 (List.mem_of_getElem? (i := 140) rfl)) rfl
theorem gw722 : Cond.code yX6_as cX6_as 3 (some .int) ∈ GW := GW_in (inT_4 (List.mem_of_getElem? (i := 137) rfl)) rfl
theorem gw723 : Cond.instanceMethod yX6_as ∈ GW := GW_in (inT_4 (List.mem_of_getElem? (i := 135) rfl)) rfl
theorem gw724 : Cond.selects RX6 yX6_as yX6_as ∈ GW := GW_in (inT_4 (List.mem_of_getElem? (i := 136) rfl)) rfl
theorem gw725 : Cond.code yX6_runs cX6_runs 5 (some .int) ∈ GW := GW_in (inT_4 (List.mem_of_getElem? (i := 155) rfl)) rfl
theorem gw726 : Cond.instanceMethod yX6_runs ∈ GW := GW_in (inT_4 (List.mem_of_getElem? (i := 154) rfl)) rfl
theorem gw727 : Cond.selects RX6 yX6_runs yX6_runs ∈ GW := GW_in (inP (List.mem_of_getElem? (i := 32) rfl)) rfl
theorem gw728 : Cond.code yX6_dateOf cX6_dateOf 3 (some .int) ∈ GW := GW_in (inT_4 (List.mem_of_getElem? (i := 151) rfl)) rfl
theorem gw729 : Cond.instanceMethod yX6_dateOf ∈ GW := GW_in (inT_4 (List.mem_of_getElem? (i := 150) rfl)) rfl
theorem gw730 : Cond.selects RX6 yX6_dateOf yX6_dateOf ∈ GW := GW_in (inP (List.mem_of_getElem? (i := 31) rfl)) rfl
theorem gw731 : Cond.code yX6_monthOf cX6_monthOf 3 (some .int) ∈ GW := GW_in (inT_4 (List.mem_of_getElem? (i := 159) rfl)) rfl
theorem gw732 : Cond.instanceMethod yX6_monthOf ∈ GW := GW_in (inT_4 (List.mem_of_getElem? (i := 158) rfl)) rfl
theorem gw733 : Cond.selects RX6 yX6_monthOf yX6_monthOf ∈ GW := GW_in (inP (List.mem_of_getElem? (i := 33) rfl)) rfl
theorem gw734 : Cond.code yX6_isHoly cX6_isHoly 4 (some .boolean) ∈ GW := GW_in (inT_4 (List.mem_of_getElem? (i := 163) rfl)) rfl
theorem gw735 : Cond.instanceMethod yX6_isHoly ∈ GW := GW_in (inT_4 (List.mem_of_getElem? (i := 162) rfl)) rfl
theorem gw736 : Cond.selects RX6 yX6_isHoly yX6_isHoly ∈ GW := GW_in (inP (List.mem_of_getElem? (i := 34) rfl)) rfl
theorem gw737 : Cond.code yX6_date cX6_date 4 (some .int) ∈ GW := GW_in (inT_4 (List.mem_of_getElem? (i := 145) rfl)) rfl
theorem gw738 : Cond.instanceMethod yX6_date ∈ GW := GW_in (inT_4 (List.mem_of_getElem? (i := 143) rfl)) rfl
theorem gw739 : Cond.selects RX6 yX6_date yX6_date ∈ GW := GW_in (inT_4 (List.mem_of_getElem? (i := 144) rfl)) rfl
theorem gw740 : Cond.code yX6_law cX6_law 4 (some .int) ∈ GW := GW_in (inT_4 (List.mem_of_getElem? (i := 167) rfl)) rfl
theorem gw741 : Cond.instanceMethod yX6_law ∈ GW := GW_in (inT_4 (List.mem_of_getElem? (i := 165) rfl)) rfl
theorem gw742 : Cond.selects RX6 yX6_law yX6_law ∈ GW := GW_in (inT_4 (List.mem_of_getElem? (i := 166) rfl)) rfl
theorem gw743 : Cond.code yX6_comes cX6_comes 4 (some .int) ∈ GW := GW_in (inT_4 (List.mem_of_getElem? (i := 180) rfl)) rfl
theorem gw744 : Cond.instanceMethod yX6_comes ∈ GW := GW_in (inT_4 (List.mem_of_getElem? (i := 179) rfl)) rfl
theorem gw745 : Cond.selects RX6 yX6_comes yX6_comes ∈ GW := GW_in (inP (List.mem_of_getElem? (i := 36) rfl)) rfl
theorem gw746 : Cond.code yX6_isTrust cX6_isTrust 2 (some .boolean) ∈ GW := GW_in (inT_4 (List.mem_of_getElem? (i := 176) rfl)) rfl
theorem gw747 : Cond.instanceMethod yX6_isTrust ∈ GW := GW_in (inT_4 (List.mem_of_getElem? (i := 175) rfl)) rfl
theorem gw748 : Cond.selects RX6 yX6_isTrust yX6_isTrust ∈ GW := GW_in (inP (List.mem_of_getElem? (i := 35) rfl)) rfl
theorem gw749 : Cond.code yX6_pilgrim cX6_pilgrim 3 (some .int) ∈ GW := GW_in (inT_4 (List.mem_of_getElem? (i := 172) rfl)) rfl
theorem gw750 : Cond.instanceMethod yX6_pilgrim ∈ GW := GW_in (inT_4 (List.mem_of_getElem? (i := 170) rfl)) rfl
theorem gw751 : Cond.selects RX6 yX6_pilgrim yX6_pilgrim ∈ GW := GW_in (inT_4 (List.mem_of_getElem? (i := 171) rfl)) rfl
theorem gw752 : Cond.code yX6_about cX6_about 3 (some .int) ∈ GW := GW_in (inT_4 (List.mem_of_getElem? (i := 187) rfl)) rfl
theorem gw753 : Cond.instanceMethod yX6_about ∈ GW := GW_in (inT_4 (List.mem_of_getElem? (i := 185) rfl)) rfl
theorem gw754 : Cond.selects RX6 yX6_about yX6_about ∈ GW := GW_in (inT_4 (List.mem_of_getElem? (i := 186) rfl)) rfl
theorem gw755 : Cond.code yX6_mind cX6_mind 5 (some .int) ∈ GW := GW_in (inT_4 (List.mem_of_getElem? (i := 200) rfl)) rfl
theorem gw756 : Cond.instanceMethod yX6_mind ∈ GW := GW_in (inT_4 (List.mem_of_getElem? (i := 198) rfl)) rfl
theorem gw757 : Cond.selects RX6 yX6_mind yX6_mind ∈ GW := GW_in (inT_4 (List.mem_of_getElem? (i := 199) rfl)) rfl
theorem gw758 : Cond.code yX6_helps cX6_helps 4 (none) ∈ GW := GW_in (inT_4 (List.mem_of_getElem? (i := 209) rfl)) rfl
theorem gw759 : Cond.instanceMethod yX6_helps ∈ GW := GW_in (inT_4 (List.mem_of_getElem? (i := 208) rfl)) rfl
theorem gw760 : Cond.selects RX6 yX6_helps yX6_helps ∈ GW := GW_in (inP (List.mem_of_getElem? (i := 39) rfl)) rfl
theorem gw761 : Cond.code yX6_drink cX6_drink 4 (some .int) ∈ GW := GW_in (inT_4 (List.mem_of_getElem? (i := 204) rfl)) rfl
theorem gw762 : Cond.instanceMethod yX6_drink ∈ GW := GW_in (inT_4 (List.mem_of_getElem? (i := 202) rfl)) rfl
theorem gw763 : Cond.selects RX6 yX6_drink yX6_drink ∈ GW := GW_in (inT_4 (List.mem_of_getElem? (i := 203) rfl)) rfl
theorem gw764 : Cond.code yX6_bathes cX6_bathes 2 (none) ∈ GW := GW_in (inT_4 (List.mem_of_getElem? (i := 217) rfl)) rfl
theorem gw765 : Cond.instanceMethod yX6_bathes ∈ GW := GW_in (inT_4 (List.mem_of_getElem? (i := 216) rfl)) rfl
theorem gw766 : Cond.selects RX6 yX6_bathes yX6_bathes ∈ GW := GW_in (inP (List.mem_of_getElem? (i := 40) rfl)) rfl
theorem gw767 : Cond.code yX6_bathe cX6_bathe 2 (some .int) ∈ GW := GW_in (inT_4 (List.mem_of_getElem? (i := 213) rfl)) rfl
theorem gw768 : Cond.instanceMethod yX6_bathe ∈ GW := GW_in (inT_4 (List.mem_of_getElem? (i := 211) rfl)) rfl
theorem gw769 : Cond.selects RX6 yX6_bathe yX6_bathe ∈ GW := GW_in (inT_4 (List.mem_of_getElem? (i := 212) rfl)) rfl
theorem gw770 : Cond.code yX6_day cX6_day 3 (none) ∈ GW := GW_in (inT_4 (List.mem_of_getElem? (i := 231) rfl)) rfl
theorem gw771 : Cond.instanceMethod yX6_day ∈ GW := GW_in (inT_4 (List.mem_of_getElem? (i := 230) rfl)) rfl
theorem gw772 : Cond.selects RX6 yX6_day yX6_day ∈ GW := GW_in (inP (List.mem_of_getElem? (i := 42) rfl)) rfl
theorem gw773 : Cond.code yX6_goesOn cX6_goesOn 3 (none) ∈ GW := GW_in (inT_4 (List.mem_of_getElem? (i := 227) rfl)) rfl
theorem gw774 : Cond.instanceMethod yX6_goesOn ∈ GW := GW_in (inT_4 (List.mem_of_getElem? (i := 226) rfl)) rfl
theorem gw775 : Cond.selects RX6 yX6_goesOn yX6_goesOn ∈ GW := GW_in (inP (List.mem_of_getElem? (i := 41) rfl)) rfl
theorem gw776 : Cond.code yX6_wellOnes cX6_wellOnes 3 (some .int) ∈ GW := GW_in (inT_4 (List.mem_of_getElem? (i := 235) rfl)) rfl
theorem gw777 : Cond.instanceMethod yX6_wellOnes ∈ GW := GW_in (inT_4 (List.mem_of_getElem? (i := 234) rfl)) rfl
theorem gw778 : Cond.selects RX6 yX6_wellOnes yX6_wellOnes ∈ GW := GW_in (inP (List.mem_of_getElem? (i := 43) rfl)) rfl
theorem gw779 : Cond.code yX6_ones cX6_ones 3 (some .int) ∈ GW := GW_in (inT_4 (List.mem_of_getElem? (i := 238) rfl)) rfl
theorem gw780 : Cond.code yX6_days cX6_days 2 (some .int) ∈ GW := GW_in (inT_4 (List.mem_of_getElem? (i := 221) rfl)) rfl
theorem gw781 : Cond.instanceMethod yX6_days ∈ GW := GW_in (inT_4 (List.mem_of_getElem? (i := 219) rfl)) rfl
theorem gw782 : Cond.selects RX6 yX6_days yX6_days ∈ GW := GW_in (inT_4 (List.mem_of_getElem? (i := 220) rfl)) rfl
theorem gw783 : Cond.code yX6_together cX6_together 4 (some .int) ∈ GW := GW_in (inT_5 (List.mem_of_getElem? (i := 6) rfl)) rfl
theorem gw784 : Cond.instanceMethod yX6_together ∈ GW := GW_in (inT_5 (List.mem_of_getElem? (i := 5) rfl)) rfl
theorem gw785 : Cond.selects RX6 yX6_together yX6_together ∈ GW := GW_in (inP (List.mem_of_getElem? (i := 44) rfl)) rfl
theorem gw786 : Cond.code yX6_now cX6_now 2 (some .int) ∈ GW := GW_in (inT_5 (List.mem_of_getElem? (i := 2) rfl)) rfl
theorem gw787 : Cond.instanceMethod yX6_now ∈ GW := GW_in (inT_5 (List.mem_of_getElem? (i := 0) rfl)) rfl
theorem gw788 : Cond.selects RX6 yX6_now yX6_now ∈ GW := GW_in (inT_5 (List.mem_of_getElem? (i := 1) rfl)) rfl
theorem gw789 : Cond.code yX6_on cX6_on 4 (some .int) ∈ GW := GW_in (inT_5 (List.mem_of_getElem? (i := 10) rfl)) rfl
theorem gw790 : Cond.instanceMethod yX6_on ∈ GW := GW_in (inT_5 (List.mem_of_getElem? (i := 8) rfl)) rfl
theorem gw791 : Cond.selects RX6 yX6_on yX6_on ∈ GW := GW_in (inT_5 (List.mem_of_getElem? (i := 9) rfl)) rfl
theorem gw792 : Cond.code yX6_wellIn cX6_wellIn 3 (some .int) ∈ GW := GW_in (inT_5 (List.mem_of_getElem? (i := 26) rfl)) rfl
theorem gw793 : Cond.instanceMethod yX6_wellIn ∈ GW := GW_in (inT_5 (List.mem_of_getElem? (i := 25) rfl)) rfl
theorem gw794 : Cond.selects RX6 yX6_wellIn yX6_wellIn ∈ GW := GW_in (inP (List.mem_of_getElem? (i := 47) rfl)) rfl
theorem gw795 : Cond.code yX6_well cX6_well 3 (some .int) ∈ GW := GW_in (inT_5 (List.mem_of_getElem? (i := 22) rfl)) rfl
theorem gw796 : Cond.instanceMethod yX6_well ∈ GW := GW_in (inT_5 (List.mem_of_getElem? (i := 20) rfl)) rfl
theorem gw797 : Cond.selects RX6 yX6_well yX6_well ∈ GW := GW_in (inT_5 (List.mem_of_getElem? (i := 21) rfl)) rfl
theorem gw798 : Cond.code yX6_next cX6_next 3 (some .int) ∈ GW := GW_in (inT_5 (List.mem_of_getElem? (i := 31) rfl)) rfl
theorem gw799 : Cond.instanceMethod yX6_next ∈ GW := GW_in (inT_5 (List.mem_of_getElem? (i := 29) rfl)) rfl
theorem gw800 : Cond.selects RX6 yX6_next yX6_next ∈ GW := GW_in (inT_5 (List.mem_of_getElem? (i := 30) rfl)) rfl
theorem gw801 : Cond.code yX6_isAgreed cX6_isAgreed 4 (some .boolean) ∈ GW := GW_in (inT_5 (List.mem_of_getElem? (i := 47) rfl)) rfl
theorem gw802 : Cond.instanceMethod yX6_isAgreed ∈ GW := GW_in (inT_5 (List.mem_of_getElem? (i := 46) rfl)) rfl
theorem gw803 : Cond.selects RX6 yX6_isAgreed yX6_isAgreed ∈ GW := GW_in (inP (List.mem_of_getElem? (i := 50) rfl)) rfl
theorem gw804 : Cond.code yX6_agreed cX6_agreed 6 (some .int) ∈ GW := GW_in (inT_5 (List.mem_of_getElem? (i := 43) rfl)) rfl
theorem gw805 : Cond.instanceMethod yX6_agreed ∈ GW := GW_in (inT_5 (List.mem_of_getElem? (i := 42) rfl)) rfl
theorem gw806 : Cond.selects RX6 yX6_agreed yX6_agreed ∈ GW := GW_in (inP (List.mem_of_getElem? (i := 49) rfl)) rfl
theorem gw807 : Cond.code yX6_agree cX6_agree 4 (some .int) ∈ GW := GW_in (inT_5 (List.mem_of_getElem? (i := 35) rfl)) rfl
theorem gw808 : Cond.instanceMethod yX6_agree ∈ GW := GW_in (inT_5 (List.mem_of_getElem? (i := 33) rfl)) rfl
theorem gw809 : Cond.selects RX6 yX6_agree yX6_agree ∈ GW := GW_in (inT_5 (List.mem_of_getElem? (i := 34) rfl)) rfl
theorem gw810 : Cond.code yX6_row cX6_row 7 (some .int) ∈ GW := GW_in (inT_5 (List.mem_of_getElem? (i := 51) rfl)) rfl
theorem gw811 : Cond.instanceMethod yX6_row ∈ GW := GW_in (inT_5 (List.mem_of_getElem? (i := 49) rfl)) rfl
theorem gw812 : Cond.selects RX6 yX6_row yX6_row ∈ GW := GW_in (inT_5 (List.mem_of_getElem? (i := 50) rfl)) rfl
theorem gw813 : Cond.code yX6_holyBy cX6_holyBy 4 (some .int) ∈ GW := GW_in (inT_5 (List.mem_of_getElem? (i := 59) rfl)) rfl
theorem gw814 : Cond.instanceMethod yX6_holyBy ∈ GW := GW_in (inT_5 (List.mem_of_getElem? (i := 58) rfl)) rfl
theorem gw815 : Cond.selects RX6 yX6_holyBy yX6_holyBy ∈ GW := GW_in (inP (List.mem_of_getElem? (i := 51) rfl)) rfl
theorem gw816 : Cond.code yX6_meet cX6_meet 3 (some .int) ∈ GW := GW_in (inT_5 (List.mem_of_getElem? (i := 55) rfl)) rfl
theorem gw817 : Cond.instanceMethod yX6_meet ∈ GW := GW_in (inT_5 (List.mem_of_getElem? (i := 53) rfl)) rfl
theorem gw818 : Cond.selects RX6 yX6_meet yX6_meet ∈ GW := GW_in (inT_5 (List.mem_of_getElem? (i := 54) rfl)) rfl
theorem gw819 : Cond.code yX6_isDate cX6_isDate 1 (some .boolean) ∈ GW := GW_in (inT_5 (List.mem_of_getElem? (i := 66) rfl)) rfl
theorem gw820 : Cond.code yX6_both cX6_both 6 (some .int) ∈ GW := GW_in (inT_5 (List.mem_of_getElem? (i := 63) rfl)) rfl
theorem gw821 : Cond.instanceMethod yX6_both ∈ GW := GW_in (inT_5 (List.mem_of_getElem? (i := 61) rfl)) rfl
theorem gw822 : Cond.selects RX6 yX6_both yX6_both ∈ GW := GW_in (inT_5 (List.mem_of_getElem? (i := 62) rfl)) rfl
theorem gw823 : Cond.code yX6_trust cX6_trust 8 (some .int) ∈ GW := GW_in (inT_5 (List.mem_of_getElem? (i := 70) rfl)) rfl
theorem gw824 : Cond.instanceMethod yX6_trust ∈ GW := GW_in (inT_5 (List.mem_of_getElem? (i := 68) rfl)) rfl
theorem gw825 : Cond.selects RX6 yX6_trust yX6_trust ∈ GW := GW_in (inT_5 (List.mem_of_getElem? (i := 69) rfl)) rfl
theorem gw826 : Cond.code yX6_truth cX6_truth 7 (some .int) ∈ GW := GW_in (inT_5 (List.mem_of_getElem? (i := 74) rfl)) rfl
theorem gw827 : Cond.instanceMethod yX6_truth ∈ GW := GW_in (inT_5 (List.mem_of_getElem? (i := 72) rfl)) rfl
theorem gw828 : Cond.selects RX6 yX6_truth yX6_truth ∈ GW := GW_in (inT_5 (List.mem_of_getElem? (i := 73) rfl)) rfl
theorem gw829 : Cond.code yX6_cure cX6_cure 4 (some .int) ∈ GW := GW_in (inT_5 (List.mem_of_getElem? (i := 79) rfl)) rfl
theorem gw830 : Cond.instanceMethod yX6_cure ∈ GW := GW_in (inT_5 (List.mem_of_getElem? (i := 77) rfl)) rfl
theorem gw831 : Cond.selects RX6 yX6_cure yX6_cure ∈ GW := GW_in (inT_5 (List.mem_of_getElem? (i := 78) rfl)) rfl
theorem gw832 : Cond.code yX6_mostAgreed cX6_mostAgreed 11 (some .int) ∈ GW := GW_in (inT_5 (List.mem_of_getElem? (i := 87) rfl)) rfl
theorem gw833 : Cond.instanceMethod yX6_mostAgreed ∈ GW := GW_in (inT_5 (List.mem_of_getElem? (i := 86) rfl)) rfl
theorem gw834 : Cond.selects RX6 yX6_mostAgreed yX6_mostAgreed ∈ GW := GW_in (inP (List.mem_of_getElem? (i := 52) rfl)) rfl
theorem gw835 : Cond.code yX6_kind cX6_kind 3 (some .int) ∈ GW := GW_in (inT_5 (List.mem_of_getElem? (i := 83) rfl)) rfl
theorem gw836 : Cond.instanceMethod yX6_kind ∈ GW := GW_in (inT_5 (List.mem_of_getElem? (i := 81) rfl)) rfl
theorem gw837 : Cond.selects RX6 yX6_kind yX6_kind ∈ GW := GW_in (inT_5 (List.mem_of_getElem? (i := 82) rfl)) rfl
theorem gw838 : Cond.code yX6_begin cX6_begin 3 (some .int) ∈ GW := GW_in (inT_5 (List.mem_of_getElem? (i := 91) rfl)) rfl
theorem gw839 : Cond.instanceMethod yX6_begin ∈ GW := GW_in (inT_5 (List.mem_of_getElem? (i := 89) rfl)) rfl
theorem gw840 : Cond.selects RX6 yX6_begin yX6_begin ∈ GW := GW_in (inT_5 (List.mem_of_getElem? (i := 90) rfl)) rfl
theorem gw841 : Cond.code yX6_power cX6_power 7 (some .int) ∈ GW := GW_in (inT_5 (List.mem_of_getElem? (i := 95) rfl)) rfl
theorem gw842 : Cond.instanceMethod yX6_power ∈ GW := GW_in (inT_5 (List.mem_of_getElem? (i := 93) rfl)) rfl
theorem gw843 : Cond.selects RX6 yX6_power yX6_power ∈ GW := GW_in (inT_5 (List.mem_of_getElem? (i := 94) rfl)) rfl
theorem gw844 : Cond.code yX6_feed cX6_feed 4 (some .int) ∈ GW := GW_in (inT_5 (List.mem_of_getElem? (i := 99) rfl)) rfl
theorem gw845 : Cond.instanceMethod yX6_feed ∈ GW := GW_in (inT_5 (List.mem_of_getElem? (i := 97) rfl)) rfl
theorem gw846 : Cond.selects RX6 yX6_feed yX6_feed ∈ GW := GW_in (inT_5 (List.mem_of_getElem? (i := 98) rfl)) rfl
theorem gw847 : Cond.code yX6_wipe cX6_wipe 2 (some .int) ∈ GW := GW_in (inT_5 (List.mem_of_getElem? (i := 103) rfl)) rfl
theorem gw848 : Cond.instanceMethod yX6_wipe ∈ GW := GW_in (inT_5 (List.mem_of_getElem? (i := 101) rfl)) rfl
theorem gw849 : Cond.selects RX6 yX6_wipe yX6_wipe ∈ GW := GW_in (inT_5 (List.mem_of_getElem? (i := 102) rfl)) rfl
theorem gw850 : Cond.code yX6_byteAt cX6_byteAt 2 (some .int) ∈ GW := GW_in (inT_5 (List.mem_of_getElem? (i := 119) rfl)) rfl
theorem gw851 : Cond.instanceMethod yX6_byteAt ∈ GW := GW_in (inT_5 (List.mem_of_getElem? (i := 118) rfl)) rfl
theorem gw852 : Cond.selects RX6 yX6_byteAt yX6_byteAt ∈ GW := GW_in (inP (List.mem_of_getElem? (i := 55) rfl)) rfl
theorem gw853 : Cond.code yX6_isLetter cX6_isLetter 1 (some .boolean) ∈ GW := GW_in (inT_5 (List.mem_of_getElem? (i := 122) rfl)) rfl
theorem gw854 : Cond.code yX6_isDigit cX6_isDigit 1 (some .boolean) ∈ GW := GW_in (inT_5 (List.mem_of_getElem? (i := 127) rfl)) rfl
theorem gw855 : Cond.code yX6_token cX6_token 3 (none) ∈ GW := GW_in (inT_5 (List.mem_of_getElem? (i := 115) rfl)) rfl
theorem gw856 : Cond.instanceMethod yX6_token ∈ GW := GW_in (inT_5 (List.mem_of_getElem? (i := 114) rfl)) rfl
theorem gw857 : Cond.selects RX6 yX6_token yX6_token ∈ GW := GW_in (inP (List.mem_of_getElem? (i := 54) rfl)) rfl
theorem gw858 : Cond.code yX6_must cX6_must 2 (none) ∈ GW := GW_in (inT_5 (List.mem_of_getElem? (i := 157) rfl)) rfl
theorem gw859 : Cond.instanceMethod yX6_must ∈ GW := GW_in (inT_5 (List.mem_of_getElem? (i := 156) rfl)) rfl
theorem gw860 : Cond.selects RX6 yX6_must yX6_must ∈ GW := GW_in (inP (List.mem_of_getElem? (i := 60) rfl)) rfl
theorem gw861 : Cond.code yX6_word cX6_word 4 (some .long) ∈ GW := GW_in (inT_5 (List.mem_of_getElem? (i := 141) rfl)) rfl
theorem gw862 : Cond.instanceMethod yX6_word ∈ GW := GW_in (inT_5 (List.mem_of_getElem? (i := 140) rfl)) rfl
theorem gw863 : Cond.selects RX6 yX6_word yX6_word ∈ GW := GW_in (inP (List.mem_of_getElem? (i := 58) rfl)) rfl
theorem gw864 : Cond.code yX6_number cX6_number 6 (none) ∈ GW := GW_in (inT_5 (List.mem_of_getElem? (i := 166) rfl)) rfl
theorem gw865 : Cond.instanceMethod yX6_number ∈ GW := GW_in (inT_5 (List.mem_of_getElem? (i := 165) rfl)) rfl
theorem gw866 : Cond.selects RX6 yX6_number yX6_number ∈ GW := GW_in (inP (List.mem_of_getElem? (i := 62) rfl)) rfl
theorem gw867 : Cond.code yX6_kindHere cX6_kindHere 3 (some .int) ∈ GW := GW_in (inT_5 (List.mem_of_getElem? (i := 137) rfl)) rfl
theorem gw868 : Cond.instanceMethod yX6_kindHere ∈ GW := GW_in (inT_5 (List.mem_of_getElem? (i := 136) rfl)) rfl
theorem gw869 : Cond.selects RX6 yX6_kindHere yX6_kindHere ∈ GW := GW_in (inP (List.mem_of_getElem? (i := 57) rfl)) rfl
theorem gw870 : Cond.code yX6_partItem cX6_partItem 7 (none) ∈ GW := GW_in (inT_5 (List.mem_of_getElem? (i := 162) rfl)) rfl
theorem gw871 : Cond.instanceMethod yX6_partItem ∈ GW := GW_in (inT_5 (List.mem_of_getElem? (i := 161) rfl)) rfl
theorem gw872 : Cond.selects RX6 yX6_partItem yX6_partItem ∈ GW := GW_in (inP (List.mem_of_getElem? (i := 61) rfl)) rfl
theorem gw873 : Cond.code yX6_calendarItem cX6_calendarItem 3 (none) ∈ GW := GW_in (inT_5 (List.mem_of_getElem? (i := 153) rfl)) rfl
theorem gw874 : Cond.instanceMethod yX6_calendarItem ∈ GW := GW_in (inT_5 (List.mem_of_getElem? (i := 152) rfl)) rfl
theorem gw875 : Cond.selects RX6 yX6_calendarItem yX6_calendarItem ∈ GW := GW_in (inP (List.mem_of_getElem? (i := 59) rfl)) rfl
theorem gw876 : Cond.code yX6_pilgrimItem cX6_pilgrimItem 4 (none) ∈ GW := GW_in (inT_5 (List.mem_of_getElem? (i := 174) rfl)) rfl
theorem gw877 : Cond.instanceMethod yX6_pilgrimItem ∈ GW := GW_in (inT_5 (List.mem_of_getElem? (i := 173) rfl)) rfl
theorem gw878 : Cond.selects RX6 yX6_pilgrimItem yX6_pilgrimItem ∈ GW := GW_in (inP (List.mem_of_getElem? (i := 63) rfl)) rfl
theorem gw879 : Cond.code yX6_item cX6_item 6 (none) ∈ GW := GW_in (inT_5 (List.mem_of_getElem? (i := 133) rfl)) rfl
theorem gw880 : Cond.instanceMethod yX6_item ∈ GW := GW_in (inT_5 (List.mem_of_getElem? (i := 132) rfl)) rfl
theorem gw881 : Cond.selects RX6 yX6_item yX6_item ∈ GW := GW_in (inP (List.mem_of_getElem? (i := 56) rfl)) rfl
theorem gw882 : Cond.code yX6_spring cX6_spring 2 (some .int) ∈ GW := GW_in (inT_5 (List.mem_of_getElem? (i := 107) rfl)) rfl
theorem gw883 : Cond.instanceMethod yX6_spring ∈ GW := GW_in (inT_5 (List.mem_of_getElem? (i := 105) rfl)) rfl
theorem gw884 : Cond.selects RX6 yX6_spring yX6_spring ∈ GW := GW_in (inT_5 (List.mem_of_getElem? (i := 106) rfl)) rfl
theorem gw885 : Cond.code yX6_isOne cX6_isOne 1 (some .boolean) ∈ GW := GW_in (inT_5 (List.mem_of_getElem? (i := 188) rfl)) rfl
theorem gw886 : Cond.code yX6_sheet cX6_sheet 5 (some .int) ∈ GW := GW_in (inT_5 (List.mem_of_getElem? (i := 185) rfl)) rfl
theorem gw887 : Cond.instanceMethod yX6_sheet ∈ GW := GW_in (inT_5 (List.mem_of_getElem? (i := 183) rfl)) rfl
theorem gw888 : Cond.selects RX6 yX6_sheet yX6_sheet ∈ GW := GW_in (inT_5 (List.mem_of_getElem? (i := 184) rfl)) rfl
theorem gw889 : Cond.code yX6_narrowed cX6_narrowed 3 (some .long) ∈ GW := GW_in (inT_5 (List.mem_of_getElem? (i := 201) rfl)) rfl
theorem gw890 : Cond.code yX6_wrongSheet cX6_wrongSheet 2 (some .int) ∈ GW := GW_in (inT_5 (List.mem_of_getElem? (i := 197) rfl)) rfl
theorem gw891 : Cond.instanceMethod yX6_wrongSheet ∈ GW := GW_in (inT_5 (List.mem_of_getElem? (i := 196) rfl)) rfl
theorem gw892 : Cond.selects RX6 yX6_wrongSheet yX6_wrongSheet ∈ GW := GW_in (inP (List.mem_of_getElem? (i := 65) rfl)) rfl
theorem gw893 : Cond.code yX6_write cX6_write 8 (some .long) ∈ GW := GW_in (inT_5 (List.mem_of_getElem? (i := 193) rfl)) rfl
theorem gw894 : Cond.instanceMethod yX6_write ∈ GW := GW_in (inT_5 (List.mem_of_getElem? (i := 191) rfl)) rfl
theorem gw895 : Cond.selects RX6 yX6_write yX6_write ∈ GW := GW_in (inT_5 (List.mem_of_getElem? (i := 192) rfl)) rfl
theorem gw896 : Cond.code yX6_copy cX6_copy 7 (some .int) ∈ GW := GW_in (inT_5 (List.mem_of_getElem? (i := 205) rfl)) rfl
theorem gw897 : Cond.instanceMethod yX6_copy ∈ GW := GW_in (inT_5 (List.mem_of_getElem? (i := 203) rfl)) rfl
theorem gw898 : Cond.selects RX6 yX6_copy yX6_copy ∈ GW := GW_in (inT_5 (List.mem_of_getElem? (i := 204) rfl)) rfl
theorem gw899 : Cond.code yX6_lays cX6_lays 6 (some .int) ∈ GW := GW_in (inT_5 (List.mem_of_getElem? (i := 209) rfl)) rfl
theorem gw900 : Cond.instanceMethod yX6_lays ∈ GW := GW_in (inT_5 (List.mem_of_getElem? (i := 207) rfl)) rfl
theorem gw901 : Cond.selects RX6 yX6_lays yX6_lays ∈ GW := GW_in (inT_5 (List.mem_of_getElem? (i := 208) rfl)) rfl
theorem gw902 : Cond.code yX6_wrongBook cX6_wrongBook 4 (some .int) ∈ GW := GW_in (inT_5 (List.mem_of_getElem? (i := 217) rfl)) rfl
theorem gw903 : Cond.instanceMethod yX6_wrongBook ∈ GW := GW_in (inT_5 (List.mem_of_getElem? (i := 216) rfl)) rfl
theorem gw904 : Cond.selects RX6 yX6_wrongBook yX6_wrongBook ∈ GW := GW_in (inP (List.mem_of_getElem? (i := 66) rfl)) rfl
theorem gw905 : Cond.code yX6_book cX6_book 5 (some .int) ∈ GW := GW_in (inT_5 (List.mem_of_getElem? (i := 213) rfl)) rfl
theorem gw906 : Cond.instanceMethod yX6_book ∈ GW := GW_in (inT_5 (List.mem_of_getElem? (i := 211) rfl)) rfl
theorem gw907 : Cond.selects RX6 yX6_book yX6_book ∈ GW := GW_in (inT_5 (List.mem_of_getElem? (i := 212) rfl)) rfl
theorem gw908 : Cond.code yX6_isBook cX6_isBook 4 (some .boolean) ∈ GW := GW_in (inT_5 (List.mem_of_getElem? (i := 225) rfl)) rfl
theorem gw909 : Cond.instanceMethod yX6_isBook ∈ GW := GW_in (inT_5 (List.mem_of_getElem? (i := 224) rfl)) rfl
theorem gw910 : Cond.selects RX6 yX6_isBook yX6_isBook ∈ GW := GW_in (inP (List.mem_of_getElem? (i := 67) rfl)) rfl
theorem gw911 : Cond.code yX6_read cX6_read 7 (some .int) ∈ GW := GW_in (inT_5 (List.mem_of_getElem? (i := 221) rfl)) rfl
theorem gw912 : Cond.instanceMethod yX6_read ∈ GW := GW_in (inT_5 (List.mem_of_getElem? (i := 219) rfl)) rfl
theorem gw913 : Cond.selects RX6 yX6_read yX6_read ∈ GW := GW_in (inT_5 (List.mem_of_getElem? (i := 220) rfl)) rfl
theorem gw914 : Cond.code yX6_image cX6_image 2 (some .int) ∈ GW := GW_in (inT_5 (List.mem_of_getElem? (i := 229) rfl)) rfl
theorem gw915 : Cond.instanceMethod yX6_image ∈ GW := GW_in (inT_5 (List.mem_of_getElem? (i := 227) rfl)) rfl
theorem gw916 : Cond.selects RX6 yX6_image yX6_image ∈ GW := GW_in (inT_5 (List.mem_of_getElem? (i := 228) rfl)) rfl
theorem gw917 : Cond.code yX6_undo cX6_undo 2 (some .int) ∈ GW := GW_in (inT_5 (List.mem_of_getElem? (i := 233) rfl)) rfl
theorem gw918 : Cond.instanceMethod yX6_undo ∈ GW := GW_in (inT_5 (List.mem_of_getElem? (i := 231) rfl)) rfl
theorem gw919 : Cond.selects RX6 yX6_undo yX6_undo ∈ GW := GW_in (inT_5 (List.mem_of_getElem? (i := 232) rfl)) rfl
theorem gw920 : Cond.code yX6_tear cX6_tear 2 (some .int) ∈ GW := GW_in (inT_5 (List.mem_of_getElem? (i := 237) rfl)) rfl
theorem gw921 : Cond.instanceMethod yX6_tear ∈ GW := GW_in (inT_5 (List.mem_of_getElem? (i := 235) rfl)) rfl
theorem gw922 : Cond.selects RX6 yX6_tear yX6_tear ∈ GW := GW_in (inT_5 (List.mem_of_getElem? (i := 236) rfl)) rfl
theorem gw923 : Cond.code yX6_count cX6_count 2 (some .int) ∈ GW := GW_in (inT_6 (List.mem_of_getElem? (i := 1) rfl)) rfl
theorem gw924 : Cond.instanceMethod yX6_count ∈ GW := GW_in (inT_5 (List.mem_of_getElem? (i := 239) rfl)) rfl
theorem gw925 : Cond.selects RX6 yX6_count yX6_count ∈ GW := GW_in (inT_6 (List.mem_of_getElem? (i := 0) rfl)) rfl
theorem gw926 : Cond.code yX6_status cX6_status 4 (some .int) ∈ GW := GW_in (inT_6 (List.mem_of_getElem? (i := 5) rfl)) rfl
theorem gw927 : Cond.instanceMethod yX6_status ∈ GW := GW_in (inT_6 (List.mem_of_getElem? (i := 3) rfl)) rfl
theorem gw928 : Cond.selects RX6 yX6_status yX6_status ∈ GW := GW_in (inT_6 (List.mem_of_getElem? (i := 4) rfl)) rfl
theorem layX0_0 : u_lay RX0 TX0 0 ∈ GW := GW_in (inT_1 (List.mem_of_getElem? (i := 39) rfl)) rfl
theorem inGX0 : ∀ w ∈ u_ws RX0 TX0 1, w ∈ GW := by
  intro w hw
  obtain ⟨k, hk, rfl⟩ := List.mem_map.mp hw
  have hk := List.mem_range.mp hk
  rcases (show k = 0 by omega) with rfl
  exact layX0_0
theorem clX0 : clOk 0 RX0 TX0 1 tyX0 := ⟨rfl, inGX0, by decide, tyX0_ok, nmX0⟩
theorem layX1_0 : u_lay RX1 TX1 0 ∈ GW := GW_in (inT_1 (List.mem_of_getElem? (i := 56) rfl)) rfl
theorem layX1_1 : u_lay RX1 TX1 1 ∈ GW := GW_in (inT_1 (List.mem_of_getElem? (i := 58) rfl)) rfl
theorem layX1_2 : u_lay RX1 TX1 2 ∈ GW := GW_in (inT_1 (List.mem_of_getElem? (i := 60) rfl)) rfl
theorem inGX1 : ∀ w ∈ u_ws RX1 TX1 3, w ∈ GW := by
  intro w hw
  obtain ⟨k, hk, rfl⟩ := List.mem_map.mp hw
  have hk := List.mem_range.mp hk
  rcases (show k = 0 ∨ k = 1 ∨ k = 2 by omega) with rfl | rfl | rfl
  · exact layX1_0
  · exact layX1_1
  · exact layX1_2
theorem clX1 : clOk 1 RX1 TX1 3 tyX1 := ⟨rfl, inGX1, by decide, tyX1_ok, nmX1⟩
theorem layX2_0 : u_lay RX2 TX2 0 ∈ GW := GW_in (inT_1 (List.mem_of_getElem? (i := 152) rfl)) rfl
theorem layX2_1 : u_lay RX2 TX2 1 ∈ GW := GW_in (inT_1 (List.mem_of_getElem? (i := 154) rfl)) rfl
theorem layX2_2 : u_lay RX2 TX2 2 ∈ GW := GW_in (inT_1 (List.mem_of_getElem? (i := 156) rfl)) rfl
theorem inGX2 : ∀ w ∈ u_ws RX2 TX2 3, w ∈ GW := by
  intro w hw
  obtain ⟨k, hk, rfl⟩ := List.mem_map.mp hw
  have hk := List.mem_range.mp hk
  rcases (show k = 0 ∨ k = 1 ∨ k = 2 by omega) with rfl | rfl | rfl
  · exact layX2_0
  · exact layX2_1
  · exact layX2_2
theorem clX2 : clOk 2 RX2 TX2 3 tyX2 := ⟨rfl, inGX2, by decide, tyX2_ok, nmX2⟩
theorem layX3_0 : u_lay RX3 TX3 0 ∈ GW := GW_in (inT_1 (List.mem_of_getElem? (i := 83) rfl)) rfl
theorem layX3_1 : u_lay RX3 TX3 1 ∈ GW := GW_in (inT_1 (List.mem_of_getElem? (i := 85) rfl)) rfl
theorem layX3_2 : u_lay RX3 TX3 2 ∈ GW := GW_in (inT_1 (List.mem_of_getElem? (i := 87) rfl)) rfl
theorem layX3_3 : u_lay RX3 TX3 3 ∈ GW := GW_in (inT_1 (List.mem_of_getElem? (i := 89) rfl)) rfl
theorem layX3_4 : u_lay RX3 TX3 4 ∈ GW := GW_in (inT_1 (List.mem_of_getElem? (i := 91) rfl)) rfl
theorem layX3_5 : u_lay RX3 TX3 5 ∈ GW := GW_in (inT_1 (List.mem_of_getElem? (i := 93) rfl)) rfl
theorem layX3_6 : u_lay RX3 TX3 6 ∈ GW := GW_in (inT_1 (List.mem_of_getElem? (i := 95) rfl)) rfl
theorem layX3_7 : u_lay RX3 TX3 7 ∈ GW := GW_in (inT_1 (List.mem_of_getElem? (i := 97) rfl)) rfl
theorem layX3_8 : u_lay RX3 TX3 8 ∈ GW := GW_in (inT_1 (List.mem_of_getElem? (i := 99) rfl)) rfl
theorem inGX3 : ∀ w ∈ u_ws RX3 TX3 9, w ∈ GW := by
  intro w hw
  obtain ⟨k, hk, rfl⟩ := List.mem_map.mp hw
  have hk := List.mem_range.mp hk
  rcases (show k = 0 ∨ k = 1 ∨ k = 2 ∨ k = 3 ∨ k = 4 ∨ k = 5 ∨ k = 6 ∨ k = 7 ∨ k = 8 by omega) with rfl | rfl | rfl | rfl | rfl | rfl | rfl | rfl | rfl
  · exact layX3_0
  · exact layX3_1
  · exact layX3_2
  · exact layX3_3
  · exact layX3_4
  · exact layX3_5
  · exact layX3_6
  · exact layX3_7
  · exact layX3_8
theorem clX3 : clOk 3 RX3 TX3 9 tyX3 := ⟨rfl, inGX3, by decide, tyX3_ok, nmX3⟩
theorem layX4_0 : u_lay RX4 TX4 0 ∈ GW := GW_in (inT_1 (List.mem_of_getElem? (i := 119) rfl)) rfl
theorem layX4_1 : u_lay RX4 TX4 1 ∈ GW := GW_in (inT_1 (List.mem_of_getElem? (i := 121) rfl)) rfl
theorem layX4_2 : u_lay RX4 TX4 2 ∈ GW := GW_in (inT_1 (List.mem_of_getElem? (i := 123) rfl)) rfl
theorem layX4_3 : u_lay RX4 TX4 3 ∈ GW := GW_in (inT_1 (List.mem_of_getElem? (i := 125) rfl)) rfl
theorem layX4_4 : u_lay RX4 TX4 4 ∈ GW := GW_in (inT_1 (List.mem_of_getElem? (i := 127) rfl)) rfl
theorem layX4_5 : u_lay RX4 TX4 5 ∈ GW := GW_in (inT_1 (List.mem_of_getElem? (i := 129) rfl)) rfl
theorem layX4_6 : u_lay RX4 TX4 6 ∈ GW := GW_in (inT_1 (List.mem_of_getElem? (i := 131) rfl)) rfl
theorem inGX4 : ∀ w ∈ u_ws RX4 TX4 7, w ∈ GW := by
  intro w hw
  obtain ⟨k, hk, rfl⟩ := List.mem_map.mp hw
  have hk := List.mem_range.mp hk
  rcases (show k = 0 ∨ k = 1 ∨ k = 2 ∨ k = 3 ∨ k = 4 ∨ k = 5 ∨ k = 6 by omega) with rfl | rfl | rfl | rfl | rfl | rfl | rfl
  · exact layX4_0
  · exact layX4_1
  · exact layX4_2
  · exact layX4_3
  · exact layX4_4
  · exact layX4_5
  · exact layX4_6
theorem clX4 : clOk 4 RX4 TX4 7 tyX4 := ⟨rfl, inGX4, by decide, tyX4_ok, nmX4⟩
theorem layX5_0 : u_lay RX5 TX5 0 ∈ GW := GW_in (inT_1 (List.mem_of_getElem? (i := 169) rfl)) rfl
theorem layX5_1 : u_lay RX5 TX5 1 ∈ GW := GW_in (inT_1 (List.mem_of_getElem? (i := 171) rfl)) rfl
theorem layX5_2 : u_lay RX5 TX5 2 ∈ GW := GW_in (inT_1 (List.mem_of_getElem? (i := 173) rfl)) rfl
theorem layX5_3 : u_lay RX5 TX5 3 ∈ GW := GW_in (inT_1 (List.mem_of_getElem? (i := 175) rfl)) rfl
theorem layX5_4 : u_lay RX5 TX5 4 ∈ GW := GW_in (inT_1 (List.mem_of_getElem? (i := 177) rfl)) rfl
theorem layX5_5 : u_lay RX5 TX5 5 ∈ GW := GW_in (inT_1 (List.mem_of_getElem? (i := 179) rfl)) rfl
theorem layX5_6 : u_lay RX5 TX5 6 ∈ GW := GW_in (inT_1 (List.mem_of_getElem? (i := 181) rfl)) rfl
theorem layX5_7 : u_lay RX5 TX5 7 ∈ GW := GW_in (inT_1 (List.mem_of_getElem? (i := 183) rfl)) rfl
theorem layX5_8 : u_lay RX5 TX5 8 ∈ GW := GW_in (inT_1 (List.mem_of_getElem? (i := 185) rfl)) rfl
theorem inGX5 : ∀ w ∈ u_ws RX5 TX5 9, w ∈ GW := by
  intro w hw
  obtain ⟨k, hk, rfl⟩ := List.mem_map.mp hw
  have hk := List.mem_range.mp hk
  rcases (show k = 0 ∨ k = 1 ∨ k = 2 ∨ k = 3 ∨ k = 4 ∨ k = 5 ∨ k = 6 ∨ k = 7 ∨ k = 8 by omega) with rfl | rfl | rfl | rfl | rfl | rfl | rfl | rfl | rfl
  · exact layX5_0
  · exact layX5_1
  · exact layX5_2
  · exact layX5_3
  · exact layX5_4
  · exact layX5_5
  · exact layX5_6
  · exact layX5_7
  · exact layX5_8
theorem clX5 : clOk 5 RX5 TX5 9 tyX5 := ⟨rfl, inGX5, by decide, tyX5_ok, nmX5⟩
theorem layX6_0 : u_lay RX6 TX6 0 ∈ GW := GW_in (inT_4 (List.mem_of_getElem? (i := 49) rfl)) rfl
theorem layX6_1 : u_lay RX6 TX6 1 ∈ GW := GW_in (inT_4 (List.mem_of_getElem? (i := 51) rfl)) rfl
theorem layX6_2 : u_lay RX6 TX6 2 ∈ GW := GW_in (inT_4 (List.mem_of_getElem? (i := 53) rfl)) rfl
theorem layX6_3 : u_lay RX6 TX6 3 ∈ GW := GW_in (inT_4 (List.mem_of_getElem? (i := 55) rfl)) rfl
theorem layX6_4 : u_lay RX6 TX6 4 ∈ GW := GW_in (inT_4 (List.mem_of_getElem? (i := 57) rfl)) rfl
theorem layX6_5 : u_lay RX6 TX6 5 ∈ GW := GW_in (inT_4 (List.mem_of_getElem? (i := 59) rfl)) rfl
theorem layX6_6 : u_lay RX6 TX6 6 ∈ GW := GW_in (inT_4 (List.mem_of_getElem? (i := 61) rfl)) rfl
theorem layX6_7 : u_lay RX6 TX6 7 ∈ GW := GW_in (inT_4 (List.mem_of_getElem? (i := 63) rfl)) rfl
theorem layX6_8 : u_lay RX6 TX6 8 ∈ GW := GW_in (inT_4 (List.mem_of_getElem? (i := 65) rfl)) rfl
theorem layX6_9 : u_lay RX6 TX6 9 ∈ GW := GW_in (inT_4 (List.mem_of_getElem? (i := 67) rfl)) rfl
theorem layX6_10 : u_lay RX6 TX6 10 ∈ GW := GW_in (inT_4 (List.mem_of_getElem? (i := 69) rfl)) rfl
theorem layX6_11 : u_lay RX6 TX6 11 ∈ GW := GW_in (inT_4 (List.mem_of_getElem? (i := 71) rfl)) rfl
theorem layX6_12 : u_lay RX6 TX6 12 ∈ GW := GW_in (inT_4 (List.mem_of_getElem? (i := 73) rfl)) rfl
theorem layX6_13 : u_lay RX6 TX6 13 ∈ GW := GW_in (inT_4 (List.mem_of_getElem? (i := 75) rfl)) rfl
theorem layX6_14 : u_lay RX6 TX6 14 ∈ GW := GW_in (inT_4 (List.mem_of_getElem? (i := 77) rfl)) rfl
theorem layX6_15 : u_lay RX6 TX6 15 ∈ GW := GW_in (inT_4 (List.mem_of_getElem? (i := 79) rfl)) rfl
theorem inGX6 : ∀ w ∈ u_ws RX6 TX6 16, w ∈ GW := by
  intro w hw
  obtain ⟨k, hk, rfl⟩ := List.mem_map.mp hw
  have hk := List.mem_range.mp hk
  rcases (show k = 0 ∨ k = 1 ∨ k = 2 ∨ k = 3 ∨ k = 4 ∨ k = 5 ∨ k = 6 ∨ k = 7 ∨ k = 8 ∨ k = 9 ∨ k = 10 ∨ k = 11 ∨ k = 12 ∨ k = 13 ∨ k = 14 ∨ k = 15 by omega) with rfl | rfl | rfl | rfl | rfl | rfl | rfl | rfl | rfl | rfl | rfl | rfl | rfl | rfl | rfl | rfl
  · exact layX6_0
  · exact layX6_1
  · exact layX6_2
  · exact layX6_3
  · exact layX6_4
  · exact layX6_5
  · exact layX6_6
  · exact layX6_7
  · exact layX6_8
  · exact layX6_9
  · exact layX6_10
  · exact layX6_11
  · exact layX6_12
  · exact layX6_13
  · exact layX6_14
  · exact layX6_15
theorem clX6 : clOk 6 RX6 TX6 16 tyX6 := ⟨rfl, inGX6, by decide, tyX6_ok, nmX6⟩
theorem kt_0 : (kT 0 == 3) = true := by decide +kernel
theorem kr_0 : kR 0 = 0 ∧ kO 0 = 0 := by decide +kernel
theorem kl_0 : kL 0 = 0 := by decide +kernel
theorem kt_23 : (kT 23 == 3) = true := by decide +kernel
theorem kr_23 : kR 23 = 1 ∧ kO 23 = 0 := by decide +kernel
theorem kl_23 : kL 23 = 0 := by decide +kernel
theorem kt_46 : (kT 46 == 3) = true := by decide +kernel
theorem kr_46 : kR 46 = 2 ∧ kO 46 = 0 := by decide +kernel
theorem kl_46 : kL 46 = 0 := by decide +kernel
theorem kt_69 : (kT 69 == 5) = true := by decide +kernel
theorem kr_69 : kR 69 = 9 ∧ kO 69 = 0 := by decide +kernel
theorem kl_69 : kL 69 = 0 := by decide +kernel
theorem kt_70 : (kT 70 == 4) = true := by decide +kernel
theorem kr_70 : kR 70 = 7 ∧ kO 70 = 0 := by decide +kernel
theorem kl_70 : kL 70 = 0 := by decide +kernel
theorem kt_71 : (kT 71 == 12) = true := by decide +kernel
theorem kr_71 : kR 71 = 8 ∧ kO 71 = 0 := by decide +kernel
theorem kl_71 : kL 71 = 120 := by decide +kernel
theorem kt_72 : (kT 72 == 15) = true := by decide +kernel
theorem kr_72 : kR 72 = 0 ∧ kO 72 = 0 := by decide +kernel
theorem kl_72 : kL 72 = 4 := by decide +kernel
theorem kt_81 : (kT 81 == 10) = true := by decide +kernel
theorem kr_81 : kR 81 = 3 ∧ kO 81 = 0 := by decide +kernel
theorem kl_81 : kL 81 = 7 := by decide +kernel
theorem kt_82 : (kT 82 == 10) = true := by decide +kernel
theorem kr_82 : kR 82 = 4 ∧ kO 82 = 0 := by decide +kernel
theorem kl_82 : kL 82 = 400 := by decide +kernel
theorem kt_83 : (kT 83 == 1) = true := by decide +kernel
theorem kr_83 : kR 83 = 5 ∧ kO 83 = 0 := by decide +kernel
theorem kl_83 : kL 83 = 0 := by decide +kernel
theorem kt_84 : (kT 84 == 0) = true := by decide +kernel
theorem kr_84 : kR 84 = 6 ∧ kO 84 = 0 := by decide +kernel
theorem kl_84 : kL 84 = 0 := by decide +kernel
theorem kt_86 : (kT 86 == 6) = true := by decide +kernel
theorem kr_86 : kR 86 = 25 ∧ kO 86 = 0 := by decide +kernel
theorem kl_86 : kL 86 = 0 := by decide +kernel
theorem kt_87 : (kT 87 == 10) = true := by decide +kernel
theorem kr_87 : kR 87 = 20 ∧ kO 87 = 0 := by decide +kernel
theorem kl_87 : kL 87 = 61 := by decide +kernel
theorem kt_88 : (kT 88 == 10) = true := by decide +kernel
theorem kr_88 : kR 88 = 21 ∧ kO 88 = 0 := by decide +kernel
theorem kl_88 : kL 88 = 61 := by decide +kernel
theorem kt_89 : (kT 89 == 10) = true := by decide +kernel
theorem kr_89 : kR 89 = 22 ∧ kO 89 = 0 := by decide +kernel
theorem kl_89 : kL 89 = 61 := by decide +kernel
theorem kt_90 : (kT 90 == 10) = true := by decide +kernel
theorem kr_90 : kR 90 = 23 ∧ kO 90 = 0 := by decide +kernel
theorem kl_90 : kL 90 = 61 := by decide +kernel
theorem kt_91 : (kT 91 == 10) = true := by decide +kernel
theorem kr_91 : kR 91 = 24 ∧ kO 91 = 0 := by decide +kernel
theorem kl_91 : kL 91 = 7 := by decide +kernel
theorem kt_92 : (kT 92 == 10) = true := by decide +kernel
theorem kr_92 : kR 92 = 26 ∧ kO 92 = 0 := by decide +kernel
theorem kl_92 : kL 92 = 120 := by decide +kernel
theorem kt_93 : (kT 93 == 10) = true := by decide +kernel
theorem kr_93 : kR 93 = 27 ∧ kO 93 = 0 := by decide +kernel
theorem kl_93 : kL 93 = 4 := by decide +kernel
theorem kt_94 : (kT 94 == 10) = true := by decide +kernel
theorem kr_94 : kR 94 = 28 ∧ kO 94 = 0 := by decide +kernel
theorem kl_94 : kL 94 = 4 := by decide +kernel
theorem kt_95 : (kT 95 == 11) = true := by decide +kernel
theorem kr_95 : kR 95 = 29 ∧ kO 95 = 0 := by decide +kernel
theorem kl_95 : kL 95 = 160 := by decide +kernel
theorem kt_96 : (kT 96 == 11) = true := by decide +kernel
theorem kr_96 : kR 96 = 30 ∧ kO 96 = 0 := by decide +kernel
theorem kl_96 : kL 96 = 40 := by decide +kernel
abbrev mi_X0_isField : Mi := (cX0_isField, RX0, 1, some .boolean, { frames := 0, cells := 0, slots := 0, locals := 0 })
theorem mo_X0_isField : MOK yX0_isField mi_X0_isField 1 := ⟨gw325, gw326, ⟨by decide, by decide, by decide +kernel⟩, rfl, rfl⟩
abbrev mi_X0_allows : Mi := (cX0_allows, RX0, 2, some .boolean, { frames := 1, cells := 0, slots := 0, locals := 20 })
theorem mo_X0_allows : MOK yX0_allows mi_X0_allows 2 := ⟨gw327, gw326, ⟨by decide, by decide, by decide +kernel⟩, rfl, rfl⟩
abbrev mi_X0_least : Mi := (cX0_least, RX0, 1, some .int, { frames := 1, cells := 0, slots := 0, locals := 20 })
theorem mo_X0_least : MOK yX0_least mi_X0_least 1 := ⟨gw328, gw326, ⟨by decide, by decide, by decide +kernel⟩, rfl, rfl⟩
abbrev mi_X0_greatest : Mi := (cX0_greatest, RX0, 1, some .int, { frames := 1, cells := 0, slots := 0, locals := 20 })
theorem mo_X0_greatest : MOK yX0_greatest mi_X0_greatest 1 := ⟨gw329, gw326, ⟨by decide, by decide, by decide +kernel⟩, rfl, rfl⟩
abbrev mi_X0_startAs : Mi := (cX0_startAs, RX0, 2, none, { frames := 1, cells := 0, slots := 0, locals := 48 })
theorem mo_X0_startAs : MOK yX0_startAs mi_X0_startAs 1 := ⟨gw330, gw326, ⟨by decide, by decide, by decide +kernel⟩, rfl, rfl⟩
theorem mv_X0_startAs : MOV yX0_startAs mi_X0_startAs 1 RX0 := ⟨mo_X0_startAs, gw331, gw332⟩
abbrev mi_X0_become : Mi := (cX0_become, RX0, 2, none, { frames := 1, cells := 0, slots := 0, locals := 48 })
theorem mo_X0_become : MOK yX0_become mi_X0_become 1 := ⟨gw333, gw326, ⟨by decide, by decide, by decide +kernel⟩, rfl, rfl⟩
theorem mv_X0_become : MOV yX0_become mi_X0_become 1 RX0 := ⟨mo_X0_become, gw334, gw335⟩
abbrev mi_X0_value : Mi := (cX0_value, RX0, 2, some .int, { frames := 1, cells := 0, slots := 0, locals := 20 })
theorem mo_X0_value : MOK yX0_value mi_X0_value 1 := ⟨gw336, gw326, ⟨by decide, by decide, by decide +kernel⟩, rfl, rfl⟩
theorem mv_X0_value : MOV yX0_value mi_X0_value 1 RX0 := ⟨mo_X0_value, gw337, gw338⟩
abbrev mi_X0_change : Mi := (cX0_change, RX0, 4, some .int, { frames := 2, cells := 0, slots := 0, locals := 41 })
theorem mo_X0_change : MOK yX0_change mi_X0_change 2 := ⟨gw339, gw326, ⟨by decide, by decide, by decide +kernel⟩, rfl, rfl⟩
theorem mv_X0_change : MOV yX0_change mi_X0_change 2 RX0 := ⟨mo_X0_change, gw340, gw341⟩
abbrev mi_X0_isOfKind : Mi := (cX0_isOfKind, RX0, 3, some .boolean, { frames := 0, cells := 0, slots := 0, locals := 0 })
theorem mo_X0_isOfKind : MOK yX0_isOfKind mi_X0_isOfKind 1 := ⟨gw342, gw326, ⟨by decide, by decide, by decide +kernel⟩, rfl, rfl⟩
theorem mv_X0_isOfKind : MOV yX0_isOfKind mi_X0_isOfKind 1 RX0 := ⟨mo_X0_isOfKind, gw343, gw344⟩
abbrev mi_X0_length : Mi := (cX0_length, RX0, 1, some .int, { frames := 0, cells := 0, slots := 0, locals := 0 })
theorem mo_X0_length : MOK yX0_length mi_X0_length 0 := ⟨gw345, gw326, ⟨by decide, by decide, by decide +kernel⟩, rfl, rfl⟩
theorem mv_X0_length : MOV yX0_length mi_X0_length 0 RX0 := ⟨mo_X0_length, gw346, gw347⟩
abbrev mi_X0_runsAsNew : Mi := (cX0_runsAsNew, RX0, 2, some .int, { frames := 0, cells := 0, slots := 0, locals := 0 })
theorem mo_X0_runsAsNew : MOK yX0_runsAsNew mi_X0_runsAsNew 1 := ⟨gw348, gw326, ⟨by decide, by decide, by decide +kernel⟩, rfl, rfl⟩
theorem mv_X0_runsAsNew : MOV yX0_runsAsNew mi_X0_runsAsNew 1 RX0 := ⟨mo_X0_runsAsNew, gw349, gw350⟩
abbrev mi_X0_jugDaysUpTo : Mi := (cX0_jugDaysUpTo, RX0, 1, some .int, { frames := 0, cells := 0, slots := 0, locals := 0 })
theorem mo_X0_jugDaysUpTo : MOK yX0_jugDaysUpTo mi_X0_jugDaysUpTo 1 := ⟨gw351, gw326, ⟨by decide, by decide, by decide +kernel⟩, rfl, rfl⟩
abbrev mi_X0_runsAt : Mi := (cX0_runsAt, RX0, 3, some .int, { frames := 1, cells := 0, slots := 0, locals := 21 })
theorem mo_X0_runsAt : MOK yX0_runsAt mi_X0_runsAt 1 := ⟨gw352, gw326, ⟨by decide, by decide, by decide +kernel⟩, rfl, rfl⟩
theorem mv_X0_runsAt : MOV yX0_runsAt mi_X0_runsAt 1 RX0 := ⟨mo_X0_runsAt, gw353, gw354⟩
abbrev mi_X0_dateAt : Mi := (cX0_dateAt, RX0, 2, some .int, { frames := 2, cells := 0, slots := 0, locals := 43 })
theorem mo_X0_dateAt : MOK yX0_dateAt mi_X0_dateAt 1 := ⟨gw355, gw326, ⟨by decide, by decide, by decide +kernel⟩, rfl, rfl⟩
theorem mv_X0_dateAt : MOV yX0_dateAt mi_X0_dateAt 1 RX0 := ⟨mo_X0_dateAt, gw356, gw357⟩
abbrev mi_X0_monthAt : Mi := (cX0_monthAt, RX0, 2, some .int, { frames := 2, cells := 0, slots := 0, locals := 43 })
theorem mo_X0_monthAt : MOK yX0_monthAt mi_X0_monthAt 1 := ⟨gw358, gw326, ⟨by decide, by decide, by decide +kernel⟩, rfl, rfl⟩
theorem mv_X0_monthAt : MOV yX0_monthAt mi_X0_monthAt 1 RX0 := ⟨mo_X0_monthAt, gw359, gw360⟩
abbrev mi_X0_isHoly : Mi := (cX0_isHoly, RX0, 5, some .boolean, { frames := 2, cells := 0, slots := 0, locals := 43 })
theorem mo_X0_isHoly : MOK yX0_isHoly mi_X0_isHoly 1 := ⟨gw361, gw326, ⟨by decide, by decide, by decide +kernel⟩, rfl, rfl⟩
theorem mv_X0_isHoly : MOV yX0_isHoly mi_X0_isHoly 1 RX0 := ⟨mo_X0_isHoly, gw362, gw363⟩
abbrev mi_X1_startWith : Mi := (cX1_startWith, RX1, 3, none, { frames := 0, cells := 0, slots := 0, locals := 0 })
theorem mo_X1_startWith : MOK yX1_startWith mi_X1_startWith 2 := ⟨gw364, gw365, ⟨by decide, by decide, by decide +kernel⟩, rfl, rfl⟩
theorem mv_X1_startWith : MOV yX1_startWith mi_X1_startWith 2 RX1 := ⟨mo_X1_startWith, gw366, gw367⟩
abbrev mi_X1_become : Mi := (cX1_become, RX1, 2, none, { frames := 0, cells := 0, slots := 0, locals := 0 })
theorem mo_X1_become : MOK yX1_become mi_X1_become 1 := ⟨gw368, gw365, ⟨by decide, by decide, by decide +kernel⟩, rfl, rfl⟩
theorem mv_X1_become : MOV yX1_become mi_X1_become 1 RX1 := ⟨mo_X1_become, gw369, gw370⟩
abbrev mi_X1_takeWater : Mi := (cX1_takeWater, RX1, 3, none, { frames := 1, cells := 0, slots := 0, locals := 21 })
theorem mo_X1_takeWater : MOK yX1_takeWater mi_X1_takeWater 2 := ⟨gw371, gw365, ⟨by decide, by decide, by decide +kernel⟩, rfl, rfl⟩
theorem mv_X1_takeWater : MOV yX1_takeWater mi_X1_takeWater 2 RX1 := ⟨mo_X1_takeWater, gw372, gw373⟩
abbrev mi_X1_takeBath : Mi := (cX1_takeBath, RX1, 3, none, { frames := 2, cells := 0, slots := 0, locals := 43 })
theorem mo_X1_takeBath : MOK yX1_takeBath mi_X1_takeBath 2 := ⟨gw374, gw365, ⟨by decide, by decide, by decide +kernel⟩, rfl, rfl⟩
theorem mv_X1_takeBath : MOV yX1_takeBath mi_X1_takeBath 2 RX1 := ⟨mo_X1_takeBath, gw375, gw376⟩
abbrev mi_X5_isIn : Mi := (cX5_isIn, RX5, 2, some .boolean, { frames := 0, cells := 0, slots := 0, locals := 0 })
theorem mo_X5_isIn : MOK yX5_isIn mi_X5_isIn 2 := ⟨gw377, gw378, ⟨by decide, by decide, by decide +kernel⟩, rfl, rfl⟩
abbrev mi_X1_passDay : Mi := (cX1_passDay, RX1, 4, none, { frames := 3, cells := 0, slots := 0, locals := 65 })
theorem mo_X1_passDay : MOK yX1_passDay mi_X1_passDay 3 := ⟨gw379, gw365, ⟨by decide, by decide, by decide +kernel⟩, rfl, rfl⟩
theorem mv_X1_passDay : MOV yX1_passDay mi_X1_passDay 3 RX1 := ⟨mo_X1_passDay, gw380, gw381⟩
abbrev mi_X2_allows : Mi := (cX2_allows, RX2, 1, some .boolean, { frames := 0, cells := 0, slots := 0, locals := 0 })
theorem mo_X2_allows : MOK yX2_allows mi_X2_allows 1 := ⟨gw382, gw383, ⟨by decide, by decide, by decide +kernel⟩, rfl, rfl⟩
abbrev mi_X2_lay : Mi := (cX2_lay, RX2, 4, none, { frames := 1, cells := 0, slots := 0, locals := 21 })
theorem mo_X2_lay : MOK yX2_lay mi_X2_lay 2 := ⟨gw384, gw383, ⟨by decide, by decide, by decide +kernel⟩, rfl, rfl⟩
theorem mv_X2_lay : MOV yX2_lay mi_X2_lay 2 RX2 := ⟨mo_X2_lay, gw385, gw386⟩
abbrev mi_X2_isMissing : Mi := (cX2_isMissing, RX2, 1, some .boolean, { frames := 0, cells := 0, slots := 0, locals := 0 })
theorem mo_X2_isMissing : MOK yX2_isMissing mi_X2_isMissing 0 := ⟨gw387, gw383, ⟨by decide, by decide, by decide +kernel⟩, rfl, rfl⟩
theorem mv_X2_isMissing : MOV yX2_isMissing mi_X2_isMissing 0 RX2 := ⟨mo_X2_isMissing, gw388, gw389⟩
abbrev mi_X2_hasRange : Mi := (cX2_hasRange, RX2, 3, some .boolean, { frames := 0, cells := 0, slots := 0, locals := 0 })
theorem mo_X2_hasRange : MOK yX2_hasRange mi_X2_hasRange 2 := ⟨gw390, gw383, ⟨by decide, by decide, by decide +kernel⟩, rfl, rfl⟩
theorem mv_X2_hasRange : MOV yX2_hasRange mi_X2_hasRange 2 RX2 := ⟨mo_X2_hasRange, gw391, gw392⟩
abbrev mi_X2_numberAt : Mi := (cX2_numberAt, RX2, 2, some .long, { frames := 0, cells := 0, slots := 0, locals := 0 })
theorem mo_X2_numberAt : MOK yX2_numberAt mi_X2_numberAt 1 := ⟨gw393, gw383, ⟨by decide, by decide, by decide +kernel⟩, rfl, rfl⟩
theorem mv_X2_numberAt : MOV yX2_numberAt mi_X2_numberAt 1 RX2 := ⟨mo_X2_numberAt, gw394, gw395⟩
abbrev mi_X2_lowest : Mi := (cX2_lowest, RX2, 3, some .long, { frames := 0, cells := 0, slots := 0, locals := 0 })
theorem mo_X2_lowest : MOK yX2_lowest mi_X2_lowest 1 := ⟨gw396, gw383, ⟨by decide, by decide, by decide +kernel⟩, rfl, rfl⟩
theorem mv_X2_lowest : MOV yX2_lowest mi_X2_lowest 1 RX2 := ⟨mo_X2_lowest, gw397, gw398⟩
abbrev mi_X2_put : Mi := (cX2_put, RX2, 4, none, { frames := 1, cells := 0, slots := 0, locals := 22 })
theorem mo_X2_put : MOK yX2_put mi_X2_put 2 := ⟨gw399, gw383, ⟨by decide, by decide, by decide +kernel⟩, rfl, rfl⟩
theorem mv_X2_put : MOV yX2_put mi_X2_put 2 RX2 := ⟨mo_X2_put, gw400, gw401⟩
abbrev mi_X3_become : Mi := (cX3_become, RX3, 3, none, { frames := 2, cells := 0, slots := 0, locals := 69 })
theorem mo_X3_become : MOK yX3_become mi_X3_become 1 := ⟨gw402, gw403, ⟨by decide, by decide, by decide +kernel⟩, rfl, rfl⟩
theorem mv_X3_become : MOV yX3_become mi_X3_become 1 RX3 := ⟨mo_X3_become, gw404, gw405⟩
abbrev mi_X3_calendarAt : Mi := (cX3_calendarAt, RX3, 3, some (.object "EvenSpring$Calendar"), { frames := 0, cells := 0, slots := 0, locals := 0 })
theorem mo_X3_calendarAt : MOK yX3_calendarAt mi_X3_calendarAt 1 := ⟨gw406, gw403, ⟨by decide, by decide, by decide +kernel⟩, rfl, rfl⟩
theorem mv_X3_calendarAt : MOV yX3_calendarAt mi_X3_calendarAt 1 RX3 := ⟨mo_X3_calendarAt, gw407, gw408⟩
abbrev mi_X3_pilgrimAt : Mi := (cX3_pilgrimAt, RX3, 3, some (.object "EvenSpring$Pilgrim"), { frames := 0, cells := 0, slots := 0, locals := 0 })
theorem mo_X3_pilgrimAt : MOK yX3_pilgrimAt mi_X3_pilgrimAt 1 := ⟨gw409, gw403, ⟨by decide, by decide, by decide +kernel⟩, rfl, rfl⟩
theorem mv_X3_pilgrimAt : MOV yX3_pilgrimAt mi_X3_pilgrimAt 1 RX3 := ⟨mo_X3_pilgrimAt, gw410, gw411⟩
abbrev mi_X3_hasBoth : Mi := (cX3_hasBoth, RX3, 3, some .boolean, { frames := 1, cells := 0, slots := 0, locals := 22 })
theorem mo_X3_hasBoth : MOK yX3_hasBoth mi_X3_hasBoth 2 := ⟨gw412, gw403, ⟨by decide, by decide, by decide +kernel⟩, rfl, rfl⟩
theorem mv_X3_hasBoth : MOV yX3_hasBoth mi_X3_hasBoth 2 RX3 := ⟨mo_X3_hasBoth, gw413, gw414⟩
abbrev mi_X3_canTrust : Mi := (cX3_canTrust, RX3, 2, some .boolean, { frames := 1, cells := 0, slots := 0, locals := 22 })
theorem mo_X3_canTrust : MOK yX3_canTrust mi_X3_canTrust 1 := ⟨gw415, gw403, ⟨by decide, by decide, by decide +kernel⟩, rfl, rfl⟩
theorem mv_X3_canTrust : MOV yX3_canTrust mi_X3_canTrust 1 RX3 := ⟨mo_X3_canTrust, gw416, gw417⟩
abbrev mi_X3_addCalendar : Mi := (cX3_addCalendar, RX3, 2, none, { frames := 2, cells := 0, slots := 0, locals := 69 })
theorem mo_X3_addCalendar : MOK yX3_addCalendar mi_X3_addCalendar 1 := ⟨gw418, gw403, ⟨by decide, by decide, by decide +kernel⟩, rfl, rfl⟩
theorem mv_X3_addCalendar : MOV yX3_addCalendar mi_X3_addCalendar 1 RX3 := ⟨mo_X3_addCalendar, gw419, gw420⟩
abbrev mi_X3_addPilgrim : Mi := (cX3_addPilgrim, RX3, 3, none, { frames := 1, cells := 0, slots := 0, locals := 22 })
theorem mo_X3_addPilgrim : MOK yX3_addPilgrim mi_X3_addPilgrim 2 := ⟨gw421, gw403, ⟨by decide, by decide, by decide +kernel⟩, rfl, rfl⟩
theorem mv_X3_addPilgrim : MOV yX3_addPilgrim mi_X3_addPilgrim 2 RX3 := ⟨mo_X3_addPilgrim, gw422, gw423⟩
abbrev mi_X3_isHolyBy : Mi := (cX3_isHolyBy, RX3, 4, some .boolean, { frames := 3, cells := 0, slots := 0, locals := 67 })
theorem mo_X3_isHolyBy : MOK yX3_isHolyBy mi_X3_isHolyBy 2 := ⟨gw424, gw403, ⟨by decide, by decide, by decide +kernel⟩, rfl, rfl⟩
theorem mv_X3_isHolyBy : MOV yX3_isHolyBy mi_X3_isHolyBy 2 RX3 := ⟨mo_X3_isHolyBy, gw425, gw426⟩
abbrev mi_X3_holySet : Mi := (cX3_holySet, RX3, 4, some .int, { frames := 3, cells := 0, slots := 0, locals := 67 })
theorem mo_X3_holySet : MOK yX3_holySet mi_X3_holySet 1 := ⟨gw427, gw403, ⟨by decide, by decide, by decide +kernel⟩, rfl, rfl⟩
theorem mv_X3_holySet : MOV yX3_holySet mi_X3_holySet 1 RX3 := ⟨mo_X3_holySet, gw428, gw429⟩
abbrev mi_X3_takeJug : Mi := (cX3_takeJug, RX3, 2, some .boolean, { frames := 0, cells := 0, slots := 0, locals := 0 })
theorem mo_X3_takeJug : MOK yX3_takeJug mi_X3_takeJug 1 := ⟨gw430, gw403, ⟨by decide, by decide, by decide +kernel⟩, rfl, rfl⟩
theorem mv_X3_takeJug : MOV yX3_takeJug mi_X3_takeJug 1 RX3 := ⟨mo_X3_takeJug, gw431, gw432⟩
abbrev mi_X3_drawJug : Mi := (cX3_drawJug, RX3, 2, none, { frames := 1, cells := 0, slots := 0, locals := 21 })
theorem mo_X3_drawJug : MOK yX3_drawJug mi_X3_drawJug 1 := ⟨gw433, gw403, ⟨by decide, by decide, by decide +kernel⟩, rfl, rfl⟩
theorem mv_X3_drawJug : MOV yX3_drawJug mi_X3_drawJug 1 RX3 := ⟨mo_X3_drawJug, gw434, gw435⟩
abbrev mi_X3_passDay : Mi := (cX3_passDay, RX3, 3, none, { frames := 4, cells := 0, slots := 0, locals := 90 })
theorem mo_X3_passDay : MOK yX3_passDay mi_X3_passDay 0 := ⟨gw436, gw403, ⟨by decide, by decide, by decide +kernel⟩, rfl, rfl⟩
theorem mv_X3_passDay : MOV yX3_passDay mi_X3_passDay 0 RX3 := ⟨mo_X3_passDay, gw437, gw438⟩
abbrev mi_X3_wellSet : Mi := (cX3_wellSet, RX3, 3, some .int, { frames := 0, cells := 0, slots := 0, locals := 0 })
theorem mo_X3_wellSet : MOK yX3_wellSet mi_X3_wellSet 0 := ⟨gw439, gw403, ⟨by decide, by decide, by decide +kernel⟩, rfl, rfl⟩
theorem mv_X3_wellSet : MOV yX3_wellSet mi_X3_wellSet 0 RX3 := ⟨mo_X3_wellSet, gw440, gw441⟩
abbrev mi_X3_illOfAll : Mi := (cX3_illOfAll, RX3, 3, some .int, { frames := 0, cells := 0, slots := 0, locals := 0 })
theorem mo_X3_illOfAll : MOK yX3_illOfAll mi_X3_illOfAll 0 := ⟨gw442, gw403, ⟨by decide, by decide, by decide +kernel⟩, rfl, rfl⟩
theorem mv_X3_illOfAll : MOV yX3_illOfAll mi_X3_illOfAll 0 RX3 := ⟨mo_X3_illOfAll, gw443, gw444⟩
abbrev mi_X3_bathedOfAll : Mi := (cX3_bathedOfAll, RX3, 3, some .int, { frames := 0, cells := 0, slots := 0, locals := 0 })
theorem mo_X3_bathedOfAll : MOK yX3_bathedOfAll mi_X3_bathedOfAll 0 := ⟨gw445, gw403, ⟨by decide, by decide, by decide +kernel⟩, rfl, rfl⟩
theorem mv_X3_bathedOfAll : MOV yX3_bathedOfAll mi_X3_bathedOfAll 0 RX3 := ⟨mo_X3_bathedOfAll, gw446, gw447⟩
abbrev mi_X4_add : Mi := (cX4_add, RX4, 2, none, { frames := 0, cells := 0, slots := 0, locals := 0 })
theorem mo_X4_add : MOK yX4_add mi_X4_add 1 := ⟨gw448, gw449, ⟨by decide, by decide, by decide +kernel⟩, rfl, rfl⟩
theorem mv_X4_add : MOV yX4_add mi_X4_add 1 RX4 := ⟨mo_X4_add, gw450, gw451⟩
abbrev mi_X4_byteAt : Mi := (cX4_byteAt, RX4, 2, some .int, { frames := 0, cells := 0, slots := 0, locals := 0 })
theorem mo_X4_byteAt : MOK yX4_byteAt mi_X4_byteAt 1 := ⟨gw452, gw449, ⟨by decide, by decide, by decide +kernel⟩, rfl, rfl⟩
theorem mv_X4_byteAt : MOV yX4_byteAt mi_X4_byteAt 1 RX4 := ⟨mo_X4_byteAt, gw453, gw454⟩
abbrev mi_X4_isLetter : Mi := (cX4_isLetter, RX4, 1, some .boolean, { frames := 0, cells := 0, slots := 0, locals := 0 })
theorem mo_X4_isLetter : MOK yX4_isLetter mi_X4_isLetter 1 := ⟨gw455, gw449, ⟨by decide, by decide, by decide +kernel⟩, rfl, rfl⟩
abbrev mi_X4_isDigit : Mi := (cX4_isDigit, RX4, 1, some .boolean, { frames := 0, cells := 0, slots := 0, locals := 0 })
theorem mo_X4_isDigit : MOK yX4_isDigit mi_X4_isDigit 1 := ⟨gw456, gw449, ⟨by decide, by decide, by decide +kernel⟩, rfl, rfl⟩
abbrev mi_X4_readToken : Mi := (cX4_readToken, RX4, 1, none, { frames := 1, cells := 0, slots := 0, locals := 21 })
theorem mo_X4_readToken : MOK yX4_readToken mi_X4_readToken 0 := ⟨gw457, gw449, ⟨by decide, by decide, by decide +kernel⟩, rfl, rfl⟩
theorem mv_X4_readToken : MOV yX4_readToken mi_X4_readToken 0 RX4 := ⟨mo_X4_readToken, gw458, gw459⟩
abbrev mi_J0_coder_7d493 : Mi := (cJ0_coder_7d493, RJ0, 1, some .byte, { frames := 0, cells := 0, slots := 0, locals := 0 })
theorem mo_J0_coder_7d493 : MOK yJ0_coder_7d493 mi_J0_coder_7d493 0 := ⟨gw460, gw461, ⟨by decide, by decide, by decide +kernel⟩, rfl, rfl⟩
theorem mv_J0_coder_7d493 : MOV yJ0_coder_7d493 mi_J0_coder_7d493 0 RJ0 := ⟨mo_J0_coder_7d493, gw462, gw463⟩
abbrev mi_J0_length_8abf5 : Mi := (cJ0_length_8abf5, RJ0, 1, some .int, { frames := 1, cells := 0, slots := 0, locals := 20 })
theorem mo_J0_length_8abf5 : MOK yJ0_length_8abf5 mi_J0_length_8abf5 0 := ⟨gw464, gw461, ⟨by decide, by decide, by decide +kernel⟩, rfl, rfl⟩
theorem mv_J0_length_8abf5 : MOV yJ0_length_8abf5 mi_J0_length_8abf5 0 RJ0 := ⟨mo_J0_length_8abf5, gw465, gw466⟩
abbrev mi_J0_isLatin1_aae02 : Mi := (cJ0_isLatin1_aae02, RJ0, 1, some .boolean, { frames := 0, cells := 0, slots := 0, locals := 0 })
theorem mo_J0_isLatin1_aae02 : MOK yJ0_isLatin1_aae02 mi_J0_isLatin1_aae02 0 := ⟨gw467, gw461, ⟨by decide, by decide, by decide +kernel⟩, rfl, rfl⟩
theorem mv_J0_isLatin1_aae02 : MOV yJ0_isLatin1_aae02 mi_J0_isLatin1_aae02 0 RJ0 := ⟨mo_J0_isLatin1_aae02, gw468, gw469⟩
abbrev mi_J3_checkIndex_8e157 : Mi := (cJ3_checkIndex_8e157, RJ3, 3, some .int, { frames := 0, cells := 0, slots := 0, locals := 0 })
theorem mo_J3_checkIndex_8e157 : MOK yJ3_checkIndex_8e157 mi_J3_checkIndex_8e157 3 := ⟨gw470, gw471, ⟨by decide, by decide, by decide +kernel⟩, rfl, rfl⟩
abbrev mi_J0_checkIndex_df160 : Mi := (cJ0_checkIndex_df160, RJ0, 2, none, { frames := 1, cells := 0, slots := 0, locals := 22 })
theorem mo_J0_checkIndex_df160 : MOK yJ0_checkIndex_df160 mi_J0_checkIndex_df160 2 := ⟨gw472, gw461, ⟨by decide, by decide, by decide +kernel⟩, rfl, rfl⟩
abbrev mi_J1_charAt_3b067 : Mi := (cJ1_charAt_3b067, RJ1, 2, some .char, { frames := 2, cells := 0, slots := 0, locals := 43 })
theorem mo_J1_charAt_3b067 : MOK yJ1_charAt_3b067 mi_J1_charAt_3b067 2 := ⟨gw473, gw474, ⟨by decide, by decide, by decide +kernel⟩, rfl, rfl⟩
abbrev mi_J0_charAt_5068e : Mi := (cJ0_charAt_5068e, RJ0, 2, some .char, { frames := 3, cells := 0, slots := 0, locals := 64 })
theorem mo_J0_charAt_5068e : MOK yJ0_charAt_5068e mi_J0_charAt_5068e 1 := ⟨gw475, gw461, ⟨by decide, by decide, by decide +kernel⟩, rfl, rfl⟩
theorem mv_J0_charAt_5068e : MOV yJ0_charAt_5068e mi_J0_charAt_5068e 1 RJ0 := ⟨mo_J0_charAt_5068e, gw476, gw477⟩
abbrev mi_X4_isWord : Mi := (cX4_isWord, RX4, 3, some .boolean, { frames := 4, cells := 0, slots := 0, locals := 85 })
theorem mo_X4_isWord : MOK yX4_isWord mi_X4_isWord 1 := ⟨gw478, gw449, ⟨by decide, by decide, by decide +kernel⟩, rfl, rfl⟩
theorem mv_X4_isWord : MOV yX4_isWord mi_X4_isWord 1 RX4 := ⟨mo_X4_isWord, gw479, gw480⟩
abbrev mi_X5_within : Mi := (cX5_within, RX5, 3, some .boolean, { frames := 0, cells := 0, slots := 0, locals := 0 })
theorem mo_X5_within : MOK yX5_within mi_X5_within 3 := ⟨gw481, gw378, ⟨by decide, by decide, by decide +kernel⟩, rfl, rfl⟩
abbrev mi_X4_isNumber : Mi := (cX4_isNumber, RX4, 3, some .boolean, { frames := 1, cells := 0, slots := 0, locals := 22 })
theorem mo_X4_isNumber : MOK yX4_isNumber mi_X4_isNumber 2 := ⟨gw482, gw449, ⟨by decide, by decide, by decide +kernel⟩, rfl, rfl⟩
theorem mv_X4_isNumber : MOV yX4_isNumber mi_X4_isNumber 2 RX4 := ⟨mo_X4_isNumber, gw483, gw484⟩
abbrev mi_X4_tellPilgrim : Mi := (cX4_tellPilgrim, RX4, 3, some .boolean, { frames := 5, cells := 0, slots := 0, locals := 107 })
theorem mo_X4_tellPilgrim : MOK yX4_tellPilgrim mi_X4_tellPilgrim 0 := ⟨gw485, gw449, ⟨by decide, by decide, by decide +kernel⟩, rfl, rfl⟩
theorem mv_X4_tellPilgrim : MOV yX4_tellPilgrim mi_X4_tellPilgrim 0 RX4 := ⟨mo_X4_tellPilgrim, gw486, gw487⟩
abbrev mi_X4_tellTruth : Mi := (cX4_tellTruth, RX4, 1, some .boolean, { frames := 2, cells := 0, slots := 0, locals := 44 })
theorem mo_X4_tellTruth : MOK yX4_tellTruth mi_X4_tellTruth 0 := ⟨gw488, gw449, ⟨by decide, by decide, by decide +kernel⟩, rfl, rfl⟩
theorem mv_X4_tellTruth : MOV yX4_tellTruth mi_X4_tellTruth 0 RX4 := ⟨mo_X4_tellTruth, gw489, gw490⟩
abbrev mi_X4_tellPower : Mi := (cX4_tellPower, RX4, 1, some .boolean, { frames := 2, cells := 0, slots := 0, locals := 44 })
theorem mo_X4_tellPower : MOK yX4_tellPower mi_X4_tellPower 0 := ⟨gw491, gw449, ⟨by decide, by decide, by decide +kernel⟩, rfl, rfl⟩
theorem mv_X4_tellPower : MOV yX4_tellPower mi_X4_tellPower 0 RX4 := ⟨mo_X4_tellPower, gw492, gw493⟩
abbrev mi_X4_nameOf : Mi := (cX4_nameOf, RX4, 1, some (.object "java/lang/String"), { frames := 0, cells := 0, slots := 0, locals := 0 })
theorem mo_X4_nameOf : MOK yX4_nameOf mi_X4_nameOf 1 := ⟨gw494, gw449, ⟨by decide, by decide, by decide +kernel⟩, rfl, rfl⟩
abbrev mi_X4_kindNamed : Mi := (cX4_kindNamed, RX4, 2, some .int, { frames := 5, cells := 0, slots := 0, locals := 107 })
theorem mo_X4_kindNamed : MOK yX4_kindNamed mi_X4_kindNamed 0 := ⟨gw495, gw449, ⟨by decide, by decide, by decide +kernel⟩, rfl, rfl⟩
theorem mv_X4_kindNamed : MOV yX4_kindNamed mi_X4_kindNamed 0 RX4 := ⟨mo_X4_kindNamed, gw496, gw497⟩
abbrev mi_X4_tellField : Mi := (cX4_tellField, RX4, 4, some .boolean, { frames := 5, cells := 0, slots := 0, locals := 107 })
theorem mo_X4_tellField : MOK yX4_tellField mi_X4_tellField 2 := ⟨gw498, gw449, ⟨by decide, by decide, by decide +kernel⟩, rfl, rfl⟩
theorem mv_X4_tellField : MOV yX4_tellField mi_X4_tellField 2 RX4 := ⟨mo_X4_tellField, gw499, gw500⟩
abbrev mi_X4_tellCalendar : Mi := (cX4_tellCalendar, RX4, 2, some .boolean, { frames := 6, cells := 0, slots := 0, locals := 130 })
theorem mo_X4_tellCalendar : MOK yX4_tellCalendar mi_X4_tellCalendar 0 := ⟨gw501, gw449, ⟨by decide, by decide, by decide +kernel⟩, rfl, rfl⟩
theorem mv_X4_tellCalendar : MOV yX4_tellCalendar mi_X4_tellCalendar 0 RX4 := ⟨mo_X4_tellCalendar, gw502, gw503⟩
abbrev mi_X4_tellItem : Mi := (cX4_tellItem, RX4, 1, some .boolean, { frames := 7, cells := 0, slots := 0, locals := 151 })
theorem mo_X4_tellItem : MOK yX4_tellItem mi_X4_tellItem 0 := ⟨gw504, gw449, ⟨by decide, by decide, by decide +kernel⟩, rfl, rfl⟩
theorem mv_X4_tellItem : MOV yX4_tellItem mi_X4_tellItem 0 RX4 := ⟨mo_X4_tellItem, gw505, gw506⟩
abbrev mi_X4_tell : Mi := (cX4_tell, RX4, 3, some .int, { frames := 8, cells := 0, slots := 0, locals := 171 })
theorem mo_X4_tell : MOK yX4_tell mi_X4_tell 1 := ⟨gw507, gw449, ⟨by decide, by decide, by decide +kernel⟩, rfl, rfl⟩
theorem mv_X4_tell : MOV yX4_tell mi_X4_tell 1 RX4 := ⟨mo_X4_tell, gw508, gw509⟩
abbrev mi_X5_found : Mi := (cX5_found, RX5, 3, some .int, { frames := 0, cells := 0, slots := 0, locals := 0 })
theorem mo_X5_found : MOK yX5_found mi_X5_found 1 := ⟨gw510, gw378, ⟨by decide, by decide, by decide +kernel⟩, rfl, rfl⟩
theorem mv_X5_found : MOV yX5_found mi_X5_found 1 RX5 := ⟨mo_X5_found, gw511, gw512⟩
abbrev mi_X5_calendar : Mi := (cX5_calendar, RX5, 2, some .int, { frames := 3, cells := 0, slots := 0, locals := 90 })
theorem mo_X5_calendar : MOK yX5_calendar mi_X5_calendar 1 := ⟨gw513, gw378, ⟨by decide, by decide, by decide +kernel⟩, rfl, rfl⟩
theorem mv_X5_calendar : MOV yX5_calendar mi_X5_calendar 1 RX5 := ⟨mo_X5_calendar, gw514, gw515⟩
abbrev mi_X5_of : Mi := (cX5_of, RX5, 4, some .int, { frames := 2, cells := 0, slots := 0, locals := 41 })
theorem mo_X5_of : MOK yX5_of mi_X5_of 2 := ⟨gw516, gw378, ⟨by decide, by decide, by decide +kernel⟩, rfl, rfl⟩
theorem mv_X5_of : MOV yX5_of mi_X5_of 2 RX5 := ⟨mo_X5_of, gw517, gw518⟩
abbrev mi_X5_set : Mi := (cX5_set, RX5, 5, some .int, { frames := 3, cells := 0, slots := 0, locals := 64 })
theorem mo_X5_set : MOK yX5_set mi_X5_set 3 := ⟨gw519, gw378, ⟨by decide, by decide, by decide +kernel⟩, rfl, rfl⟩
theorem mv_X5_set : MOV yX5_set mi_X5_set 3 RX5 := ⟨mo_X5_set, gw520, gw521⟩
abbrev mi_X5_turn : Mi := (cX5_turn, RX5, 4, some .int, { frames := 3, cells := 0, slots := 0, locals := 64 })
theorem mo_X5_turn : MOK yX5_turn mi_X5_turn 2 := ⟨gw522, gw378, ⟨by decide, by decide, by decide +kernel⟩, rfl, rfl⟩
theorem mv_X5_turn : MOV yX5_turn mi_X5_turn 2 RX5 := ⟨mo_X5_turn, gw523, gw524⟩
abbrev mi_X5_as : Mi := (cX5_as, RX5, 4, some .int, { frames := 2, cells := 0, slots := 0, locals := 41 })
theorem mo_X5_as : MOK yX5_as mi_X5_as 2 := ⟨gw525, gw378, ⟨by decide, by decide, by decide +kernel⟩, rfl, rfl⟩
theorem mv_X5_as : MOV yX5_as mi_X5_as 2 RX5 := ⟨mo_X5_as, gw526, gw527⟩
abbrev mi_X5_date : Mi := (cX5_date, RX5, 5, some .int, { frames := 3, cells := 0, slots := 0, locals := 67 })
theorem mo_X5_date : MOK yX5_date mi_X5_date 3 := ⟨gw528, gw378, ⟨by decide, by decide, by decide +kernel⟩, rfl, rfl⟩
theorem mv_X5_date : MOV yX5_date mi_X5_date 3 RX5 := ⟨mo_X5_date, gw529, gw530⟩
abbrev mi_X5_law : Mi := (cX5_law, RX5, 4, some .int, { frames := 1, cells := 0, slots := 0, locals := 22 })
theorem mo_X5_law : MOK yX5_law mi_X5_law 2 := ⟨gw531, gw378, ⟨by decide, by decide, by decide +kernel⟩, rfl, rfl⟩
theorem mv_X5_law : MOV yX5_law mi_X5_law 2 RX5 := ⟨mo_X5_law, gw532, gw533⟩
abbrev mi_X5_pilgrim : Mi := (cX5_pilgrim, RX5, 3, some .int, { frames := 2, cells := 0, slots := 0, locals := 44 })
theorem mo_X5_pilgrim : MOK yX5_pilgrim mi_X5_pilgrim 2 := ⟨gw534, gw378, ⟨by decide, by decide, by decide +kernel⟩, rfl, rfl⟩
theorem mv_X5_pilgrim : MOV yX5_pilgrim mi_X5_pilgrim 2 RX5 := ⟨mo_X5_pilgrim, gw535, gw536⟩
abbrev mi_X5_about : Mi := (cX5_about, RX5, 4, some .int, { frames := 1, cells := 0, slots := 0, locals := 22 })
theorem mo_X5_about : MOK yX5_about mi_X5_about 2 := ⟨gw537, gw378, ⟨by decide, by decide, by decide +kernel⟩, rfl, rfl⟩
theorem mv_X5_about : MOV yX5_about mi_X5_about 2 RX5 := ⟨mo_X5_about, gw538, gw539⟩
abbrev mi_X5_mind : Mi := (cX5_mind, RX5, 6, some .int, { frames := 2, cells := 0, slots := 0, locals := 43 })
theorem mo_X5_mind : MOK yX5_mind mi_X5_mind 3 := ⟨gw540, gw378, ⟨by decide, by decide, by decide +kernel⟩, rfl, rfl⟩
theorem mv_X5_mind : MOV yX5_mind mi_X5_mind 3 RX5 := ⟨mo_X5_mind, gw541, gw542⟩
abbrev mi_X5_drink : Mi := (cX5_drink, RX5, 5, some .int, { frames := 2, cells := 0, slots := 0, locals := 43 })
theorem mo_X5_drink : MOK yX5_drink mi_X5_drink 2 := ⟨gw543, gw378, ⟨by decide, by decide, by decide +kernel⟩, rfl, rfl⟩
theorem mv_X5_drink : MOV yX5_drink mi_X5_drink 2 RX5 := ⟨mo_X5_drink, gw544, gw545⟩
abbrev mi_X5_bathe : Mi := (cX5_bathe, RX5, 3, some .int, { frames := 4, cells := 0, slots := 0, locals := 90 })
theorem mo_X5_bathe : MOK yX5_bathe mi_X5_bathe 1 := ⟨gw546, gw378, ⟨by decide, by decide, by decide +kernel⟩, rfl, rfl⟩
theorem mv_X5_bathe : MOV yX5_bathe mi_X5_bathe 1 RX5 := ⟨mo_X5_bathe, gw547, gw548⟩
abbrev mi_J6_bitCount_0f7a4 : Mi := (cJ6_bitCount_0f7a4, RJ6, 1, some .int, { frames := 0, cells := 0, slots := 0, locals := 0 })
theorem mo_J6_bitCount_0f7a4 : MOK yJ6_bitCount_0f7a4 mi_J6_bitCount_0f7a4 1 := ⟨gw549, gw550, ⟨by decide, by decide, by decide +kernel⟩, rfl, rfl⟩
abbrev mi_X5_days : Mi := (cX5_days, RX5, 3, some .int, { frames := 5, cells := 0, slots := 0, locals := 112 })
theorem mo_X5_days : MOK yX5_days mi_X5_days 1 := ⟨gw551, gw378, ⟨by decide, by decide, by decide +kernel⟩, rfl, rfl⟩
theorem mv_X5_days : MOV yX5_days mi_X5_days 1 RX5 := ⟨mo_X5_days, gw552, gw553⟩
abbrev mi_X5_now : Mi := (cX5_now, RX5, 2, some .int, { frames := 1, cells := 0, slots := 0, locals := 22 })
theorem mo_X5_now : MOK yX5_now mi_X5_now 1 := ⟨gw554, gw378, ⟨by decide, by decide, by decide +kernel⟩, rfl, rfl⟩
theorem mv_X5_now : MOV yX5_now mi_X5_now 1 RX5 := ⟨mo_X5_now, gw555, gw556⟩
abbrev mi_X5_lookAhead : Mi := (cX5_lookAhead, RX5, 3, none, { frames := 4, cells := 0, slots := 0, locals := 90 })
theorem mo_X5_lookAhead : MOK yX5_lookAhead mi_X5_lookAhead 1 := ⟨gw557, gw378, ⟨by decide, by decide, by decide +kernel⟩, rfl, rfl⟩
theorem mv_X5_lookAhead : MOV yX5_lookAhead mi_X5_lookAhead 1 RX5 := ⟨mo_X5_lookAhead, gw558, gw559⟩
abbrev mi_X5_tryDays : Mi := (cX5_tryDays, RX5, 6, none, { frames := 4, cells := 0, slots := 0, locals := 88 })
theorem mo_X5_tryDays : MOK yX5_tryDays mi_X5_tryDays 4 := ⟨gw560, gw378, ⟨by decide, by decide, by decide +kernel⟩, rfl, rfl⟩
theorem mv_X5_tryDays : MOV yX5_tryDays mi_X5_tryDays 4 RX5 := ⟨mo_X5_tryDays, gw561, gw562⟩
abbrev mi_X5_on : Mi := (cX5_on, RX5, 5, some .int, { frames := 5, cells := 0, slots := 0, locals := 113 })
theorem mo_X5_on : MOK yX5_on mi_X5_on 3 := ⟨gw563, gw378, ⟨by decide, by decide, by decide +kernel⟩, rfl, rfl⟩
theorem mv_X5_on : MOV yX5_on mi_X5_on 3 RX5 := ⟨mo_X5_on, gw564, gw565⟩
abbrev mi_X5_daysToWell : Mi := (cX5_daysToWell, RX5, 4, some .int, { frames := 4, cells := 0, slots := 0, locals := 88 })
theorem mo_X5_daysToWell : MOK yX5_daysToWell mi_X5_daysToWell 2 := ⟨gw566, gw378, ⟨by decide, by decide, by decide +kernel⟩, rfl, rfl⟩
theorem mv_X5_daysToWell : MOV yX5_daysToWell mi_X5_daysToWell 2 RX5 := ⟨mo_X5_daysToWell, gw567, gw568⟩
abbrev mi_X5_well : Mi := (cX5_well, RX5, 4, some .int, { frames := 5, cells := 0, slots := 0, locals := 112 })
theorem mo_X5_well : MOK yX5_well mi_X5_well 1 := ⟨gw569, gw378, ⟨by decide, by decide, by decide +kernel⟩, rfl, rfl⟩
theorem mv_X5_well : MOV yX5_well mi_X5_well 1 RX5 := ⟨mo_X5_well, gw570, gw571⟩
abbrev mi_X5_next : Mi := (cX5_next, RX5, 4, some .int, { frames := 3, cells := 0, slots := 0, locals := 67 })
theorem mo_X5_next : MOK yX5_next mi_X5_next 1 := ⟨gw572, gw378, ⟨by decide, by decide, by decide +kernel⟩, rfl, rfl⟩
theorem mv_X5_next : MOV yX5_next mi_X5_next 1 RX5 := ⟨mo_X5_next, gw573, gw574⟩
abbrev mi_X5_agreeAhead : Mi := (cX5_agreeAhead, RX5, 4, some .boolean, { frames := 1, cells := 0, slots := 0, locals := 21 })
theorem mo_X5_agreeAhead : MOK yX5_agreeAhead mi_X5_agreeAhead 3 := ⟨gw575, gw378, ⟨by decide, by decide, by decide +kernel⟩, rfl, rfl⟩
theorem mv_X5_agreeAhead : MOV yX5_agreeAhead mi_X5_agreeAhead 3 RX5 := ⟨mo_X5_agreeAhead, gw576, gw577⟩
abbrev mi_X5_agree : Mi := (cX5_agree, RX5, 6, some .int, { frames := 5, cells := 0, slots := 0, locals := 112 })
theorem mo_X5_agree : MOK yX5_agree mi_X5_agree 3 := ⟨gw578, gw378, ⟨by decide, by decide, by decide +kernel⟩, rfl, rfl⟩
theorem mv_X5_agree : MOV yX5_agree mi_X5_agree 3 RX5 := ⟨mo_X5_agree, gw579, gw580⟩
abbrev mi_X5_row : Mi := (cX5_row, RX5, 7, some .int, { frames := 5, cells := 0, slots := 0, locals := 112 })
theorem mo_X5_row : MOK yX5_row mi_X5_row 3 := ⟨gw581, gw378, ⟨by decide, by decide, by decide +kernel⟩, rfl, rfl⟩
theorem mv_X5_row : MOV yX5_row mi_X5_row 3 RX5 := ⟨mo_X5_row, gw582, gw583⟩
abbrev mi_X5_meet : Mi := (cX5_meet, RX5, 3, some .int, { frames := 4, cells := 0, slots := 0, locals := 90 })
theorem mo_X5_meet : MOK yX5_meet mi_X5_meet 1 := ⟨gw584, gw378, ⟨by decide, by decide, by decide +kernel⟩, rfl, rfl⟩
theorem mv_X5_meet : MOV yX5_meet mi_X5_meet 1 RX5 := ⟨mo_X5_meet, gw585, gw586⟩
abbrev mi_X5_both : Mi := (cX5_both, RX5, 9, some .int, { frames := 3, cells := 0, slots := 0, locals := 64 })
theorem mo_X5_both : MOK yX5_both mi_X5_both 4 := ⟨gw587, gw378, ⟨by decide, by decide, by decide +kernel⟩, rfl, rfl⟩
theorem mv_X5_both : MOV yX5_both mi_X5_both 4 RX5 := ⟨mo_X5_both, gw588, gw589⟩
abbrev mi_X5_trust : Mi := (cX5_trust, RX5, 7, some .int, { frames := 5, cells := 0, slots := 0, locals := 112 })
theorem mo_X5_trust : MOK yX5_trust mi_X5_trust 1 := ⟨gw590, gw378, ⟨by decide, by decide, by decide +kernel⟩, rfl, rfl⟩
theorem mv_X5_trust : MOV yX5_trust mi_X5_trust 1 RX5 := ⟨mo_X5_trust, gw591, gw592⟩
abbrev mi_X5_illOfAllAhead : Mi := (cX5_illOfAllAhead, RX5, 6, some .int, { frames := 5, cells := 0, slots := 0, locals := 113 })
theorem mo_X5_illOfAllAhead : MOK yX5_illOfAllAhead mi_X5_illOfAllAhead 2 := ⟨gw593, gw378, ⟨by decide, by decide, by decide +kernel⟩, rfl, rfl⟩
theorem mv_X5_illOfAllAhead : MOV yX5_illOfAllAhead mi_X5_illOfAllAhead 2 RX5 := ⟨mo_X5_illOfAllAhead, gw594, gw595⟩
abbrev mi_X5_truth : Mi := (cX5_truth, RX5, 6, some .int, { frames := 6, cells := 0, slots := 0, locals := 138 })
theorem mo_X5_truth : MOK yX5_truth mi_X5_truth 1 := ⟨gw596, gw378, ⟨by decide, by decide, by decide +kernel⟩, rfl, rfl⟩
theorem mv_X5_truth : MOV yX5_truth mi_X5_truth 1 RX5 := ⟨mo_X5_truth, gw597, gw598⟩
abbrev mi_X5_cure : Mi := (cX5_cure, RX5, 5, some .int, { frames := 4, cells := 0, slots := 0, locals := 90 })
theorem mo_X5_cure : MOK yX5_cure mi_X5_cure 1 := ⟨gw599, gw378, ⟨by decide, by decide, by decide +kernel⟩, rfl, rfl⟩
theorem mv_X5_cure : MOV yX5_cure mi_X5_cure 1 RX5 := ⟨mo_X5_cure, gw600, gw601⟩
abbrev mi_X5_agreementsOfTried : Mi := (cX5_agreementsOfTried, RX5, 4, some .int, { frames := 3, cells := 0, slots := 0, locals := 67 })
theorem mo_X5_agreementsOfTried : MOK yX5_agreementsOfTried mi_X5_agreementsOfTried 1 := ⟨gw602, gw378, ⟨by decide, by decide, by decide +kernel⟩, rfl, rfl⟩
theorem mv_X5_agreementsOfTried : MOV yX5_agreementsOfTried mi_X5_agreementsOfTried 1 RX5 := ⟨mo_X5_agreementsOfTried, gw603, gw604⟩
abbrev mi_X5_bestValue : Mi := (cX5_bestValue, RX5, 11, some .int, { frames := 5, cells := 0, slots := 0, locals := 112 })
theorem mo_X5_bestValue : MOK yX5_bestValue mi_X5_bestValue 4 := ⟨gw605, gw378, ⟨by decide, by decide, by decide +kernel⟩, rfl, rfl⟩
theorem mv_X5_bestValue : MOV yX5_bestValue mi_X5_bestValue 4 RX5 := ⟨mo_X5_bestValue, gw606, gw607⟩
abbrev mi_X5_kind : Mi := (cX5_kind, RX5, 3, some .int, { frames := 6, cells := 0, slots := 0, locals := 142 })
theorem mo_X5_kind : MOK yX5_kind mi_X5_kind 2 := ⟨gw608, gw378, ⟨by decide, by decide, by decide +kernel⟩, rfl, rfl⟩
theorem mv_X5_kind : MOV yX5_kind mi_X5_kind 2 RX5 := ⟨mo_X5_kind, gw609, gw610⟩
abbrev mi_X5_begin : Mi := (cX5_begin, RX5, 3, some .int, { frames := 6, cells := 0, slots := 0, locals := 142 })
theorem mo_X5_begin : MOK yX5_begin mi_X5_begin 2 := ⟨gw611, gw378, ⟨by decide, by decide, by decide +kernel⟩, rfl, rfl⟩
theorem mv_X5_begin : MOV yX5_begin mi_X5_begin 2 RX5 := ⟨mo_X5_begin, gw612, gw613⟩
abbrev mi_X5_wellAhead : Mi := (cX5_wellAhead, RX5, 6, some .int, { frames := 5, cells := 0, slots := 0, locals := 113 })
theorem mo_X5_wellAhead : MOK yX5_wellAhead mi_X5_wellAhead 2 := ⟨gw614, gw378, ⟨by decide, by decide, by decide +kernel⟩, rfl, rfl⟩
theorem mv_X5_wellAhead : MOV yX5_wellAhead mi_X5_wellAhead 2 RX5 := ⟨mo_X5_wellAhead, gw615, gw616⟩
abbrev mi_X5_power : Mi := (cX5_power, RX5, 6, some .int, { frames := 6, cells := 0, slots := 0, locals := 138 })
theorem mo_X5_power : MOK yX5_power mi_X5_power 1 := ⟨gw617, gw378, ⟨by decide, by decide, by decide +kernel⟩, rfl, rfl⟩
theorem mv_X5_power : MOV yX5_power mi_X5_power 1 RX5 := ⟨mo_X5_power, gw618, gw619⟩
abbrev mi_X5_feed : Mi := (cX5_feed, RX5, 4, some .int, { frames := 1, cells := 0, slots := 0, locals := 22 })
theorem mo_X5_feed : MOK yX5_feed mi_X5_feed 2 := ⟨gw620, gw378, ⟨by decide, by decide, by decide +kernel⟩, rfl, rfl⟩
theorem mv_X5_feed : MOV yX5_feed mi_X5_feed 2 RX5 := ⟨mo_X5_feed, gw621, gw622⟩
abbrev mi_X5_wipe : Mi := (cX5_wipe, RX5, 2, some .int, { frames := 0, cells := 0, slots := 0, locals := 0 })
theorem mo_X5_wipe : MOK yX5_wipe mi_X5_wipe 0 := ⟨gw623, gw378, ⟨by decide, by decide, by decide +kernel⟩, rfl, rfl⟩
theorem mv_X5_wipe : MOV yX5_wipe mi_X5_wipe 0 RX5 := ⟨mo_X5_wipe, gw624, gw625⟩
abbrev mi_X5_spring : Mi := (cX5_spring, RX5, 2, some .int, { frames := 9, cells := 0, slots := 0, locals := 193 })
theorem mo_X5_spring : MOK yX5_spring mi_X5_spring 0 := ⟨gw626, gw378, ⟨by decide, by decide, by decide +kernel⟩, rfl, rfl⟩
theorem mv_X5_spring : MOV yX5_spring mi_X5_spring 0 RX5 := ⟨mo_X5_spring, gw627, gw628⟩
abbrev mi_X5_sheetAt : Mi := (cX5_sheetAt, RX5, 2, some (.object "EvenSpring$Sheet"), { frames := 0, cells := 0, slots := 0, locals := 0 })
theorem mo_X5_sheetAt : MOK yX5_sheetAt mi_X5_sheetAt 1 := ⟨gw629, gw378, ⟨by decide, by decide, by decide +kernel⟩, rfl, rfl⟩
theorem mv_X5_sheetAt : MOV yX5_sheetAt mi_X5_sheetAt 1 RX5 := ⟨mo_X5_sheetAt, gw630, gw631⟩
abbrev mi_X5_sheet : Mi := (cX5_sheet, RX5, 5, some .int, { frames := 2, cells := 0, slots := 0, locals := 44 })
theorem mo_X5_sheet : MOK yX5_sheet mi_X5_sheet 3 := ⟨gw632, gw378, ⟨by decide, by decide, by decide +kernel⟩, rfl, rfl⟩
theorem mv_X5_sheet : MOV yX5_sheet mi_X5_sheet 3 RX5 := ⟨mo_X5_sheet, gw633, gw634⟩
abbrev mi_X5_write : Mi := (cX5_write, RX5, 8, some .long, { frames := 2, cells := 0, slots := 0, locals := 45 })
theorem mo_X5_write : MOK yX5_write mi_X5_write 3 := ⟨gw635, gw378, ⟨by decide, by decide, by decide +kernel⟩, rfl, rfl⟩
theorem mv_X5_write : MOV yX5_write mi_X5_write 3 RX5 := ⟨mo_X5_write, gw636, gw637⟩
abbrev mi_X5_copy : Mi := (cX5_copy, RX5, 8, some .int, { frames := 1, cells := 0, slots := 0, locals := 48 })
theorem mo_X5_copy : MOK yX5_copy mi_X5_copy 5 := ⟨gw638, gw378, ⟨by decide, by decide, by decide +kernel⟩, rfl, rfl⟩
theorem mv_X5_copy : MOV yX5_copy mi_X5_copy 5 RX5 := ⟨mo_X5_copy, gw639, gw640⟩
abbrev mi_X5_lays : Mi := (cX5_lays, RX5, 8, some .int, { frames := 1, cells := 0, slots := 0, locals := 22 })
theorem mo_X5_lays : MOK yX5_lays mi_X5_lays 1 := ⟨gw641, gw378, ⟨by decide, by decide, by decide +kernel⟩, rfl, rfl⟩
theorem mv_X5_lays : MOV yX5_lays mi_X5_lays 1 RX5 := ⟨mo_X5_lays, gw642, gw643⟩
abbrev mi_X5_book : Mi := (cX5_book, RX5, 6, some .int, { frames := 5, cells := 0, slots := 0, locals := 112 })
theorem mo_X5_book : MOK yX5_book mi_X5_book 2 := ⟨gw644, gw378, ⟨by decide, by decide, by decide +kernel⟩, rfl, rfl⟩
theorem mv_X5_book : MOV yX5_book mi_X5_book 2 RX5 := ⟨mo_X5_book, gw645, gw646⟩
abbrev mi_X5_makesJustSo : Mi := (cX5_makesJustSo, RX5, 6, some .boolean, { frames := 4, cells := 0, slots := 0, locals := 88 })
theorem mo_X5_makesJustSo : MOK yX5_makesJustSo mi_X5_makesJustSo 4 := ⟨gw647, gw378, ⟨by decide, by decide, by decide +kernel⟩, rfl, rfl⟩
theorem mv_X5_makesJustSo : MOV yX5_makesJustSo mi_X5_makesJustSo 4 RX5 := ⟨mo_X5_makesJustSo, gw648, gw649⟩
abbrev mi_X5_read : Mi := (cX5_read, RX5, 8, some .int, { frames := 5, cells := 0, slots := 0, locals := 113 })
theorem mo_X5_read : MOK yX5_read mi_X5_read 2 := ⟨gw650, gw378, ⟨by decide, by decide, by decide +kernel⟩, rfl, rfl⟩
theorem mv_X5_read : MOV yX5_read mi_X5_read 2 RX5 := ⟨mo_X5_read, gw651, gw652⟩
abbrev mi_X5_image : Mi := (cX5_image, RX5, 1, some .int, { frames := 3, cells := 0, slots := 0, locals := 91 })
theorem mo_X5_image : MOK yX5_image mi_X5_image 0 := ⟨gw653, gw378, ⟨by decide, by decide, by decide +kernel⟩, rfl, rfl⟩
theorem mv_X5_image : MOV yX5_image mi_X5_image 0 RX5 := ⟨mo_X5_image, gw654, gw655⟩
abbrev mi_X5_undo : Mi := (cX5_undo, RX5, 1, some .int, { frames := 3, cells := 0, slots := 0, locals := 91 })
theorem mo_X5_undo : MOK yX5_undo mi_X5_undo 0 := ⟨gw656, gw378, ⟨by decide, by decide, by decide +kernel⟩, rfl, rfl⟩
theorem mv_X5_undo : MOV yX5_undo mi_X5_undo 0 RX5 := ⟨mo_X5_undo, gw657, gw658⟩
abbrev mi_X5_tear : Mi := (cX5_tear, RX5, 2, some .int, { frames := 0, cells := 0, slots := 0, locals := 0 })
theorem mo_X5_tear : MOK yX5_tear mi_X5_tear 0 := ⟨gw659, gw378, ⟨by decide, by decide, by decide +kernel⟩, rfl, rfl⟩
theorem mv_X5_tear : MOV yX5_tear mi_X5_tear 0 RX5 := ⟨mo_X5_tear, gw660, gw661⟩
abbrev mi_X5_count : Mi := (cX5_count, RX5, 2, some .int, { frames := 1, cells := 0, slots := 0, locals := 22 })
theorem mo_X5_count : MOK yX5_count mi_X5_count 1 := ⟨gw662, gw378, ⟨by decide, by decide, by decide +kernel⟩, rfl, rfl⟩
theorem mv_X5_count : MOV yX5_count mi_X5_count 1 RX5 := ⟨mo_X5_count, gw663, gw664⟩
abbrev mi_X5_status : Mi := (cX5_status, RX5, 4, some .int, { frames := 1, cells := 0, slots := 0, locals := 22 })
theorem mo_X5_status : MOK yX5_status mi_X5_status 1 := ⟨gw665, gw378, ⟨by decide, by decide, by decide +kernel⟩, rfl, rfl⟩
theorem mv_X5_status : MOV yX5_status mi_X5_status 1 RX5 := ⟨mo_X5_status, gw666, gw667⟩
abbrev mi_X6_in : Mi := (cX6_in, RX6, 6, some .boolean, { frames := 0, cells := 0, slots := 0, locals := 0 })
theorem mo_X6_in : MOK yX6_in mi_X6_in 3 := ⟨gw668, gw669, ⟨by decide, by decide, by decide +kernel⟩, rfl, rfl⟩
abbrev mi_X6_finds : Mi := (cX6_finds, RX6, 2, some .int, { frames := 0, cells := 0, slots := 0, locals := 0 })
theorem mo_X6_finds : MOK yX6_finds mi_X6_finds 1 := ⟨gw670, gw669, ⟨by decide, by decide, by decide +kernel⟩, rfl, rfl⟩
theorem mv_X6_finds : MOV yX6_finds mi_X6_finds 1 RX6 := ⟨mo_X6_finds, gw671, gw672⟩
abbrev mi_X6_saves : Mi := (cX6_saves, RX6, 2, none, { frames := 0, cells := 0, slots := 0, locals := 0 })
theorem mo_X6_saves : MOK yX6_saves mi_X6_saves 0 := ⟨gw673, gw669, ⟨by decide, by decide, by decide +kernel⟩, rfl, rfl⟩
theorem mv_X6_saves : MOV yX6_saves mi_X6_saves 0 RX6 := ⟨mo_X6_saves, gw674, gw675⟩
abbrev mi_X6_putsBack : Mi := (cX6_putsBack, RX6, 2, none, { frames := 0, cells := 0, slots := 0, locals := 0 })
theorem mo_X6_putsBack : MOK yX6_putsBack mi_X6_putsBack 0 := ⟨gw676, gw669, ⟨by decide, by decide, by decide +kernel⟩, rfl, rfl⟩
theorem mv_X6_putsBack : MOV yX6_putsBack mi_X6_putsBack 0 RX6 := ⟨mo_X6_putsBack, gw677, gw678⟩
abbrev mi_X6_laysAside : Mi := (cX6_laysAside, RX6, 2, none, { frames := 0, cells := 0, slots := 0, locals := 0 })
theorem mo_X6_laysAside : MOK yX6_laysAside mi_X6_laysAside 0 := ⟨gw679, gw669, ⟨by decide, by decide, by decide +kernel⟩, rfl, rfl⟩
theorem mv_X6_laysAside : MOV yX6_laysAside mi_X6_laysAside 0 RX6 := ⟨mo_X6_laysAside, gw680, gw681⟩
abbrev mi_X6_takesBack : Mi := (cX6_takesBack, RX6, 3, some .int, { frames := 0, cells := 0, slots := 0, locals := 0 })
theorem mo_X6_takesBack : MOK yX6_takesBack mi_X6_takesBack 1 := ⟨gw682, gw669, ⟨by decide, by decide, by decide +kernel⟩, rfl, rfl⟩
theorem mv_X6_takesBack : MOV yX6_takesBack mi_X6_takesBack 1 RX6 := ⟨mo_X6_takesBack, gw683, gw684⟩
abbrev mi_X6_becomes : Mi := (cX6_becomes, RX6, 4, some .int, { frames := 0, cells := 0, slots := 0, locals := 0 })
theorem mo_X6_becomes : MOK yX6_becomes mi_X6_becomes 2 := ⟨gw685, gw669, ⟨by decide, by decide, by decide +kernel⟩, rfl, rfl⟩
theorem mv_X6_becomes : MOV yX6_becomes mi_X6_becomes 2 RX6 := ⟨mo_X6_becomes, gw686, gw687⟩
abbrev mi_X6_isCalendar : Mi := (cX6_isCalendar, RX6, 2, some .boolean, { frames := 1, cells := 0, slots := 0, locals := 25 })
theorem mo_X6_isCalendar : MOK yX6_isCalendar mi_X6_isCalendar 1 := ⟨gw688, gw669, ⟨by decide, by decide, by decide +kernel⟩, rfl, rfl⟩
theorem mv_X6_isCalendar : MOV yX6_isCalendar mi_X6_isCalendar 1 RX6 := ⟨mo_X6_isCalendar, gw689, gw690⟩
abbrev mi_X6_areTwo : Mi := (cX6_areTwo, RX6, 3, some .boolean, { frames := 2, cells := 0, slots := 0, locals := 46 })
theorem mo_X6_areTwo : MOK yX6_areTwo mi_X6_areTwo 2 := ⟨gw691, gw669, ⟨by decide, by decide, by decide +kernel⟩, rfl, rfl⟩
theorem mv_X6_areTwo : MOV yX6_areTwo mi_X6_areTwo 2 RX6 := ⟨mo_X6_areTwo, gw692, gw693⟩
abbrev mi_X6_isPilgrim : Mi := (cX6_isPilgrim, RX6, 2, some .boolean, { frames := 1, cells := 0, slots := 0, locals := 25 })
theorem mo_X6_isPilgrim : MOK yX6_isPilgrim mi_X6_isPilgrim 1 := ⟨gw694, gw669, ⟨by decide, by decide, by decide +kernel⟩, rfl, rfl⟩
theorem mv_X6_isPilgrim : MOV yX6_isPilgrim mi_X6_isPilgrim 1 RX6 := ⟨mo_X6_isPilgrim, gw695, gw696⟩
abbrev mi_X6_isKind : Mi := (cX6_isKind, RX6, 1, some .boolean, { frames := 1, cells := 0, slots := 0, locals := 25 })
theorem mo_X6_isKind : MOK yX6_isKind mi_X6_isKind 1 := ⟨gw697, gw669, ⟨by decide, by decide, by decide +kernel⟩, rfl, rfl⟩
abbrev mi_X6_its : Mi := (cX6_its, RX6, 3, some .int, { frames := 0, cells := 0, slots := 0, locals := 0 })
theorem mo_X6_its : MOK yX6_its mi_X6_its 2 := ⟨gw698, gw669, ⟨by decide, by decide, by decide +kernel⟩, rfl, rfl⟩
theorem mv_X6_its : MOV yX6_its mi_X6_its 2 RX6 := ⟨mo_X6_its, gw699, gw700⟩
abbrev mi_X6_spot : Mi := (cX6_spot, RX6, 2, some .int, { frames := 0, cells := 0, slots := 0, locals := 0 })
theorem mo_X6_spot : MOK yX6_spot mi_X6_spot 2 := ⟨gw701, gw669, ⟨by decide, by decide, by decide +kernel⟩, rfl, rfl⟩
abbrev mi_X6_isOf : Mi := (cX6_isOf, RX6, 3, some .int, { frames := 1, cells := 0, slots := 0, locals := 21 })
theorem mo_X6_isOf : MOK yX6_isOf mi_X6_isOf 2 := ⟨gw702, gw669, ⟨by decide, by decide, by decide +kernel⟩, rfl, rfl⟩
theorem mv_X6_isOf : MOV yX6_isOf mi_X6_isOf 2 RX6 := ⟨mo_X6_isOf, gw703, gw704⟩
abbrev mi_X6_adds : Mi := (cX6_adds, RX6, 3, some .int, { frames := 0, cells := 0, slots := 0, locals := 0 })
theorem mo_X6_adds : MOK yX6_adds mi_X6_adds 1 := ⟨gw705, gw669, ⟨by decide, by decide, by decide +kernel⟩, rfl, rfl⟩
theorem mv_X6_adds : MOV yX6_adds mi_X6_adds 1 RX6 := ⟨mo_X6_adds, gw706, gw707⟩
abbrev mi_X6_calendar : Mi := (cX6_calendar, RX6, 2, some .int, { frames := 2, cells := 0, slots := 0, locals := 45 })
theorem mo_X6_calendar : MOK yX6_calendar mi_X6_calendar 1 := ⟨gw708, gw669, ⟨by decide, by decide, by decide +kernel⟩, rfl, rfl⟩
theorem mv_X6_calendar : MOV yX6_calendar mi_X6_calendar 1 RX6 := ⟨mo_X6_calendar, gw709, gw710⟩
abbrev mi_X6_of : Mi := (cX6_of, RX6, 3, some .int, { frames := 2, cells := 0, slots := 0, locals := 46 })
theorem mo_X6_of : MOK yX6_of mi_X6_of 2 := ⟨gw711, gw669, ⟨by decide, by decide, by decide +kernel⟩, rfl, rfl⟩
theorem mv_X6_of : MOV yX6_of mi_X6_of 2 RX6 := ⟨mo_X6_of, gw712, gw713⟩
abbrev mi_X6_isPart : Mi := (cX6_isPart, RX6, 2, some .boolean, { frames := 1, cells := 0, slots := 0, locals := 25 })
theorem mo_X6_isPart : MOK yX6_isPart mi_X6_isPart 2 := ⟨gw714, gw669, ⟨by decide, by decide, by decide +kernel⟩, rfl, rfl⟩
abbrev mi_X6_set : Mi := (cX6_set, RX6, 4, some .int, { frames := 2, cells := 0, slots := 0, locals := 46 })
theorem mo_X6_set : MOK yX6_set mi_X6_set 3 := ⟨gw715, gw669, ⟨by decide, by decide, by decide +kernel⟩, rfl, rfl⟩
theorem mv_X6_set : MOV yX6_set mi_X6_set 3 RX6 := ⟨mo_X6_set, gw716, gw717⟩
abbrev mi_X6_turn : Mi := (cX6_turn, RX6, 3, some .int, { frames := 2, cells := 0, slots := 0, locals := 46 })
theorem mo_X6_turn : MOK yX6_turn mi_X6_turn 2 := ⟨gw718, gw669, ⟨by decide, by decide, by decide +kernel⟩, rfl, rfl⟩
theorem mv_X6_turn : MOV yX6_turn mi_X6_turn 2 RX6 := ⟨mo_X6_turn, gw719, gw720⟩
abbrev mi_X6_isUnder : Mi := (cX6_isUnder, RX6, 2, some .boolean, { frames := 0, cells := 0, slots := 0, locals := 0 })
theorem mo_X6_isUnder : MOK yX6_isUnder mi_X6_isUnder 2 := ⟨gw721, gw669, ⟨by decide, by decide, by decide +kernel⟩, rfl, rfl⟩
abbrev mi_X6_as : Mi := (cX6_as, RX6, 3, some .int, { frames := 2, cells := 0, slots := 0, locals := 46 })
theorem mo_X6_as : MOK yX6_as mi_X6_as 2 := ⟨gw722, gw669, ⟨by decide, by decide, by decide +kernel⟩, rfl, rfl⟩
theorem mv_X6_as : MOV yX6_as mi_X6_as 2 RX6 := ⟨mo_X6_as, gw723, gw724⟩
abbrev mi_X6_runs : Mi := (cX6_runs, RX6, 5, some .int, { frames := 1, cells := 0, slots := 0, locals := 22 })
theorem mo_X6_runs : MOK yX6_runs mi_X6_runs 2 := ⟨gw725, gw669, ⟨by decide, by decide, by decide +kernel⟩, rfl, rfl⟩
theorem mv_X6_runs : MOV yX6_runs mi_X6_runs 2 RX6 := ⟨mo_X6_runs, gw726, gw727⟩
abbrev mi_X6_dateOf : Mi := (cX6_dateOf, RX6, 3, some .int, { frames := 2, cells := 0, slots := 0, locals := 46 })
theorem mo_X6_dateOf : MOK yX6_dateOf mi_X6_dateOf 2 := ⟨gw728, gw669, ⟨by decide, by decide, by decide +kernel⟩, rfl, rfl⟩
theorem mv_X6_dateOf : MOV yX6_dateOf mi_X6_dateOf 2 RX6 := ⟨mo_X6_dateOf, gw729, gw730⟩
abbrev mi_X6_monthOf : Mi := (cX6_monthOf, RX6, 3, some .int, { frames := 2, cells := 0, slots := 0, locals := 46 })
theorem mo_X6_monthOf : MOK yX6_monthOf mi_X6_monthOf 2 := ⟨gw731, gw669, ⟨by decide, by decide, by decide +kernel⟩, rfl, rfl⟩
theorem mv_X6_monthOf : MOV yX6_monthOf mi_X6_monthOf 2 RX6 := ⟨mo_X6_monthOf, gw732, gw733⟩
abbrev mi_X6_isHoly : Mi := (cX6_isHoly, RX6, 4, some .boolean, { frames := 3, cells := 0, slots := 0, locals := 68 })
theorem mo_X6_isHoly : MOK yX6_isHoly mi_X6_isHoly 2 := ⟨gw734, gw669, ⟨by decide, by decide, by decide +kernel⟩, rfl, rfl⟩
theorem mv_X6_isHoly : MOV yX6_isHoly mi_X6_isHoly 2 RX6 := ⟨mo_X6_isHoly, gw735, gw736⟩
abbrev mi_X6_date : Mi := (cX6_date, RX6, 4, some .int, { frames := 4, cells := 0, slots := 0, locals := 91 })
theorem mo_X6_date : MOK yX6_date mi_X6_date 3 := ⟨gw737, gw669, ⟨by decide, by decide, by decide +kernel⟩, rfl, rfl⟩
theorem mv_X6_date : MOV yX6_date mi_X6_date 3 RX6 := ⟨mo_X6_date, gw738, gw739⟩
abbrev mi_X6_law : Mi := (cX6_law, RX6, 4, some .int, { frames := 1, cells := 0, slots := 0, locals := 25 })
theorem mo_X6_law : MOK yX6_law mi_X6_law 2 := ⟨gw740, gw669, ⟨by decide, by decide, by decide +kernel⟩, rfl, rfl⟩
theorem mv_X6_law : MOV yX6_law mi_X6_law 2 RX6 := ⟨mo_X6_law, gw741, gw742⟩
abbrev mi_X6_comes : Mi := (cX6_comes, RX6, 4, some .int, { frames := 1, cells := 0, slots := 0, locals := 21 })
theorem mo_X6_comes : MOK yX6_comes mi_X6_comes 2 := ⟨gw743, gw669, ⟨by decide, by decide, by decide +kernel⟩, rfl, rfl⟩
theorem mv_X6_comes : MOV yX6_comes mi_X6_comes 2 RX6 := ⟨mo_X6_comes, gw744, gw745⟩
abbrev mi_X6_isTrust : Mi := (cX6_isTrust, RX6, 2, some .boolean, { frames := 2, cells := 0, slots := 0, locals := 46 })
theorem mo_X6_isTrust : MOK yX6_isTrust mi_X6_isTrust 1 := ⟨gw746, gw669, ⟨by decide, by decide, by decide +kernel⟩, rfl, rfl⟩
theorem mv_X6_isTrust : MOV yX6_isTrust mi_X6_isTrust 1 RX6 := ⟨mo_X6_isTrust, gw747, gw748⟩
abbrev mi_X6_pilgrim : Mi := (cX6_pilgrim, RX6, 3, some .int, { frames := 3, cells := 0, slots := 0, locals := 67 })
theorem mo_X6_pilgrim : MOK yX6_pilgrim mi_X6_pilgrim 2 := ⟨gw749, gw669, ⟨by decide, by decide, by decide +kernel⟩, rfl, rfl⟩
theorem mv_X6_pilgrim : MOV yX6_pilgrim mi_X6_pilgrim 2 RX6 := ⟨mo_X6_pilgrim, gw750, gw751⟩
abbrev mi_X6_about : Mi := (cX6_about, RX6, 3, some .int, { frames := 2, cells := 0, slots := 0, locals := 46 })
theorem mo_X6_about : MOK yX6_about mi_X6_about 2 := ⟨gw752, gw669, ⟨by decide, by decide, by decide +kernel⟩, rfl, rfl⟩
theorem mv_X6_about : MOV yX6_about mi_X6_about 2 RX6 := ⟨mo_X6_about, gw753, gw754⟩
abbrev mi_X6_mind : Mi := (cX6_mind, RX6, 5, some .int, { frames := 3, cells := 0, slots := 0, locals := 67 })
theorem mo_X6_mind : MOK yX6_mind mi_X6_mind 3 := ⟨gw755, gw669, ⟨by decide, by decide, by decide +kernel⟩, rfl, rfl⟩
theorem mv_X6_mind : MOV yX6_mind mi_X6_mind 3 RX6 := ⟨mo_X6_mind, gw756, gw757⟩
abbrev mi_X6_helps : Mi := (cX6_helps, RX6, 4, none, { frames := 2, cells := 0, slots := 0, locals := 43 })
theorem mo_X6_helps : MOK yX6_helps mi_X6_helps 2 := ⟨gw758, gw669, ⟨by decide, by decide, by decide +kernel⟩, rfl, rfl⟩
theorem mv_X6_helps : MOV yX6_helps mi_X6_helps 2 RX6 := ⟨mo_X6_helps, gw759, gw760⟩
abbrev mi_X6_drink : Mi := (cX6_drink, RX6, 4, some .int, { frames := 3, cells := 0, slots := 0, locals := 66 })
theorem mo_X6_drink : MOK yX6_drink mi_X6_drink 2 := ⟨gw761, gw669, ⟨by decide, by decide, by decide +kernel⟩, rfl, rfl⟩
theorem mv_X6_drink : MOV yX6_drink mi_X6_drink 2 RX6 := ⟨mo_X6_drink, gw762, gw763⟩
abbrev mi_X6_bathes : Mi := (cX6_bathes, RX6, 2, none, { frames := 4, cells := 0, slots := 0, locals := 91 })
theorem mo_X6_bathes : MOK yX6_bathes mi_X6_bathes 1 := ⟨gw764, gw669, ⟨by decide, by decide, by decide +kernel⟩, rfl, rfl⟩
theorem mv_X6_bathes : MOV yX6_bathes mi_X6_bathes 1 RX6 := ⟨mo_X6_bathes, gw765, gw766⟩
abbrev mi_X6_bathe : Mi := (cX6_bathe, RX6, 2, some .int, { frames := 5, cells := 0, slots := 0, locals := 112 })
theorem mo_X6_bathe : MOK yX6_bathe mi_X6_bathe 1 := ⟨gw767, gw669, ⟨by decide, by decide, by decide +kernel⟩, rfl, rfl⟩
theorem mv_X6_bathe : MOV yX6_bathe mi_X6_bathe 1 RX6 := ⟨mo_X6_bathe, gw768, gw769⟩
abbrev mi_X6_day : Mi := (cX6_day, RX6, 3, none, { frames := 5, cells := 0, slots := 0, locals := 112 })
theorem mo_X6_day : MOK yX6_day mi_X6_day 0 := ⟨gw770, gw669, ⟨by decide, by decide, by decide +kernel⟩, rfl, rfl⟩
theorem mv_X6_day : MOV yX6_day mi_X6_day 0 RX6 := ⟨mo_X6_day, gw771, gw772⟩
abbrev mi_X6_goesOn : Mi := (cX6_goesOn, RX6, 3, none, { frames := 6, cells := 0, slots := 0, locals := 134 })
theorem mo_X6_goesOn : MOK yX6_goesOn mi_X6_goesOn 1 := ⟨gw773, gw669, ⟨by decide, by decide, by decide +kernel⟩, rfl, rfl⟩
theorem mv_X6_goesOn : MOV yX6_goesOn mi_X6_goesOn 1 RX6 := ⟨mo_X6_goesOn, gw774, gw775⟩
abbrev mi_X6_wellOnes : Mi := (cX6_wellOnes, RX6, 3, some .int, { frames := 2, cells := 0, slots := 0, locals := 43 })
theorem mo_X6_wellOnes : MOK yX6_wellOnes mi_X6_wellOnes 0 := ⟨gw776, gw669, ⟨by decide, by decide, by decide +kernel⟩, rfl, rfl⟩
theorem mv_X6_wellOnes : MOV yX6_wellOnes mi_X6_wellOnes 0 RX6 := ⟨mo_X6_wellOnes, gw777, gw778⟩
abbrev mi_X6_ones : Mi := (cX6_ones, RX6, 3, some .int, { frames := 0, cells := 0, slots := 0, locals := 0 })
theorem mo_X6_ones : MOK yX6_ones mi_X6_ones 1 := ⟨gw779, gw669, ⟨by decide, by decide, by decide +kernel⟩, rfl, rfl⟩
abbrev mi_X6_days : Mi := (cX6_days, RX6, 2, some .int, { frames := 7, cells := 0, slots := 0, locals := 156 })
theorem mo_X6_days : MOK yX6_days mi_X6_days 1 := ⟨gw780, gw669, ⟨by decide, by decide, by decide +kernel⟩, rfl, rfl⟩
theorem mv_X6_days : MOV yX6_days mi_X6_days 1 RX6 := ⟨mo_X6_days, gw781, gw782⟩
abbrev mi_X6_together : Mi := (cX6_together, RX6, 4, some .int, { frames := 2, cells := 0, slots := 0, locals := 43 })
theorem mo_X6_together : MOK yX6_together mi_X6_together 1 := ⟨gw783, gw669, ⟨by decide, by decide, by decide +kernel⟩, rfl, rfl⟩
theorem mv_X6_together : MOV yX6_together mi_X6_together 1 RX6 := ⟨mo_X6_together, gw784, gw785⟩
abbrev mi_X6_now : Mi := (cX6_now, RX6, 2, some .int, { frames := 3, cells := 0, slots := 0, locals := 66 })
theorem mo_X6_now : MOK yX6_now mi_X6_now 1 := ⟨gw786, gw669, ⟨by decide, by decide, by decide +kernel⟩, rfl, rfl⟩
theorem mv_X6_now : MOV yX6_now mi_X6_now 1 RX6 := ⟨mo_X6_now, gw787, gw788⟩
abbrev mi_X6_on : Mi := (cX6_on, RX6, 4, some .int, { frames := 7, cells := 0, slots := 0, locals := 156 })
theorem mo_X6_on : MOK yX6_on mi_X6_on 3 := ⟨gw789, gw669, ⟨by decide, by decide, by decide +kernel⟩, rfl, rfl⟩
theorem mv_X6_on : MOV yX6_on mi_X6_on 3 RX6 := ⟨mo_X6_on, gw790, gw791⟩
abbrev mi_X6_wellIn : Mi := (cX6_wellIn, RX6, 3, some .int, { frames := 6, cells := 0, slots := 0, locals := 134 })
theorem mo_X6_wellIn : MOK yX6_wellIn mi_X6_wellIn 1 := ⟨gw792, gw669, ⟨by decide, by decide, by decide +kernel⟩, rfl, rfl⟩
theorem mv_X6_wellIn : MOV yX6_wellIn mi_X6_wellIn 1 RX6 := ⟨mo_X6_wellIn, gw793, gw794⟩
abbrev mi_X6_well : Mi := (cX6_well, RX6, 3, some .int, { frames := 7, cells := 0, slots := 0, locals := 156 })
theorem mo_X6_well : MOK yX6_well mi_X6_well 1 := ⟨gw795, gw669, ⟨by decide, by decide, by decide +kernel⟩, rfl, rfl⟩
theorem mv_X6_well : MOV yX6_well mi_X6_well 1 RX6 := ⟨mo_X6_well, gw796, gw797⟩
abbrev mi_X6_next : Mi := (cX6_next, RX6, 3, some .int, { frames := 4, cells := 0, slots := 0, locals := 91 })
theorem mo_X6_next : MOK yX6_next mi_X6_next 1 := ⟨gw798, gw669, ⟨by decide, by decide, by decide +kernel⟩, rfl, rfl⟩
theorem mv_X6_next : MOV yX6_next mi_X6_next 1 RX6 := ⟨mo_X6_next, gw799, gw800⟩
abbrev mi_X6_isAgreed : Mi := (cX6_isAgreed, RX6, 4, some .boolean, { frames := 4, cells := 0, slots := 0, locals := 91 })
theorem mo_X6_isAgreed : MOK yX6_isAgreed mi_X6_isAgreed 3 := ⟨gw801, gw669, ⟨by decide, by decide, by decide +kernel⟩, rfl, rfl⟩
theorem mv_X6_isAgreed : MOV yX6_isAgreed mi_X6_isAgreed 3 RX6 := ⟨mo_X6_isAgreed, gw802, gw803⟩
abbrev mi_X6_agreed : Mi := (cX6_agreed, RX6, 6, some .int, { frames := 5, cells := 0, slots := 0, locals := 114 })
theorem mo_X6_agreed : MOK yX6_agreed mi_X6_agreed 3 := ⟨gw804, gw669, ⟨by decide, by decide, by decide +kernel⟩, rfl, rfl⟩
theorem mv_X6_agreed : MOV yX6_agreed mi_X6_agreed 3 RX6 := ⟨mo_X6_agreed, gw805, gw806⟩
abbrev mi_X6_agree : Mi := (cX6_agree, RX6, 4, some .int, { frames := 6, cells := 0, slots := 0, locals := 139 })
theorem mo_X6_agree : MOK yX6_agree mi_X6_agree 3 := ⟨gw807, gw669, ⟨by decide, by decide, by decide +kernel⟩, rfl, rfl⟩
theorem mv_X6_agree : MOV yX6_agree mi_X6_agree 3 RX6 := ⟨mo_X6_agree, gw808, gw809⟩
abbrev mi_X6_row : Mi := (cX6_row, RX6, 7, some .int, { frames := 5, cells := 0, slots := 0, locals := 114 })
theorem mo_X6_row : MOK yX6_row mi_X6_row 3 := ⟨gw810, gw669, ⟨by decide, by decide, by decide +kernel⟩, rfl, rfl⟩
theorem mv_X6_row : MOV yX6_row mi_X6_row 3 RX6 := ⟨mo_X6_row, gw811, gw812⟩
abbrev mi_X6_holyBy : Mi := (cX6_holyBy, RX6, 4, some .int, { frames := 4, cells := 0, slots := 0, locals := 91 })
theorem mo_X6_holyBy : MOK yX6_holyBy mi_X6_holyBy 1 := ⟨gw813, gw669, ⟨by decide, by decide, by decide +kernel⟩, rfl, rfl⟩
theorem mv_X6_holyBy : MOV yX6_holyBy mi_X6_holyBy 1 RX6 := ⟨mo_X6_holyBy, gw814, gw815⟩
abbrev mi_X6_meet : Mi := (cX6_meet, RX6, 3, some .int, { frames := 5, cells := 0, slots := 0, locals := 114 })
theorem mo_X6_meet : MOK yX6_meet mi_X6_meet 1 := ⟨gw816, gw669, ⟨by decide, by decide, by decide +kernel⟩, rfl, rfl⟩
theorem mv_X6_meet : MOV yX6_meet mi_X6_meet 1 RX6 := ⟨mo_X6_meet, gw817, gw818⟩
abbrev mi_X6_isDate : Mi := (cX6_isDate, RX6, 1, some .boolean, { frames := 1, cells := 0, slots := 0, locals := 25 })
theorem mo_X6_isDate : MOK yX6_isDate mi_X6_isDate 1 := ⟨gw819, gw669, ⟨by decide, by decide, by decide +kernel⟩, rfl, rfl⟩
abbrev mi_X6_both : Mi := (cX6_both, RX6, 6, some .int, { frames := 3, cells := 0, slots := 0, locals := 68 })
theorem mo_X6_both : MOK yX6_both mi_X6_both 4 := ⟨gw820, gw669, ⟨by decide, by decide, by decide +kernel⟩, rfl, rfl⟩
theorem mv_X6_both : MOV yX6_both mi_X6_both 4 RX6 := ⟨mo_X6_both, gw821, gw822⟩
abbrev mi_X6_trust : Mi := (cX6_trust, RX6, 8, some .int, { frames := 7, cells := 0, slots := 0, locals := 156 })
theorem mo_X6_trust : MOK yX6_trust mi_X6_trust 1 := ⟨gw823, gw669, ⟨by decide, by decide, by decide +kernel⟩, rfl, rfl⟩
theorem mv_X6_trust : MOV yX6_trust mi_X6_trust 1 RX6 := ⟨mo_X6_trust, gw824, gw825⟩
abbrev mi_X6_truth : Mi := (cX6_truth, RX6, 7, some .int, { frames := 7, cells := 0, slots := 0, locals := 156 })
theorem mo_X6_truth : MOK yX6_truth mi_X6_truth 1 := ⟨gw826, gw669, ⟨by decide, by decide, by decide +kernel⟩, rfl, rfl⟩
theorem mv_X6_truth : MOV yX6_truth mi_X6_truth 1 RX6 := ⟨mo_X6_truth, gw827, gw828⟩
abbrev mi_X6_cure : Mi := (cX6_cure, RX6, 4, some .int, { frames := 4, cells := 0, slots := 0, locals := 91 })
theorem mo_X6_cure : MOK yX6_cure mi_X6_cure 1 := ⟨gw829, gw669, ⟨by decide, by decide, by decide +kernel⟩, rfl, rfl⟩
theorem mv_X6_cure : MOV yX6_cure mi_X6_cure 1 RX6 := ⟨mo_X6_cure, gw830, gw831⟩
abbrev mi_X6_mostAgreed : Mi := (cX6_mostAgreed, RX6, 11, some .int, { frames := 6, cells := 0, slots := 0, locals := 139 })
theorem mo_X6_mostAgreed : MOK yX6_mostAgreed mi_X6_mostAgreed 4 := ⟨gw832, gw669, ⟨by decide, by decide, by decide +kernel⟩, rfl, rfl⟩
theorem mv_X6_mostAgreed : MOV yX6_mostAgreed mi_X6_mostAgreed 4 RX6 := ⟨mo_X6_mostAgreed, gw833, gw834⟩
abbrev mi_X6_kind : Mi := (cX6_kind, RX6, 3, some .int, { frames := 7, cells := 0, slots := 0, locals := 169 })
theorem mo_X6_kind : MOK yX6_kind mi_X6_kind 2 := ⟨gw835, gw669, ⟨by decide, by decide, by decide +kernel⟩, rfl, rfl⟩
theorem mv_X6_kind : MOV yX6_kind mi_X6_kind 2 RX6 := ⟨mo_X6_kind, gw836, gw837⟩
abbrev mi_X6_begin : Mi := (cX6_begin, RX6, 3, some .int, { frames := 7, cells := 0, slots := 0, locals := 169 })
theorem mo_X6_begin : MOK yX6_begin mi_X6_begin 2 := ⟨gw838, gw669, ⟨by decide, by decide, by decide +kernel⟩, rfl, rfl⟩
theorem mv_X6_begin : MOV yX6_begin mi_X6_begin 2 RX6 := ⟨mo_X6_begin, gw839, gw840⟩
abbrev mi_X6_power : Mi := (cX6_power, RX6, 7, some .int, { frames := 7, cells := 0, slots := 0, locals := 156 })
theorem mo_X6_power : MOK yX6_power mi_X6_power 1 := ⟨gw841, gw669, ⟨by decide, by decide, by decide +kernel⟩, rfl, rfl⟩
theorem mv_X6_power : MOV yX6_power mi_X6_power 1 RX6 := ⟨mo_X6_power, gw842, gw843⟩
abbrev mi_X6_feed : Mi := (cX6_feed, RX6, 4, some .int, { frames := 1, cells := 0, slots := 0, locals := 25 })
theorem mo_X6_feed : MOK yX6_feed mi_X6_feed 2 := ⟨gw844, gw669, ⟨by decide, by decide, by decide +kernel⟩, rfl, rfl⟩
theorem mv_X6_feed : MOV yX6_feed mi_X6_feed 2 RX6 := ⟨mo_X6_feed, gw845, gw846⟩
abbrev mi_X6_wipe : Mi := (cX6_wipe, RX6, 2, some .int, { frames := 0, cells := 0, slots := 0, locals := 0 })
theorem mo_X6_wipe : MOK yX6_wipe mi_X6_wipe 0 := ⟨gw847, gw669, ⟨by decide, by decide, by decide +kernel⟩, rfl, rfl⟩
theorem mv_X6_wipe : MOV yX6_wipe mi_X6_wipe 0 RX6 := ⟨mo_X6_wipe, gw848, gw849⟩
abbrev mi_X6_byteAt : Mi := (cX6_byteAt, RX6, 2, some .int, { frames := 0, cells := 0, slots := 0, locals := 0 })
theorem mo_X6_byteAt : MOK yX6_byteAt mi_X6_byteAt 1 := ⟨gw850, gw669, ⟨by decide, by decide, by decide +kernel⟩, rfl, rfl⟩
theorem mv_X6_byteAt : MOV yX6_byteAt mi_X6_byteAt 1 RX6 := ⟨mo_X6_byteAt, gw851, gw852⟩
abbrev mi_X6_isLetter : Mi := (cX6_isLetter, RX6, 1, some .boolean, { frames := 1, cells := 0, slots := 0, locals := 25 })
theorem mo_X6_isLetter : MOK yX6_isLetter mi_X6_isLetter 1 := ⟨gw853, gw669, ⟨by decide, by decide, by decide +kernel⟩, rfl, rfl⟩
abbrev mi_X6_isDigit : Mi := (cX6_isDigit, RX6, 1, some .boolean, { frames := 1, cells := 0, slots := 0, locals := 25 })
theorem mo_X6_isDigit : MOK yX6_isDigit mi_X6_isDigit 1 := ⟨gw854, gw669, ⟨by decide, by decide, by decide +kernel⟩, rfl, rfl⟩
abbrev mi_X6_token : Mi := (cX6_token, RX6, 3, none, { frames := 2, cells := 0, slots := 0, locals := 45 })
theorem mo_X6_token : MOK yX6_token mi_X6_token 0 := ⟨gw855, gw669, ⟨by decide, by decide, by decide +kernel⟩, rfl, rfl⟩
theorem mv_X6_token : MOV yX6_token mi_X6_token 0 RX6 := ⟨mo_X6_token, gw856, gw857⟩
abbrev mi_X6_must : Mi := (cX6_must, RX6, 2, none, { frames := 3, cells := 0, slots := 0, locals := 67 })
theorem mo_X6_must : MOK yX6_must mi_X6_must 1 := ⟨gw858, gw669, ⟨by decide, by decide, by decide +kernel⟩, rfl, rfl⟩
theorem mv_X6_must : MOV yX6_must mi_X6_must 1 RX6 := ⟨mo_X6_must, gw859, gw860⟩
abbrev mi_X6_word : Mi := (cX6_word, RX6, 4, some .long, { frames := 2, cells := 0, slots := 0, locals := 45 })
theorem mo_X6_word : MOK yX6_word mi_X6_word 0 := ⟨gw861, gw669, ⟨by decide, by decide, by decide +kernel⟩, rfl, rfl⟩
theorem mv_X6_word : MOV yX6_word mi_X6_word 0 RX6 := ⟨mo_X6_word, gw862, gw863⟩
abbrev mi_X6_number : Mi := (cX6_number, RX6, 6, none, { frames := 4, cells := 0, slots := 0, locals := 88 })
theorem mo_X6_number : MOK yX6_number mi_X6_number 2 := ⟨gw864, gw669, ⟨by decide, by decide, by decide +kernel⟩, rfl, rfl⟩
theorem mv_X6_number : MOV yX6_number mi_X6_number 2 RX6 := ⟨mo_X6_number, gw865, gw866⟩
abbrev mi_X6_kindHere : Mi := (cX6_kindHere, RX6, 3, some .int, { frames := 3, cells := 0, slots := 0, locals := 68 })
theorem mo_X6_kindHere : MOK yX6_kindHere mi_X6_kindHere 0 := ⟨gw867, gw669, ⟨by decide, by decide, by decide +kernel⟩, rfl, rfl⟩
theorem mv_X6_kindHere : MOV yX6_kindHere mi_X6_kindHere 0 RX6 := ⟨mo_X6_kindHere, gw868, gw869⟩
abbrev mi_X6_partItem : Mi := (cX6_partItem, RX6, 7, none, { frames := 5, cells := 0, slots := 0, locals := 113 })
theorem mo_X6_partItem : MOK yX6_partItem mi_X6_partItem 4 := ⟨gw870, gw669, ⟨by decide, by decide, by decide +kernel⟩, rfl, rfl⟩
theorem mv_X6_partItem : MOV yX6_partItem mi_X6_partItem 4 RX6 := ⟨mo_X6_partItem, gw871, gw872⟩
abbrev mi_X6_calendarItem : Mi := (cX6_calendarItem, RX6, 3, none, { frames := 6, cells := 0, slots := 0, locals := 139 })
theorem mo_X6_calendarItem : MOK yX6_calendarItem mi_X6_calendarItem 1 := ⟨gw873, gw669, ⟨by decide, by decide, by decide +kernel⟩, rfl, rfl⟩
theorem mv_X6_calendarItem : MOV yX6_calendarItem mi_X6_calendarItem 1 RX6 := ⟨mo_X6_calendarItem, gw874, gw875⟩
abbrev mi_X6_pilgrimItem : Mi := (cX6_pilgrimItem, RX6, 4, none, { frames := 5, cells := 0, slots := 0, locals := 113 })
theorem mo_X6_pilgrimItem : MOK yX6_pilgrimItem mi_X6_pilgrimItem 0 := ⟨gw876, gw669, ⟨by decide, by decide, by decide +kernel⟩, rfl, rfl⟩
theorem mv_X6_pilgrimItem : MOV yX6_pilgrimItem mi_X6_pilgrimItem 0 RX6 := ⟨mo_X6_pilgrimItem, gw877, gw878⟩
abbrev mi_X6_item : Mi := (cX6_item, RX6, 6, none, { frames := 7, cells := 0, slots := 0, locals := 161 })
theorem mo_X6_item : MOK yX6_item mi_X6_item 0 := ⟨gw879, gw669, ⟨by decide, by decide, by decide +kernel⟩, rfl, rfl⟩
theorem mv_X6_item : MOV yX6_item mi_X6_item 0 RX6 := ⟨mo_X6_item, gw880, gw881⟩
abbrev mi_X6_spring : Mi := (cX6_spring, RX6, 2, some .int, { frames := 8, cells := 0, slots := 0, locals := 186 })
theorem mo_X6_spring : MOK yX6_spring mi_X6_spring 0 := ⟨gw882, gw669, ⟨by decide, by decide, by decide +kernel⟩, rfl, rfl⟩
theorem mv_X6_spring : MOV yX6_spring mi_X6_spring 0 RX6 := ⟨mo_X6_spring, gw883, gw884⟩
abbrev mi_X6_isOne : Mi := (cX6_isOne, RX6, 1, some .boolean, { frames := 1, cells := 0, slots := 0, locals := 25 })
theorem mo_X6_isOne : MOK yX6_isOne mi_X6_isOne 1 := ⟨gw885, gw669, ⟨by decide, by decide, by decide +kernel⟩, rfl, rfl⟩
abbrev mi_X6_sheet : Mi := (cX6_sheet, RX6, 5, some .int, { frames := 2, cells := 0, slots := 0, locals := 45 })
theorem mo_X6_sheet : MOK yX6_sheet mi_X6_sheet 3 := ⟨gw886, gw669, ⟨by decide, by decide, by decide +kernel⟩, rfl, rfl⟩
theorem mv_X6_sheet : MOV yX6_sheet mi_X6_sheet 3 RX6 := ⟨mo_X6_sheet, gw887, gw888⟩
abbrev mi_X6_narrowed : Mi := (cX6_narrowed, RX6, 3, some .long, { frames := 0, cells := 0, slots := 0, locals := 0 })
theorem mo_X6_narrowed : MOK yX6_narrowed mi_X6_narrowed 2 := ⟨gw889, gw669, ⟨by decide, by decide, by decide +kernel⟩, rfl, rfl⟩
abbrev mi_X6_wrongSheet : Mi := (cX6_wrongSheet, RX6, 2, some .int, { frames := 2, cells := 0, slots := 0, locals := 45 })
theorem mo_X6_wrongSheet : MOK yX6_wrongSheet mi_X6_wrongSheet 1 := ⟨gw890, gw669, ⟨by decide, by decide, by decide +kernel⟩, rfl, rfl⟩
theorem mv_X6_wrongSheet : MOV yX6_wrongSheet mi_X6_wrongSheet 1 RX6 := ⟨mo_X6_wrongSheet, gw891, gw892⟩
abbrev mi_X6_write : Mi := (cX6_write, RX6, 8, some .long, { frames := 3, cells := 0, slots := 0, locals := 66 })
theorem mo_X6_write : MOK yX6_write mi_X6_write 3 := ⟨gw893, gw669, ⟨by decide, by decide, by decide +kernel⟩, rfl, rfl⟩
theorem mv_X6_write : MOV yX6_write mi_X6_write 3 RX6 := ⟨mo_X6_write, gw894, gw895⟩
abbrev mi_X6_copy : Mi := (cX6_copy, RX6, 7, some .int, { frames := 2, cells := 0, slots := 0, locals := 45 })
theorem mo_X6_copy : MOK yX6_copy mi_X6_copy 5 := ⟨gw896, gw669, ⟨by decide, by decide, by decide +kernel⟩, rfl, rfl⟩
theorem mv_X6_copy : MOV yX6_copy mi_X6_copy 5 RX6 := ⟨mo_X6_copy, gw897, gw898⟩
abbrev mi_X6_lays : Mi := (cX6_lays, RX6, 6, some .int, { frames := 3, cells := 0, slots := 0, locals := 66 })
theorem mo_X6_lays : MOK yX6_lays mi_X6_lays 1 := ⟨gw899, gw669, ⟨by decide, by decide, by decide +kernel⟩, rfl, rfl⟩
theorem mv_X6_lays : MOV yX6_lays mi_X6_lays 1 RX6 := ⟨mo_X6_lays, gw900, gw901⟩
abbrev mi_X6_wrongBook : Mi := (cX6_wrongBook, RX6, 4, some .int, { frames := 3, cells := 0, slots := 0, locals := 66 })
theorem mo_X6_wrongBook : MOK yX6_wrongBook mi_X6_wrongBook 2 := ⟨gw902, gw669, ⟨by decide, by decide, by decide +kernel⟩, rfl, rfl⟩
theorem mv_X6_wrongBook : MOV yX6_wrongBook mi_X6_wrongBook 2 RX6 := ⟨mo_X6_wrongBook, gw903, gw904⟩
abbrev mi_X6_book : Mi := (cX6_book, RX6, 5, some .int, { frames := 6, cells := 0, slots := 0, locals := 134 })
theorem mo_X6_book : MOK yX6_book mi_X6_book 2 := ⟨gw905, gw669, ⟨by decide, by decide, by decide +kernel⟩, rfl, rfl⟩
theorem mv_X6_book : MOV yX6_book mi_X6_book 2 RX6 := ⟨mo_X6_book, gw906, gw907⟩
abbrev mi_X6_isBook : Mi := (cX6_isBook, RX6, 4, some .boolean, { frames := 6, cells := 0, slots := 0, locals := 134 })
theorem mo_X6_isBook : MOK yX6_isBook mi_X6_isBook 2 := ⟨gw908, gw669, ⟨by decide, by decide, by decide +kernel⟩, rfl, rfl⟩
theorem mv_X6_isBook : MOV yX6_isBook mi_X6_isBook 2 RX6 := ⟨mo_X6_isBook, gw909, gw910⟩
abbrev mi_X6_read : Mi := (cX6_read, RX6, 7, some .int, { frames := 7, cells := 0, slots := 0, locals := 157 })
theorem mo_X6_read : MOK yX6_read mi_X6_read 2 := ⟨gw911, gw669, ⟨by decide, by decide, by decide +kernel⟩, rfl, rfl⟩
theorem mv_X6_read : MOV yX6_read mi_X6_read 2 RX6 := ⟨mo_X6_read, gw912, gw913⟩
abbrev mi_X6_image : Mi := (cX6_image, RX6, 2, some .int, { frames := 0, cells := 0, slots := 0, locals := 0 })
theorem mo_X6_image : MOK yX6_image mi_X6_image 0 := ⟨gw914, gw669, ⟨by decide, by decide, by decide +kernel⟩, rfl, rfl⟩
theorem mv_X6_image : MOV yX6_image mi_X6_image 0 RX6 := ⟨mo_X6_image, gw915, gw916⟩
abbrev mi_X6_undo : Mi := (cX6_undo, RX6, 2, some .int, { frames := 1, cells := 0, slots := 0, locals := 21 })
theorem mo_X6_undo : MOK yX6_undo mi_X6_undo 0 := ⟨gw917, gw669, ⟨by decide, by decide, by decide +kernel⟩, rfl, rfl⟩
theorem mv_X6_undo : MOV yX6_undo mi_X6_undo 0 RX6 := ⟨mo_X6_undo, gw918, gw919⟩
abbrev mi_X6_tear : Mi := (cX6_tear, RX6, 2, some .int, { frames := 0, cells := 0, slots := 0, locals := 0 })
theorem mo_X6_tear : MOK yX6_tear mi_X6_tear 0 := ⟨gw920, gw669, ⟨by decide, by decide, by decide +kernel⟩, rfl, rfl⟩
theorem mv_X6_tear : MOV yX6_tear mi_X6_tear 0 RX6 := ⟨mo_X6_tear, gw921, gw922⟩
abbrev mi_X6_count : Mi := (cX6_count, RX6, 2, some .int, { frames := 3, cells := 0, slots := 0, locals := 66 })
theorem mo_X6_count : MOK yX6_count mi_X6_count 1 := ⟨gw923, gw669, ⟨by decide, by decide, by decide +kernel⟩, rfl, rfl⟩
theorem mv_X6_count : MOV yX6_count mi_X6_count 1 RX6 := ⟨mo_X6_count, gw924, gw925⟩
abbrev mi_X6_status : Mi := (cX6_status, RX6, 4, some .int, { frames := 1, cells := 0, slots := 0, locals := 25 })
theorem mo_X6_status : MOK yX6_status mi_X6_status 1 := ⟨gw926, gw669, ⟨by decide, by decide, by decide +kernel⟩, rfl, rfl⟩
theorem mv_X6_status : MOV yX6_status mi_X6_status 1 RX6 := ⟨mo_X6_status, gw927, gw928⟩
