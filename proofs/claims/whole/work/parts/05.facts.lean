abbrev cX11_end : ByteArray := prog_1_method_3_code
def yX11_end : MethodName := ⟨RX11, "end", "(I)Z"⟩
abbrev cX11_fault : ByteArray := prog_1_method_5_code
def yX11_fault : MethodName := ⟨RX11, "fault", "()I"⟩
abbrev cX11_spareAt : ByteArray := prog_1_method_21_code
def yX11_spareAt : MethodName := ⟨RX11, "spareAt", "()I"⟩
abbrev cX11_ask : ByteArray := prog_1_method_25_code
def yX11_ask : MethodName := ⟨RX11, "ask", "()I"⟩
abbrev cX11_longestAt : ByteArray := prog_1_method_27_code
def yX11_longestAt : MethodName := ⟨RX11, "longestAt", "(I)I"⟩
abbrev cX11_told : ByteArray := prog_1_method_33_code
def yX11_told : MethodName := ⟨RX11, "told", "(I)I"⟩
abbrev cX11_count : ByteArray := prog_1_method_38_code
def yX11_count : MethodName := ⟨RX11, "count", "(I)I"⟩
abbrev cX11_closeTape : ByteArray := prog_1_method_39_code
def yX11_closeTape : MethodName := ⟨RX11, "closeTape", "()Z"⟩
abbrev cX11_placeOfBit : ByteArray := prog_1_method_44_code
def yX11_placeOfBit : MethodName := ⟨RX11, "placeOfBit", "(II)I"⟩
abbrev cX11_copyRow : ByteArray := prog_1_method_45_code
def yX11_copyRow : MethodName := ⟨RX11, "copyRow", "([I[I)V"⟩
abbrev cX11_copyNames : ByteArray := prog_1_method_46_code
def yX11_copyNames : MethodName := ⟨RX11, "copyNames", "([J[J)V"⟩
abbrev cX12_thrown : ByteArray := prog_14_method_1_code
def yX12_thrown : MethodName := ⟨RX12, "thrown", "()I"⟩
abbrev cX12_refuse : ByteArray := prog_14_method_2_code
def yX12_refuse : MethodName := ⟨RX12, "refuse", "()I"⟩
abbrev cX12_come : ByteArray := prog_14_method_3_code
def yX12_come : MethodName := ⟨RX12, "come", "(I)V"⟩
abbrev cX12_feed : ByteArray := prog_14_method_4_code
def yX12_feed : MethodName := ⟨RX12, "feed", "(IIIII)I"⟩
abbrev cX12_end : ByteArray := prog_14_method_5_code
def yX12_end : MethodName := ⟨RX12, "end", "(I)Z"⟩
abbrev cX12_take : ByteArray := prog_14_method_6_code
def yX12_take : MethodName := ⟨RX12, "take", "()I"⟩
abbrev cX12_isIn : ByteArray := prog_14_method_7_code
def yX12_isIn : MethodName := ⟨RX12, "isIn", "(III)Z"⟩
abbrev cX12_has : ByteArray := prog_14_method_8_code
def yX12_has : MethodName := ⟨RX12, "has", "(II)Z"⟩
abbrev cX12_bits : ByteArray := prog_14_method_9_code
def yX12_bits : MethodName := ⟨RX12, "bits", "(I)I"⟩
abbrev cX12_least : ByteArray := prog_14_method_10_code
def yX12_least : MethodName := ⟨RX12, "least", "(II)I"⟩
abbrev cX12_tapeAt : ByteArray := prog_14_method_13_code
def yX12_tapeAt : MethodName := ⟨RX12, "tapeAt", "(I)I"⟩
abbrev cX12_isDigit : ByteArray := prog_14_method_14_code
def yX12_isDigit : MethodName := ⟨RX12, "isDigit", "(I)Z"⟩
abbrev cX12_isLetter : ByteArray := prog_14_method_15_code
def yX12_isLetter : MethodName := ⟨RX12, "isLetter", "(I)Z"⟩
abbrev cX12_go : ByteArray := prog_14_method_16_code
def yX12_go : MethodName := ⟨RX12, "go", "()V"⟩
abbrev cX12_spelt : ByteArray := prog_14_method_17_code
def yX12_spelt : MethodName := ⟨RX12, "spelt", "(IIIIII)J"⟩
abbrev cX12_wordOf : ByteArray := prog_14_method_18_code
def yX12_wordOf : MethodName := ⟨RX12, "wordOf", "(I)J"⟩
abbrev cX12_isWord : ByteArray := prog_14_method_19_code
def yX12_isWord : MethodName := ⟨RX12, "isWord", "(I)Z"⟩
abbrev cX12_isSign : ByteArray := prog_14_method_20_code
def yX12_isSign : MethodName := ⟨RX12, "isSign", "(I)Z"⟩
abbrev cX12_isName : ByteArray := prog_14_method_21_code
def yX12_isName : MethodName := ⟨RX12, "isName", "()Z"⟩
abbrev cX12_bad : ByteArray := prog_14_method_22_code
def yX12_bad : MethodName := ⟨RX12, "bad", "(I)Z"⟩
abbrev cX12_readNumber : ByteArray := prog_14_method_23_code
def yX12_readNumber : MethodName := ⟨RX12, "readNumber", "(II)Z"⟩
abbrev cX12_readEnd : ByteArray := prog_14_method_24_code
def yX12_readEnd : MethodName := ⟨RX12, "readEnd", "()Z"⟩
abbrev cX12_begin : ByteArray := prog_14_method_25_code
def yX12_begin : MethodName := ⟨RX12, "begin", "(I)V"⟩
abbrev cX12_startSo : ByteArray := prog_14_method_27_code
def yX12_startSo : MethodName := ⟨RX12, "startSo", "()V"⟩
abbrev cX12_findIn : ByteArray := prog_14_method_28_code
def yX12_findIn : MethodName := ⟨RX12, "findIn", "([JIIJ)I"⟩
abbrev cX12_readNew : ByteArray := prog_14_method_29_code
def yX12_readNew : MethodName := ⟨RX12, "readNew", "(I)Z"⟩
abbrev cX12_readFirst : ByteArray := prog_14_method_30_code
def yX12_readFirst : MethodName := ⟨RX12, "readFirst", "(II)Z"⟩
abbrev cX12_put : ByteArray := prog_14_method_31_code
def yX12_put : MethodName := ⟨RX12, "put", "(IZ)Z"⟩
abbrev cX12_readSide : ByteArray := prog_14_method_32_code
def yX12_readSide : MethodName := ⟨RX12, "readSide", "()Z"⟩
abbrev cX12_readGround : ByteArray := prog_14_method_33_code
def yX12_readGround : MethodName := ⟨RX12, "readGround", "()Z"⟩
abbrev cX12_isFilled : ByteArray := prog_14_method_34_code
def yX12_isFilled : MethodName := ⟨RX12, "isFilled", "(IZ)Z"⟩
abbrev cX12_readCell : ByteArray := prog_14_method_35_code
def yX12_readCell : MethodName := ⟨RX12, "readCell", "(Z)Z"⟩
abbrev cX12_readStones : ByteArray := prog_14_method_36_code
def yX12_readStones : MethodName := ⟨RX12, "readStones", "()Z"⟩
abbrev cX12_readHouse : ByteArray := prog_14_method_37_code
def yX12_readHouse : MethodName := ⟨RX12, "readHouse", "()Z"⟩
abbrev cX12_readPerson : ByteArray := prog_14_method_38_code
def yX12_readPerson : MethodName := ⟨RX12, "readPerson", "()Z"⟩
abbrev cX12_readSun : ByteArray := prog_14_method_39_code
def yX12_readSun : MethodName := ⟨RX12, "readSun", "()Z"⟩
abbrev cX12_readLine : ByteArray := prog_14_method_40_code
def yX12_readLine : MethodName := ⟨RX12, "readLine", "()Z"⟩
abbrev cX12_island : ByteArray := prog_14_method_41_code
def yX12_island : MethodName := ⟨RX12, "island", "()I"⟩
abbrev cX12_fault : ByteArray := prog_14_method_42_code
def yX12_fault : MethodName := ⟨RX12, "fault", "()I"⟩
abbrev cX12_isCell : ByteArray := prog_14_method_43_code
def yX12_isCell : MethodName := ⟨RX12, "isCell", "(II)Z"⟩
abbrev cX12_isHouse : ByteArray := prog_14_method_44_code
def yX12_isHouse : MethodName := ⟨RX12, "isHouse", "(I)Z"⟩
abbrev cX12_isPerson : ByteArray := prog_14_method_45_code
def yX12_isPerson : MethodName := ⟨RX12, "isPerson", "(I)Z"⟩
abbrev cX12_isSun : ByteArray := prog_14_method_46_code
def yX12_isSun : MethodName := ⟨RX12, "isSun", "(I)Z"⟩
abbrev cX12_isBuried : ByteArray := prog_14_method_47_code
def yX12_isBuried : MethodName := ⟨RX12, "isBuried", "(I)Z"⟩
abbrev cX12_houseAt : ByteArray := prog_14_method_48_code
def yX12_houseAt : MethodName := ⟨RX12, "houseAt", "(I)I"⟩
abbrev cX12_personsAt : ByteArray := prog_14_method_49_code
def yX12_personsAt : MethodName := ⟨RX12, "personsAt", "(I)I"⟩
abbrev cX12_heightOf : ByteArray := prog_14_method_50_code
def yX12_heightOf : MethodName := ⟨RX12, "heightOf", "(I)I"⟩
abbrev cX12_isOpen : ByteArray := prog_14_method_51_code
def yX12_isOpen : MethodName := ⟨RX12, "isOpen", "(I)Z"⟩
abbrev cX12_nextTo : ByteArray := prog_14_method_52_code
def yX12_nextTo : MethodName := ⟨RX12, "nextTo", "(II)I"⟩
abbrev cX12_shadowOf : ByteArray := prog_14_method_53_code
def yX12_shadowOf : MethodName := ⟨RX12, "shadowOf", "(II)J"⟩
abbrev cX12_isCast : ByteArray := prog_14_method_54_code
def yX12_isCast : MethodName := ⟨RX12, "isCast", "(JI)Z"⟩
abbrev cX12_sunNow : ByteArray := prog_14_method_55_code
def yX12_sunNow : MethodName := ⟨RX12, "sunNow", "()I"⟩
abbrev cX12_touchedBy : ByteArray := prog_14_method_56_code
def yX12_touchedBy : MethodName := ⟨RX12, "touchedBy", "(II)I"⟩
abbrev cX12_shadowsOn : ByteArray := prog_14_method_57_code
def yX12_shadowsOn : MethodName := ⟨RX12, "shadowsOn", "(I)I"⟩
abbrev cX12_cell : ByteArray := prog_14_method_58_code
def yX12_cell : MethodName := ⟨RX12, "cell", "(III)I"⟩
abbrev cX12_house : ByteArray := prog_14_method_59_code
def yX12_house : MethodName := ⟨RX12, "house", "(II)I"⟩
abbrev cX12_sum : ByteArray := prog_14_method_61_code
def yX12_sum : MethodName := ⟨RX12, "sum", "(II)I"⟩
abbrev cX12_now : ByteArray := prog_14_method_62_code
def yX12_now : MethodName := ⟨RX12, "now", "(I)I"⟩
abbrev cX12_snap : ByteArray := prog_14_method_63_code
def yX12_snap : MethodName := ⟨RX12, "snap", "()V"⟩
abbrev cX12_whyGo : ByteArray := prog_14_method_64_code
def yX12_whyGo : MethodName := ⟨RX12, "whyGo", "(II)I"⟩
abbrev cX12_whyLay : ByteArray := prog_14_method_65_code
def yX12_whyLay : MethodName := ⟨RX12, "whyLay", "(I)I"⟩
abbrev cX12_why : ByteArray := prog_14_method_66_code
def yX12_why : MethodName := ⟨RX12, "why", "(III)I"⟩
abbrev cX12_doBury : ByteArray := prog_14_method_67_code
def yX12_doBury : MethodName := ⟨RX12, "doBury", "(I)V"⟩
abbrev cX12_live : ByteArray := prog_14_method_68_code
def yX12_live : MethodName := ⟨RX12, "live", "(III)V"⟩
abbrev cX12_act : ByteArray := prog_14_method_69_code
def yX12_act : MethodName := ⟨RX12, "act", "(IIIZ)I"⟩
abbrev cX12_go_ : ByteArray := prog_14_method_70_code
def yX12_go_ : MethodName := ⟨RX12, "go", "(II)I"⟩
abbrev cX12_lay : ByteArray := prog_14_method_71_code
def yX12_lay : MethodName := ⟨RX12, "lay", "(II)I"⟩
abbrev cX12_tear : ByteArray := prog_14_method_72_code
def yX12_tear : MethodName := ⟨RX12, "tear", "(II)I"⟩
abbrev cX12_bury : ByteArray := prog_14_method_73_code
def yX12_bury : MethodName := ⟨RX12, "bury", "(I)I"⟩
abbrev cX12_undo : ByteArray := prog_14_method_74_code
def yX12_undo : MethodName := ⟨RX12, "undo", "()I"⟩
abbrev cX12_passHours : ByteArray := prog_14_method_75_code
def yX12_passHours : MethodName := ⟨RX12, "passHours", "(I)I"⟩
abbrev cX12_hours : ByteArray := prog_14_method_76_code
def yX12_hours : MethodName := ⟨RX12, "hours", "(I)I"⟩
abbrev cX12_shadow : ByteArray := prog_14_method_77_code
def yX12_shadow : MethodName := ⟨RX12, "shadow", "(II)I"⟩
abbrev cX12_heirs : ByteArray := prog_14_method_78_code
def yX12_heirs : MethodName := ⟨RX12, "heirs", "(II)I"⟩
abbrev cX12_share : ByteArray := prog_14_method_79_code
def yX12_share : MethodName := ⟨RX12, "share", "(IIII)I"⟩
abbrev cX12_best : ByteArray := prog_14_method_80_code
def yX12_best : MethodName := ⟨RX12, "best", "(II)I"⟩
abbrev cX12_spare : ByteArray := prog_14_method_81_code
def yX12_spare : MethodName := ⟨RX12, "spare", "(III)I"⟩
abbrev cX12_spareAt : ByteArray := prog_14_method_82_code
def yX12_spareAt : MethodName := ⟨RX12, "spareAt", "()I"⟩
abbrev cX12_layFar : ByteArray := prog_14_method_83_code
def yX12_layFar : MethodName := ⟨RX12, "layFar", "(I)V"⟩
abbrev cX12_near : ByteArray := prog_14_method_84_code
def yX12_near : MethodName := ⟨RX12, "near", "(III)I"⟩
abbrev cX12_fits : ByteArray := prog_14_method_87_code
def yX12_fits : MethodName := ⟨RX12, "fits", "(II)Z"⟩
abbrev cX12_leftBy : ByteArray := prog_14_method_88_code
def yX12_leftBy : MethodName := ⟨RX12, "leftBy", "(III)I"⟩
abbrev cX12_when : ByteArray := prog_14_method_89_code
def yX12_when : MethodName := ⟨RX12, "when", "()I"⟩
abbrev cX12_ask : ByteArray := prog_14_method_90_code
def yX12_ask : MethodName := ⟨RX12, "ask", "()I"⟩
abbrev cX12_longest : ByteArray := prog_14_method_91_code
def yX12_longest : MethodName := ⟨RX12, "longest", "()I"⟩
abbrev cX12_longestAt : ByteArray := prog_14_method_92_code
def yX12_longestAt : MethodName := ⟨RX12, "longestAt", "(I)I"⟩
abbrev cX12_write : ByteArray := prog_14_method_93_code
def yX12_write : MethodName := ⟨RX12, "write", "(I)V"⟩
abbrev cX12_byteAt : ByteArray := prog_14_method_99_code
def yX12_byteAt : MethodName := ⟨RX12, "byteAt", "(I)I"⟩
abbrev cX12_draw : ByteArray := prog_14_method_100_code
def yX12_draw : MethodName := ⟨RX12, "draw", "(I)I"⟩
abbrev cX12_doIf : ByteArray := prog_14_method_101_code
def yX12_doIf : MethodName := ⟨RX12, "doIf", "(III)V"⟩
abbrev cX12_drawsFor : ByteArray := prog_14_method_102_code
def yX12_drawsFor : MethodName := ⟨RX12, "drawsFor", "(I)V"⟩
abbrev cX12_drawHours : ByteArray := prog_14_method_103_code
def yX12_drawHours : MethodName := ⟨RX12, "drawHours", "(II)I"⟩
abbrev cX12_drawn : ByteArray := prog_14_method_104_code
def yX12_drawn : MethodName := ⟨RX12, "drawn", "(II)I"⟩
abbrev cX12_layAside : ByteArray := prog_14_method_105_code
def yX12_layAside : MethodName := ⟨RX12, "layAside", "()V"⟩
abbrev cX12_takeBack : ByteArray := prog_14_method_106_code
def yX12_takeBack : MethodName := ⟨RX12, "takeBack", "()V"⟩
abbrev cX12_odds : ByteArray := prog_14_method_107_code
def yX12_odds : MethodName := ⟨RX12, "odds", "(III)I"⟩
abbrev cX12_keep : ByteArray := prog_14_method_108_code
def yX12_keep : MethodName := ⟨RX12, "keep", "(IZ)Z"⟩
abbrev cX12_readNamed : ByteArray := prog_14_method_109_code
def yX12_readNamed : MethodName := ⟨RX12, "readNamed", "(II)Z"⟩
abbrev cX12_readPlace : ByteArray := prog_14_method_110_code
def yX12_readPlace : MethodName := ⟨RX12, "readPlace", "(I)Z"⟩
abbrev cX12_readBookLine : ByteArray := prog_14_method_111_code
def yX12_readBookLine : MethodName := ⟨RX12, "readBookLine", "()Z"⟩
abbrev cX12_goBy : ByteArray := prog_14_method_112_code
def yX12_goBy : MethodName := ⟨RX12, "goBy", "(I)I"⟩
abbrev cX12_stay : ByteArray := prog_14_method_114_code
def yX12_stay : MethodName := ⟨RX12, "stay", "(Z)V"⟩
abbrev cX12_told : ByteArray := prog_14_method_115_code
def yX12_told : MethodName := ⟨RX12, "told", "(I)I"⟩
abbrev cX12_readHouseName : ByteArray := prog_14_method_116_code
def yX12_readHouseName : MethodName := ⟨RX12, "readHouseName", "()Z"⟩
abbrev cX12_saysOne : ByteArray := prog_14_method_117_code
def yX12_saysOne : MethodName := ⟨RX12, "saysOne", "(IIII)I"⟩
abbrev cX12_readOf : ByteArray := prog_14_method_123_code
def yX12_readOf : MethodName := ⟨RX12, "readOf", "(I)Z"⟩
abbrev cX12_readCompare : ByteArray := prog_14_method_124_code
def yX12_readCompare : MethodName := ⟨RX12, "readCompare", "(I)Z"⟩
abbrev cX12_image : ByteArray := prog_14_method_128_code
def yX12_image : MethodName := ⟨RX12, "image", "(I)Z"⟩
abbrev cX12_restore : ByteArray := prog_14_method_129_code
def yX12_restore : MethodName := ⟨RX12, "restore", "(I)Z"⟩
abbrev cX12_count : ByteArray := prog_14_method_130_code
def yX12_count : MethodName := ⟨RX12, "count", "(I)I"⟩
abbrev cX0_actOf : ByteArray := prog_2_method_4_code
def yX0_actOf : MethodName := ⟨RX0, "actOf", "(I)I"⟩
abbrev cX1_draw : ByteArray := prog_3_method_2_code
def yX1_draw : MethodName := ⟨RX1, "draw", "(I)I"⟩
abbrev cX2_clear : ByteArray := prog_4_method_2_code
def yX2_clear : MethodName := ⟨RX2, "clear", "()V"⟩
abbrev cX3_heightAt : ByteArray := prog_5_method_3_code
def yX3_heightAt : MethodName := ⟨RX3, "heightAt", "(I)I"⟩
abbrev cX3_personsOn : ByteArray := prog_5_method_4_code
def yX3_personsOn : MethodName := ⟨RX3, "personsOn", "(I)I"⟩
abbrev cX3_tableHour : ByteArray := prog_5_method_5_code
def yX3_tableHour : MethodName := ⟨RX3, "tableHour", "()I"⟩
abbrev cX3_layStone : ByteArray := prog_5_method_16_code
def yX3_layStone : MethodName := ⟨RX3, "layStone", "(I)V"⟩
abbrev cX3_whyNotTear : ByteArray := prog_5_method_17_code
def yX3_whyNotTear : MethodName := ⟨RX3, "whyNotTear", "(I)I"⟩
abbrev cX3_tearStone : ByteArray := prog_5_method_18_code
def yX3_tearStone : MethodName := ⟨RX3, "tearStone", "(I)V"⟩
abbrev cX5_clear : ByteArray := prog_7_method_2_code
def yX5_clear : MethodName := ⟨RX5, "clear", "()V"⟩
abbrev cX5_copyFrom : ByteArray := prog_7_method_3_code
def yX5_copyFrom : MethodName := ⟨RX5, "copyFrom", "(LShadowHeirs$Plan;)V"⟩
abbrev cX5_hasCell : ByteArray := prog_7_method_4_code
def yX5_hasCell : MethodName := ⟨RX5, "hasCell", "(II)Z"⟩
abbrev cX5_hasHouse : ByteArray := prog_7_method_5_code
def yX5_hasHouse : MethodName := ⟨RX5, "hasHouse", "(I)Z"⟩
abbrev cX5_hasPerson : ByteArray := prog_7_method_6_code
def yX5_hasPerson : MethodName := ⟨RX5, "hasPerson", "(I)Z"⟩
abbrev cX5_hasShadow : ByteArray := prog_7_method_7_code
def yX5_hasShadow : MethodName := ⟨RX5, "hasShadow", "(II)Z"⟩
abbrev cX5_houseOn : ByteArray := prog_7_method_8_code
def yX5_houseOn : MethodName := ⟨RX5, "houseOn", "(I)I"⟩
abbrev cX5_houseNamed : ByteArray := prog_7_method_9_code
def yX5_houseNamed : MethodName := ⟨RX5, "houseNamed", "(J)I"⟩
abbrev cX5_personNamed : ByteArray := prog_7_method_10_code
def yX5_personNamed : MethodName := ⟨RX5, "personNamed", "(J)I"⟩
abbrev cX5_spotFrom : ByteArray := prog_7_method_11_code
def yX5_spotFrom : MethodName := ⟨RX5, "spotFrom", "(III)I"⟩
abbrev cX5_stepsAlong : ByteArray := prog_7_method_12_code
def yX5_stepsAlong : MethodName := ⟨RX5, "stepsAlong", "(III)I"⟩
abbrev cX6_hasRoom : ByteArray := prog_8_method_3_code
def yX6_hasRoom : MethodName := ⟨RX6, "hasRoom", "(I)Z"⟩
abbrev cX6_addNumber : ByteArray := prog_8_method_4_code
def yX6_addNumber : MethodName := ⟨RX6, "addNumber", "(I)V"⟩
abbrev cX6_byteOn : ByteArray := prog_8_method_5_code
def yX6_byteOn : MethodName := ⟨RX6, "byteOn", "(I)I"⟩
abbrev cX6_beginText : ByteArray := prog_8_method_6_code
def yX6_beginText : MethodName := ⟨RX6, "beginText", "(I)V"⟩
abbrev cX6_fail : ByteArray := prog_8_method_7_code
def yX6_fail : MethodName := ⟨RX6, "fail", "(I)Z"⟩
abbrev cX6_readRun : ByteArray := prog_8_method_9_code
def yX6_readRun : MethodName := ⟨RX6, "readRun", "()V"⟩
abbrev cX6_isSign : ByteArray := prog_8_method_10_code
def yX6_isSign : MethodName := ⟨RX6, "isSign", "(C)Z"⟩
abbrev cX7_clear : ByteArray := prog_9_method_2_code
def yX7_clear : MethodName := ⟨RX7, "clear", "()V"⟩
abbrev cX7_copyFrom : ByteArray := prog_9_method_3_code
def yX7_copyFrom : MethodName := ⟨RX7, "copyFrom", "(LShadowHeirs$Scene;)V"⟩
abbrev cX7_isBuried : ByteArray := prog_9_method_4_code
def yX7_isBuried : MethodName := ⟨RX7, "isBuried", "(I)Z"⟩
abbrev cX7_allStones : ByteArray := prog_9_method_5_code
def yX7_allStones : MethodName := ⟨RX7, "allStones", "()I"⟩
abbrev cX7_allWealth : ByteArray := prog_9_method_6_code
def yX7_allWealth : MethodName := ⟨RX7, "allWealth", "()I"⟩
abbrev cX8_clear : ByteArray := prog_10_method_2_code
def yX8_clear : MethodName := ⟨RX8, "clear", "()V"⟩
abbrev cX8_copyFrom : ByteArray := prog_10_method_3_code
def yX8_copyFrom : MethodName := ⟨RX8, "copyFrom", "(LShadowHeirs$Sentence;)V"⟩
abbrev cX8_add : ByteArray := prog_10_method_9_code
def yX8_add : MethodName := ⟨RX8, "add", "(II)V"⟩
abbrev cX8_numberOf : ByteArray := prog_10_method_13_code
def yX8_numberOf : MethodName := ⟨RX8, "numberOf", "(LShadowHeirs$Island;II)I"⟩
abbrev cX8_isCompared : ByteArray := prog_10_method_14_code
def yX8_isCompared : MethodName := ⟨RX8, "isCompared", "(III)Z"⟩
abbrev cX9_byteOn : ByteArray := prog_11_method_2_code
def yX9_byteOn : MethodName := ⟨RX9, "byteOn", "(I)I"⟩
abbrev cX9_add : ByteArray := prog_11_method_4_code
def yX9_add : MethodName := ⟨RX9, "add", "(I)V"⟩
abbrev cX9_addName : ByteArray := prog_11_method_6_code
def yX9_addName : MethodName := ⟨RX9, "addName", "(J)V"⟩
abbrev cX9_addNumber : ByteArray := prog_11_method_7_code
def yX9_addNumber : MethodName := ⟨RX9, "addNumber", "(I)V"⟩
abbrev cX10_spread : ByteArray := prog_12_method_2_code
def yX10_spread : MethodName := ⟨RX10, "spread", "(I)V"⟩
abbrev cX10_stepsToShade : ByteArray := prog_12_method_3_code
def yX10_stepsToShade : MethodName := ⟨RX10, "stepsToShade", "(III)I"⟩
abbrev cX10_takeOneMore : ByteArray := prog_12_method_7_code
def yX10_takeOneMore : MethodName := ⟨RX10, "takeOneMore", "(I)V"⟩
abbrev cJ6_bitCount_0f7a4 : ByteArray := prog_19_method_49_code
def yJ6_bitCount_0f7a4 : MethodName := ⟨"java/lang/Integer", "bitCount", "(I)I"⟩
abbrev cX12_finds : ByteArray := prog_14_method_85_code
def yX12_finds : MethodName := ⟨RX12, "finds", "(I)Z"⟩
abbrev cX12_writeWord : ByteArray := prog_14_method_94_code
def yX12_writeWord : MethodName := ⟨RX12, "writeWord", "(J)V"⟩
abbrev cX12_writeNumber : ByteArray := prog_14_method_95_code
def yX12_writeNumber : MethodName := ⟨RX12, "writeNumber", "(I)V"⟩
abbrev cX12_holds : ByteArray := prog_14_method_126_code
def yX12_holds : MethodName := ⟨RX12, "holds", "(II)Z"⟩
abbrev cX12_readOr : ByteArray := prog_14_method_118_code
def yX12_readOr : MethodName := ⟨RX12, "readOr", "()Z"⟩
abbrev cX12_readAnd : ByteArray := prog_14_method_119_code
def yX12_readAnd : MethodName := ⟨RX12, "readAnd", "()Z"⟩
abbrev cX12_readSaid : ByteArray := prog_14_method_120_code
def yX12_readSaid : MethodName := ⟨RX12, "readSaid", "()Z"⟩
abbrev cX12_readNot : ByteArray := prog_14_method_121_code
def yX12_readNot : MethodName := ⟨RX12, "readNot", "()Z"⟩
abbrev cX12_readBracket : ByteArray := prog_14_method_122_code
def yX12_readBracket : MethodName := ⟨RX12, "readBracket", "()Z"⟩
abbrev cX11_feed : ByteArray := prog_1_method_2_code
def yX11_feed : MethodName := ⟨RX11, "feed", "(IIIII)I"⟩
abbrev cX11_now : ByteArray := prog_1_method_9_code
def yX11_now : MethodName := ⟨RX11, "now", "(I)I"⟩
abbrev cX11_byteAt : ByteArray := prog_1_method_29_code
def yX11_byteAt : MethodName := ⟨RX11, "byteAt", "(I)I"⟩
abbrev cX11_isTapeAsTold : ByteArray := prog_1_method_40_code
def yX11_isTapeAsTold : MethodName := ⟨RX11, "isTapeAsTold", "()Z"⟩
abbrev cX12_person : ByteArray := prog_14_method_60_code
def yX12_person : MethodName := ⟨RX12, "person", "(II)I"⟩
abbrev cX12_crowd : ByteArray := prog_14_method_86_code
def yX12_crowd : MethodName := ⟨RX12, "crowd", "(III)I"⟩
abbrev cX12_writeNext : ByteArray := prog_14_method_96_code
def yX12_writeNext : MethodName := ⟨RX12, "writeNext", "(J)V"⟩
abbrev cX12_writeCount : ByteArray := prog_14_method_97_code
def yX12_writeCount : MethodName := ⟨RX12, "writeCount", "(I)V"⟩
abbrev cX12_slip : ByteArray := prog_14_method_98_code
def yX12_slip : MethodName := ⟨RX12, "slip", "(I)I"⟩
abbrev cX12_book : ByteArray := prog_14_method_113_code
def yX12_book : MethodName := ⟨RX12, "book", "(I)I"⟩
abbrev cX12_sentence : ByteArray := prog_14_method_125_code
def yX12_sentence : MethodName := ⟨RX12, "sentence", "()I"⟩
abbrev cX12_said : ByteArray := prog_14_method_127_code
def yX12_said : MethodName := ⟨RX12, "said", "(I)I"⟩
abbrev cX2_keep : ByteArray := prog_4_method_3_code
def yX2_keep : MethodName := ⟨RX2, "keep", "(LShadowHeirs$Scene;)V"⟩
abbrev cX2_bringBack : ByteArray := prog_4_method_4_code
def yX2_bringBack : MethodName := ⟨RX2, "bringBack", "(LShadowHeirs$Scene;)Z"⟩
abbrev cX3_copyFrom : ByteArray := prog_5_method_2_code
def yX3_copyFrom : MethodName := ⟨RX3, "copyFrom", "(LShadowHeirs$Island;)V"⟩
abbrev cX3_reach : ByteArray := prog_5_method_6_code
def yX3_reach : MethodName := ⟨RX3, "reach", "(II)I"⟩
abbrev cX3_personsTouched : ByteArray := prog_5_method_7_code
def yX3_personsTouched : MethodName := ⟨RX3, "personsTouched", "(II)I"⟩
abbrev cX3_housesTouching : ByteArray := prog_5_method_8_code
def yX3_housesTouching : MethodName := ⟨RX3, "housesTouching", "(I)I"⟩
abbrev cX3_partsWith : ByteArray := prog_5_method_9_code
def yX3_partsWith : MethodName := ⟨RX3, "partsWith", "(III)I"⟩
abbrev cX3_stonesToStop : ByteArray := prog_5_method_11_code
def yX3_stonesToStop : MethodName := ⟨RX3, "stonesToStop", "(III)I"⟩
abbrev cX3_whyNotStep : ByteArray := prog_5_method_12_code
def yX3_whyNotStep : MethodName := ⟨RX3, "whyNotStep", "(II)I"⟩
abbrev cX3_makeStep : ByteArray := prog_5_method_13_code
def yX3_makeStep : MethodName := ⟨RX3, "makeStep", "(II)V"⟩
abbrev cX3_sidesOpen : ByteArray := prog_5_method_14_code
def yX3_sidesOpen : MethodName := ⟨RX3, "sidesOpen", "(I)I"⟩
abbrev cX3_whyNotLay : ByteArray := prog_5_method_15_code
def yX3_whyNotLay : MethodName := ⟨RX3, "whyNotLay", "(I)I"⟩
abbrev cX3_whyNotBury : ByteArray := prog_5_method_19_code
def yX3_whyNotBury : MethodName := ⟨RX3, "whyNotBury", "(I)I"⟩
abbrev cX3_buryHouse : ByteArray := prog_5_method_20_code
def yX3_buryHouse : MethodName := ⟨RX3, "buryHouse", "(I)V"⟩
abbrev cX6_step : ByteArray := prog_8_method_8_code
def yX6_step : MethodName := ⟨RX6, "step", "()V"⟩
abbrev cX6_wantSign : ByteArray := prog_8_method_11_code
def yX6_wantSign : MethodName := ⟨RX6, "wantSign", "(C)Z"⟩
abbrev cX6_wantNumber : ByteArray := prog_8_method_12_code
def yX6_wantNumber : MethodName := ⟨RX6, "wantNumber", "(II)Z"⟩
abbrev cX6_wantSide : ByteArray := prog_8_method_13_code
def yX6_wantSide : MethodName := ⟨RX6, "wantSide", "()Z"⟩
abbrev cX6_wantName : ByteArray := prog_8_method_14_code
def yX6_wantName : MethodName := ⟨RX6, "wantName", "()Z"⟩
abbrev cX8_readHouse : ByteArray := prog_10_method_7_code
def yX8_readHouse : MethodName := ⟨RX8, "readHouse", "(LShadowHeirs$Reader;LShadowHeirs$Plan;)Z"⟩
abbrev cX8_readCompared : ByteArray := prog_10_method_8_code
def yX8_readCompared : MethodName := ⟨RX8, "readCompared", "(LShadowHeirs$Reader;I)Z"⟩
abbrev cX8_isSo : ByteArray := prog_10_method_12_code
def yX8_isSo : MethodName := ⟨RX8, "isSo", "(LShadowHeirs$Island;III)Z"⟩
abbrev cX10_stepsIntoShadow : ByteArray := prog_12_method_4_code
def yX10_stepsIntoShadow : MethodName := ⟨RX10, "stepsIntoShadow", "(III)I"⟩
abbrev cX10_cellsWithin : ByteArray := prog_12_method_6_code
def yX10_cellsWithin : MethodName := ⟨RX10, "cellsWithin", "(IIII)I"⟩
abbrev cX8_readCond : ByteArray := prog_10_method_5_code
def yX8_readCond : MethodName := ⟨RX8, "readCond", "(LShadowHeirs$Reader;LShadowHeirs$Plan;I)Z"⟩
abbrev cX8_readOne : ByteArray := prog_10_method_6_code
def yX8_readOne : MethodName := ⟨RX8, "readOne", "(LShadowHeirs$Reader;LShadowHeirs$Plan;I)Z"⟩
abbrev cX11_cell : ByteArray := prog_1_method_6_code
def yX11_cell : MethodName := ⟨RX11, "cell", "(III)I"⟩
abbrev cX11_house : ByteArray := prog_1_method_7_code
def yX11_house : MethodName := ⟨RX11, "house", "(II)I"⟩
abbrev cX11_person : ByteArray := prog_1_method_8_code
def yX11_person : MethodName := ⟨RX11, "person", "(II)I"⟩
abbrev cX11_go : ByteArray := prog_1_method_10_code
def yX11_go : MethodName := ⟨RX11, "go", "(II)I"⟩
abbrev cX11_lay : ByteArray := prog_1_method_11_code
def yX11_lay : MethodName := ⟨RX11, "lay", "(II)I"⟩
abbrev cX11_tear : ByteArray := prog_1_method_12_code
def yX11_tear : MethodName := ⟨RX11, "tear", "(II)I"⟩
abbrev cX11_bury : ByteArray := prog_1_method_13_code
def yX11_bury : MethodName := ⟨RX11, "bury", "(I)I"⟩
abbrev cX11_hours : ByteArray := prog_1_method_14_code
def yX11_hours : MethodName := ⟨RX11, "hours", "(I)I"⟩
abbrev cX11_undo : ByteArray := prog_1_method_15_code
def yX11_undo : MethodName := ⟨RX11, "undo", "()I"⟩
abbrev cX11_shadow : ByteArray := prog_1_method_16_code
def yX11_shadow : MethodName := ⟨RX11, "shadow", "(II)I"⟩
abbrev cX11_heirs : ByteArray := prog_1_method_17_code
def yX11_heirs : MethodName := ⟨RX11, "heirs", "(II)I"⟩
abbrev cX11_share : ByteArray := prog_1_method_18_code
def yX11_share : MethodName := ⟨RX11, "share", "(IIII)I"⟩
abbrev cX11_best : ByteArray := prog_1_method_19_code
def yX11_best : MethodName := ⟨RX11, "best", "(II)I"⟩
abbrev cX11_near : ByteArray := prog_1_method_23_code
def yX11_near : MethodName := ⟨RX11, "near", "(III)I"⟩
abbrev cX11_longest : ByteArray := prog_1_method_26_code
def yX11_longest : MethodName := ⟨RX11, "longest", "()I"⟩
abbrev cX11_image : ByteArray := prog_1_method_36_code
def yX11_image : MethodName := ⟨RX11, "image", "(I)Z"⟩
abbrev cX11_restore : ByteArray := prog_1_method_37_code
def yX11_restore : MethodName := ⟨RX11, "restore", "(I)Z"⟩
abbrev cX11_isTapeSoAt : ByteArray := prog_1_method_42_code
def yX11_isTapeSoAt : MethodName := ⟨RX11, "isTapeSoAt", "(I)Z"⟩
abbrev cX11_bestToAsk : ByteArray := prog_1_method_43_code
def yX11_bestToAsk : MethodName := ⟨RX11, "bestToAsk", "(II)I"⟩
abbrev cX0_readSide : ByteArray := prog_2_method_5_code
def yX0_readSide : MethodName := ⟨RX0, "readSide", "()Z"⟩
abbrev cX0_readHouse : ByteArray := prog_2_method_6_code
def yX0_readHouse : MethodName := ⟨RX0, "readHouse", "(LShadowHeirs$Plan;)Z"⟩
abbrev cX0_readNumber : ByteArray := prog_2_method_7_code
def yX0_readNumber : MethodName := ⟨RX0, "readNumber", "([III)Z"⟩
abbrev cX0_whyNot : ByteArray := prog_2_method_10_code
def yX0_whyNot : MethodName := ⟨RX0, "whyNot", "(LShadowHeirs$Island;III)I"⟩
abbrev cX1_livePerson : ByteArray := prog_3_method_4_code
def yX1_livePerson : MethodName := ⟨RX1, "livePerson", "(LShadowHeirs$Island;I)V"⟩
abbrev cX3_spotThatSpares : ByteArray := prog_5_method_10_code
def yX3_spotThatSpares : MethodName := ⟨RX3, "spotThatSpares", "(III)I"⟩
abbrev cX4_readGround : ByteArray := prog_6_method_4_code
def yX4_readGround : MethodName := ⟨RX4, "readGround", "()Z"⟩
abbrev cX4_readSun : ByteArray := prog_6_method_8_code
def yX4_readSun : MethodName := ⟨RX4, "readSun", "()Z"⟩
abbrev cX4_readNewName : ByteArray := prog_6_method_9_code
def yX4_readNewName : MethodName := ⟨RX4, "readNewName", "()Z"⟩
abbrev cX4_readSpot : ByteArray := prog_6_method_10_code
def yX4_readSpot : MethodName := ⟨RX4, "readSpot", "(Z)Z"⟩
abbrev cX8_readText : ByteArray := prog_10_method_4_code
def yX8_readText : MethodName := ⟨RX8, "readText", "(LShadowHeirs$Reader;LShadowHeirs$Plan;)V"⟩
abbrev cX8_personsOf : ByteArray := prog_10_method_11_code
def yX8_personsOf : MethodName := ⟨RX8, "personsOf", "(LShadowHeirs$Island;II)I"⟩
abbrev cX10_mostInShadow : ByteArray := prog_12_method_5_code
def yX10_mostInShadow : MethodName := ⟨RX10, "mostInShadow", "(III)I"⟩
abbrev cX11_spare : ByteArray := prog_1_method_20_code
def yX11_spare : MethodName := ⟨RX11, "spare", "(III)I"⟩
abbrev cX11_crowd : ByteArray := prog_1_method_22_code
def yX11_crowd : MethodName := ⟨RX11, "crowd", "(III)I"⟩
abbrev cX11_sentence : ByteArray := prog_1_method_34_code
def yX11_sentence : MethodName := ⟨RX11, "sentence", "()I"⟩
abbrev cX11_hoursByTape : ByteArray := prog_1_method_41_code
def yX11_hoursByTape : MethodName := ⟨RX11, "hoursByTape", "()I"⟩
abbrev cX0_readLine : ByteArray := prog_2_method_3_code
def yX0_readLine : MethodName := ⟨RX0, "readLine", "(LShadowHeirs$Plan;)Z"⟩
abbrev cX0_liveLine : ByteArray := prog_2_method_9_code
def yX0_liveLine : MethodName := ⟨RX0, "liveLine", "(LShadowHeirs$Island;III)I"⟩
abbrev cX1_liveHours : ByteArray := prog_3_method_3_code
def yX1_liveHours : MethodName := ⟨RX1, "liveHours", "(LShadowHeirs$Island;II)I"⟩
abbrev cX4_readStones : ByteArray := prog_6_method_5_code
def yX4_readStones : MethodName := ⟨RX4, "readStones", "()Z"⟩
abbrev cX4_readHouse : ByteArray := prog_6_method_6_code
def yX4_readHouse : MethodName := ⟨RX4, "readHouse", "()Z"⟩
abbrev cX4_readPerson : ByteArray := prog_6_method_7_code
def yX4_readPerson : MethodName := ⟨RX4, "readPerson", "()Z"⟩
abbrev cX8_personsMeant : ByteArray := prog_10_method_10_code
def yX8_personsMeant : MethodName := ⟨RX8, "personsMeant", "(LShadowHeirs$Island;)I"⟩
abbrev cX11_when : ByteArray := prog_1_method_24_code
def yX11_when : MethodName := ⟨RX11, "when", "()I"⟩
abbrev cX11_drawn : ByteArray := prog_1_method_30_code
def yX11_drawn : MethodName := ⟨RX11, "drawn", "(II)I"⟩
abbrev cX11_odds : ByteArray := prog_1_method_31_code
def yX11_odds : MethodName := ⟨RX11, "odds", "(III)I"⟩
abbrev cX11_said : ByteArray := prog_1_method_35_code
def yX11_said : MethodName := ⟨RX11, "said", "(I)I"⟩
abbrev cX0_readLines : ByteArray := prog_2_method_2_code
def yX0_readLines : MethodName := ⟨RX0, "readLines", "(LShadowHeirs$Plan;)V"⟩
abbrev cX0_liveOn : ByteArray := prog_2_method_8_code
def yX0_liveOn : MethodName := ⟨RX0, "liveOn", "(LShadowHeirs$Island;)V"⟩
abbrev cX4_readLine : ByteArray := prog_6_method_3_code
def yX4_readLine : MethodName := ⟨RX4, "readLine", "()Z"⟩
abbrev cX11_book : ByteArray := prog_1_method_32_code
def yX11_book : MethodName := ⟨RX11, "book", "(I)I"⟩
abbrev cX4_readLines : ByteArray := prog_6_method_2_code
def yX4_readLines : MethodName := ⟨RX4, "readLines", "()I"⟩
abbrev cX11_island : ByteArray := prog_1_method_4_code
def yX11_island : MethodName := ⟨RX11, "island", "()I"⟩
theorem gw_1 {w : Cond} (h : w ∈ tables_1_1) (hg : goodWord w = true) : w ∈ gw_tbl := gw_t (tin_1 h) hg
theorem nw_1 {w : Cond} (h : w ∈ tables_1_1) (hg : isNest w = true) : w ∈ nw_tbl := List.mem_filter.mpr ⟨tin_1 h, hg⟩
theorem gw_2 {w : Cond} (h : w ∈ tables_1_2) (hg : goodWord w = true) : w ∈ gw_tbl := gw_t (tin_2 h) hg
theorem nw_2 {w : Cond} (h : w ∈ tables_1_2) (hg : isNest w = true) : w ∈ nw_tbl := List.mem_filter.mpr ⟨tin_2 h, hg⟩
theorem gw_3 {w : Cond} (h : w ∈ tables_1_3) (hg : goodWord w = true) : w ∈ gw_tbl := gw_t (tin_3 h) hg
theorem nw_3 {w : Cond} (h : w ∈ tables_1_3) (hg : isNest w = true) : w ∈ nw_tbl := List.mem_filter.mpr ⟨tin_3 h, hg⟩
theorem gw_4 {w : Cond} (h : w ∈ tables_1_4) (hg : goodWord w = true) : w ∈ gw_tbl := gw_t (tin_4 h) hg
theorem nw_4 {w : Cond} (h : w ∈ tables_1_4) (hg : isNest w = true) : w ∈ nw_tbl := List.mem_filter.mpr ⟨tin_4 h, hg⟩
theorem gw_5 {w : Cond} (h : w ∈ tables_1_5) (hg : goodWord w = true) : w ∈ gw_tbl := gw_t (tin_5 h) hg
theorem nw_5 {w : Cond} (h : w ∈ tables_1_5) (hg : isNest w = true) : w ∈ nw_tbl := List.mem_filter.mpr ⟨tin_5 h, hg⟩
theorem gw_6 {w : Cond} (h : w ∈ tables_1_6) (hg : goodWord w = true) : w ∈ gw_tbl := gw_t (tin_6 h) hg
theorem nw_6 {w : Cond} (h : w ∈ tables_1_6) (hg : isNest w = true) : w ∈ nw_tbl := List.mem_filter.mpr ⟨tin_6 h, hg⟩
theorem gw_7 {w : Cond} (h : w ∈ tables_1_7) (hg : goodWord w = true) : w ∈ gw_tbl := gw_t (tin_7 h) hg
theorem nw_7 {w : Cond} (h : w ∈ tables_1_7) (hg : isNest w = true) : w ∈ nw_tbl := List.mem_filter.mpr ⟨tin_7 h, hg⟩
theorem gw_8 {w : Cond} (h : w ∈ tables_1_8) (hg : goodWord w = true) : w ∈ gw_tbl := gw_t (tin_8 h) hg
theorem nw_8 {w : Cond} (h : w ∈ tables_1_8) (hg : isNest w = true) : w ∈ nw_tbl := List.mem_filter.mpr ⟨tin_8 h, hg⟩
theorem gw_9 {w : Cond} (h : w ∈ tables_1_9) (hg : goodWord w = true) : w ∈ gw_tbl := gw_t (tin_9 h) hg
theorem nw_9 {w : Cond} (h : w ∈ tables_1_9) (hg : isNest w = true) : w ∈ nw_tbl := List.mem_filter.mpr ⟨tin_9 h, hg⟩
theorem zj_cpos {ρ : Type} {X : zM} {Γ : zG} {nL : Nat} {r : ρ} {A B : Option ρ} {pc : Nat} {lv : List (Nat × Value)} {st : List Value} {mem : zMem} {c : Prop} {inst : Decidable c} (hc : c) (k : zJ X Γ nL r (if c then A else B) pc lv st mem) : zJ X Γ nL r A pc lv st mem := fun h => k (by rw [if_pos hc]; exact h)
theorem zj_cneg {ρ : Type} {X : zM} {Γ : zG} {nL : Nat} {r : ρ} {A B : Option ρ} {pc : Nat} {lv : List (Nat × Value)} {st : List Value} {mem : zMem} {c : Prop} {inst : Decidable c} (hc : ¬ c) (k : zJ X Γ nL r (if c then A else B) pc lv st mem) : zJ X Γ nL r B pc lv st mem := fun h => k (by rw [if_neg hc]; exact h)
theorem ir_eq {x e : Int} (h : x = e) (p : ir e) : ir x := h ▸ p
theorem lr_eq {x e : Int} (h : x = e) (p : lr e) : lr x := h ▸ p
theorem zk_0 : zk 0 11 := by constructor <;> decide +kernel
theorem fl_X11_10 : zFl "ShadowHeirs" 10 11 0 := ⟨RX11, TX11, 20, tyX11, rfl, by decide, rfl, by decide, rfl, clw_11, tyX11_ok, nmX11, Or.inl (gw_2 (List.mem_of_getElem? (i := 236) (by decide +kernel)) rfl)⟩
theorem zk_1 : zk 1 6 := by constructor <;> decide +kernel
theorem rf_0_0 : sRf 0 0 = 1 := by decide +kernel
theorem fl_X11_130 : zFl "ShadowHeirs" 130 6 2 := ⟨RX6, TX6, 11, tyX6, rfl, by decide, rfl, by decide, rfl, clw_6, tyX6_ok, nmX6, Or.inr ⟨"ShadowHeirs", (nw_1 (List.mem_of_getElem? (i := 98) (by decide +kernel)) rfl)⟩⟩
theorem irc_0 : ir 0 := by decide
theorem fp_6_2 : zFp 6 2 .int := fun T N C h => by
  cases h
  exact ⟨rfl, by decide +kernel⟩
theorem irc_1 : ir 1 := by decide
theorem fl_X11_106 : zFl "ShadowHeirs" 106 11 15 := ⟨RX11, TX11, 20, tyX11, rfl, by decide, rfl, by decide, rfl, clw_11, tyX11_ok, nmX11, Or.inl (gw_3 (List.mem_of_getElem? (i := 11) (by decide +kernel)) rfl)⟩
theorem fl_X11_110 : zFl "ShadowHeirs" 110 11 16 := ⟨RX11, TX11, 20, tyX11, rfl, by decide, rfl, by decide, rfl, clw_11, tyX11_ok, nmX11, Or.inl (gw_3 (List.mem_of_getElem? (i := 12) (by decide +kernel)) rfl)⟩
theorem fl_X11_113 : zFl "ShadowHeirs" 113 11 17 := ⟨RX11, TX11, 20, tyX11, rfl, by decide, rfl, by decide, rfl, clw_11, tyX11_ok, nmX11, Or.inl (gw_3 (List.mem_of_getElem? (i := 13) (by decide +kernel)) rfl)⟩
theorem fl_X11_116 : zFl "ShadowHeirs" 116 11 18 := ⟨RX11, TX11, 20, tyX11, rfl, by decide, rfl, by decide, rfl, clw_11, tyX11_ok, nmX11, Or.inl (gw_3 (List.mem_of_getElem? (i := 14) (by decide +kernel)) rfl)⟩
theorem fl_X11_119 : zFl "ShadowHeirs" 119 11 19 := ⟨RX11, TX11, 20, tyX11, rfl, by decide, rfl, by decide, rfl, clw_11, tyX11_ok, nmX11, Or.inl (gw_3 (List.mem_of_getElem? (i := 15) (by decide +kernel)) rfl)⟩
theorem irc_m1 : ir (-1) := by decide
theorem fl_X11_61 : zFl "ShadowHeirs" 61 11 7 := ⟨RX11, TX11, 20, tyX11, rfl, by decide, rfl, by decide, rfl, clw_11, tyX11_ok, nmX11, Or.inl (gw_3 (List.mem_of_getElem? (i := 3) (by decide +kernel)) rfl)⟩
theorem zk_45 : zk 45 0 := by constructor <;> decide +kernel
theorem rf_0_7 : sRf 0 7 = 45 := by decide +kernel
theorem fl_X11_341 : zFl "ShadowHeirs" 341 0 5 := ⟨RX0, TX0, 10, tyX0, rfl, by decide, rfl, by decide, rfl, clw_0, tyX0_ok, nmX0, Or.inr ⟨"ShadowHeirs", (nw_2 (List.mem_of_getElem? (i := 141) (by decide +kernel)) rfl)⟩⟩
theorem fl_X11_345 : zFl "ShadowHeirs" 345 0 8 := ⟨RX0, TX0, 10, tyX0, rfl, by decide, rfl, by decide, rfl, clw_0, tyX0_ok, nmX0, Or.inr ⟨"ShadowHeirs", (nw_2 (List.mem_of_getElem? (i := 147) (by decide +kernel)) rfl)⟩⟩
theorem fl_X11_335 : zFl "ShadowHeirs" 335 0 7 := ⟨RX0, TX0, 10, tyX0, rfl, by decide, rfl, by decide, rfl, clw_0, tyX0_ok, nmX0, Or.inr ⟨"ShadowHeirs", (nw_2 (List.mem_of_getElem? (i := 145) (by decide +kernel)) rfl)⟩⟩
theorem fl_X11_338 : zFl "ShadowHeirs" 338 0 6 := ⟨RX0, TX0, 10, tyX0, rfl, by decide, rfl, by decide, rfl, clw_0, tyX0_ok, nmX0, Or.inr ⟨"ShadowHeirs", (nw_2 (List.mem_of_getElem? (i := 143) (by decide +kernel)) rfl)⟩⟩
theorem fl_X11_348 : zFl "ShadowHeirs" 348 0 9 := ⟨RX0, TX0, 10, tyX0, rfl, by decide, rfl, by decide, rfl, clw_0, tyX0_ok, nmX0, Or.inr ⟨"ShadowHeirs", (nw_2 (List.mem_of_getElem? (i := 149) (by decide +kernel)) rfl)⟩⟩
theorem fl_X11_19 : zFl "ShadowHeirs" 19 11 1 := ⟨RX11, TX11, 20, tyX11, rfl, by decide, rfl, by decide, rfl, clw_11, tyX11_ok, nmX11, Or.inl (gw_2 (List.mem_of_getElem? (i := 237) (by decide +kernel)) rfl)⟩
theorem zk_4 : zk 4 5 := by constructor <;> decide +kernel
theorem rf_0_1 : sRf 0 1 = 4 := by decide +kernel
theorem fl_X11_313 : zFl "ShadowHeirs" 313 5 2 := ⟨RX5, TX5, 11, tyX5, rfl, by decide, rfl, by decide, rfl, clw_5, tyX5_ok, nmX5, Or.inr ⟨"ShadowHeirs", (nw_1 (List.mem_of_getElem? (i := 162) (by decide +kernel)) rfl)⟩⟩
theorem fl_X11_376 : zFl "ShadowHeirs" 376 5 1 := ⟨RX5, TX5, 11, tyX5, rfl, by decide, rfl, by decide, rfl, clw_5, tyX5_ok, nmX5, Or.inr ⟨"ShadowHeirs", (nw_1 (List.mem_of_getElem? (i := 157) (by decide +kernel)) rfl)⟩⟩
theorem fl_X11_286 : zFl "ShadowHeirs" 286 5 4 := ⟨RX5, TX5, 11, tyX5, rfl, by decide, rfl, by decide, rfl, clw_5, tyX5_ok, nmX5, Or.inr ⟨"ShadowHeirs", (nw_1 (List.mem_of_getElem? (i := 173) (by decide +kernel)) rfl)⟩⟩
theorem fl_X11_373 : zFl "ShadowHeirs" 373 5 0 := ⟨RX5, TX5, 11, tyX5, rfl, by decide, rfl, by decide, rfl, clw_5, tyX5_ok, nmX5, Or.inr ⟨"ShadowHeirs", (nw_1 (List.mem_of_getElem? (i := 153) (by decide +kernel)) rfl)⟩⟩
theorem fl_X11_379 : zFl "ShadowHeirs" 379 5 3 := ⟨RX5, TX5, 11, tyX5, rfl, by decide, rfl, by decide, rfl, clw_5, tyX5_ok, nmX5, Or.inr ⟨"ShadowHeirs", (nw_1 (List.mem_of_getElem? (i := 169) (by decide +kernel)) rfl)⟩⟩
theorem fl_X11_382 : zFl "ShadowHeirs" 382 6 9 := ⟨RX6, TX6, 11, tyX6, rfl, by decide, rfl, by decide, rfl, clw_6, tyX6_ok, nmX6, Or.inr ⟨"ShadowHeirs", (nw_1 (List.mem_of_getElem? (i := 115) (by decide +kernel)) rfl)⟩⟩
theorem fp_11_15 : zFp 11 15 .int := fun T N C h => by
  cases h
  exact ⟨rfl, by decide +kernel⟩
theorem irc_6 : ir 6 := by decide
theorem mm_l_X11_264 : Cond.methodLink "ShadowHeirs" 264 Lib.Math.min.name ∈ gw_tbl := (gw_3 (List.mem_of_getElem? (i := 190) (by decide +kernel)) rfl)
theorem mm_s_min : Cond.static Lib.Math.min.name ∈ gw_tbl := (gw_3 (List.mem_of_getElem? (i := 191) (by decide +kernel)) rfl)
theorem mm_i : Cond.initialized "java/lang/Math" ∈ gw_tbl := (gw_1 (List.mem_of_getElem? (i := 18) (by decide +kernel)) rfl)
theorem mm_c_min : Cond.code Lib.Math.min.name Lib.Math.min.code 2 (some .int) ∈ gw_tbl := (gw_3 (List.mem_of_getElem? (i := 192) (by decide +kernel)) rfl)
theorem ac_l_X11_394 : Cond.methodLink "ShadowHeirs" 394 arraycopyName ∈ gw_tbl := (gw_3 (List.mem_of_getElem? (i := 193) (by decide +kernel)) rfl)
theorem ac_n : Cond.native arraycopyName ∈ gw_tbl := (gw_3 (List.mem_of_getElem? (i := 195) (by decide +kernel)) rfl)
theorem ac_s : Cond.static arraycopyName ∈ gw_tbl := (gw_3 (List.mem_of_getElem? (i := 194) (by decide +kernel)) rfl)
theorem ac_i : Cond.initialized "java/lang/System" ∈ gw_tbl := (gw_1 (List.mem_of_getElem? (i := 19) (by decide +kernel)) rfl)
theorem zk_138 : zk 138 12 := by constructor <;> decide +kernel
theorem fl_X12_1 : zFl "ShadowHeirsModel" 1 12 0 := ⟨RX12, TX12, 47, tyX12, rfl, by decide, rfl, by decide, rfl, clw_12, tyX12_ok, nmX12, Or.inl (gw_6 (List.mem_of_getElem? (i := 89) (by decide +kernel)) rfl)⟩
theorem fp_12_0 : zFp 12 0 .int := fun T N C h => by
  cases h
  exact ⟨rfl, by decide +kernel⟩
theorem fl_X12_7 : zFl "ShadowHeirsModel" 7 12 1 := ⟨RX12, TX12, 47, tyX12, rfl, by decide, rfl, by decide, rfl, clw_12, tyX12_ok, nmX12, Or.inl (gw_6 (List.mem_of_getElem? (i := 90) (by decide +kernel)) rfl)⟩
theorem zk_139 : zk 139 13 := by constructor <;> decide +kernel
theorem rf_138_1 : sRf 138 1 = 139 := by decide +kernel
theorem fl_X12_11 : zFl "ShadowHeirsModel" 11 12 2 := ⟨RX12, TX12, 47, tyX12, rfl, by decide, rfl, by decide, rfl, clw_12, tyX12_ok, nmX12, Or.inl (gw_6 (List.mem_of_getElem? (i := 91) (by decide +kernel)) rfl)⟩
theorem irc_255 : ir 255 := by decide
theorem fp_12_2 : zFp 12 2 .int := fun T N C h => by
  cases h
  exact ⟨rfl, by decide +kernel⟩
theorem irc_24 : ir 24 := by decide
theorem irc_20 : ir 20 := by decide
theorem irc_940 : ir 940 := by decide
set_option maxRecDepth 100000 in
theorem cal_X12_come : zCal yX12_come cX12_come 3 none 1 := ⟨(gw_6 (List.mem_of_getElem? (i := 75) rfl) rfl), (gw_1 (List.mem_of_getElem? (i := 17) (by decide +kernel)) rfl), by decide +kernel⟩
theorem calv_X12_come : zCalV yX12_come := ⟨(gw_6 (List.mem_of_getElem? (i := 73) (by decide +kernel)) rfl), (gw_s (y := yX12_come) (n := 47) (List.mem_of_getElem? (i := 35) (by decide +kernel)))⟩
theorem ml_X12_14 : zMl "ShadowHeirsModel" 14 yX12_come := Or.inl (gw_6 (List.mem_of_getElem? (i := 71) (by decide +kernel)) rfl)
theorem fl_X12_18 : zFl "ShadowHeirsModel" 18 12 3 := ⟨RX12, TX12, 47, tyX12, rfl, by decide, rfl, by decide, rfl, clw_12, tyX12_ok, nmX12, Or.inl (gw_6 (List.mem_of_getElem? (i := 92) (by decide +kernel)) rfl)⟩
theorem irc_48 : ir 48 := by decide
theorem irc_57 : ir 57 := by decide
theorem irc_97 : ir 97 := by decide
theorem irc_122 : ir 122 := by decide
theorem fl_X12_21 : zFl "ShadowHeirsModel" 21 12 5 := ⟨RX12, TX12, 47, tyX12, rfl, by decide, rfl, by decide, rfl, clw_12, tyX12_ok, nmX12, Or.inl (gw_6 (List.mem_of_getElem? (i := 94) (by decide +kernel)) rfl)⟩
theorem fl_X12_27 : zFl "ShadowHeirsModel" 27 12 4 := ⟨RX12, TX12, 47, tyX12, rfl, by decide, rfl, by decide, rfl, clw_12, tyX12_ok, nmX12, Or.inl (gw_6 (List.mem_of_getElem? (i := 93) (by decide +kernel)) rfl)⟩
theorem fl_X12_24 : zFl "ShadowHeirsModel" 24 12 6 := ⟨RX12, TX12, 47, tyX12, rfl, by decide, rfl, by decide, rfl, clw_12, tyX12_ok, nmX12, Or.inl (gw_6 (List.mem_of_getElem? (i := 95) (by decide +kernel)) rfl)⟩
theorem fl_X12_43 : zFl "ShadowHeirsModel" 43 12 12 := ⟨RX12, TX12, 47, tyX12, rfl, by decide, rfl, by decide, rfl, clw_12, tyX12_ok, nmX12, Or.inl (gw_6 (List.mem_of_getElem? (i := 101) (by decide +kernel)) rfl)⟩
theorem fl_X12_47 : zFl "ShadowHeirsModel" 47 12 8 := ⟨RX12, TX12, 47, tyX12, rfl, by decide, rfl, by decide, rfl, clw_12, tyX12_ok, nmX12, Or.inl (gw_6 (List.mem_of_getElem? (i := 97) (by decide +kernel)) rfl)⟩
set_option maxRecDepth 100000 in
theorem cal_X12_tapeAt : zCal yX12_tapeAt cX12_tapeAt 2 (some .int) 1 := ⟨(gw_7 (List.mem_of_getElem? (i := 16) rfl) rfl), (gw_1 (List.mem_of_getElem? (i := 17) (by decide +kernel)) rfl), by decide +kernel⟩
theorem calv_X12_tapeAt : zCalV yX12_tapeAt := ⟨(gw_7 (List.mem_of_getElem? (i := 15) (by decide +kernel)) rfl), (gw_s (y := yX12_tapeAt) (n := 47) (List.mem_of_getElem? (i := 40) (by decide +kernel)))⟩
theorem ml_X12_50 : zMl "ShadowHeirsModel" 50 yX12_tapeAt := Or.inl (gw_7 (List.mem_of_getElem? (i := 13) (by decide +kernel)) rfl)
set_option maxRecDepth 100000 in
theorem cal_X12_isLetter : zCal yX12_isLetter cX12_isLetter 1 (some .boolean) 1 := ⟨(gw_7 (List.mem_of_getElem? (i := 9) rfl) rfl), (gw_1 (List.mem_of_getElem? (i := 17) (by decide +kernel)) rfl), by decide +kernel⟩
theorem sta_X12_isLetter : Cond.static yX12_isLetter ∈ gw_tbl := (gw_7 (List.mem_of_getElem? (i := 8) (by decide +kernel)) rfl)
theorem ml_X12_33 : zMl "ShadowHeirsModel" 33 yX12_isLetter := Or.inl (gw_7 (List.mem_of_getElem? (i := 7) (by decide +kernel)) rfl)
set_option maxRecDepth 100000 in
theorem cal_X12_isDigit : zCal yX12_isDigit cX12_isDigit 1 (some .boolean) 1 := ⟨(gw_7 (List.mem_of_getElem? (i := 12) rfl) rfl), (gw_1 (List.mem_of_getElem? (i := 17) (by decide +kernel)) rfl), by decide +kernel⟩
theorem sta_X12_isDigit : Cond.static yX12_isDigit ∈ gw_tbl := (gw_7 (List.mem_of_getElem? (i := 11) (by decide +kernel)) rfl)
theorem ml_X12_37 : zMl "ShadowHeirsModel" 37 yX12_isDigit := Or.inl (gw_7 (List.mem_of_getElem? (i := 10) (by decide +kernel)) rfl)
theorem fl_X12_30 : zFl "ShadowHeirsModel" 30 12 7 := ⟨RX12, TX12, 47, tyX12, rfl, by decide, rfl, by decide, rfl, clw_12, tyX12_ok, nmX12, Or.inl (gw_6 (List.mem_of_getElem? (i := 96) (by decide +kernel)) rfl)⟩
theorem fp_12_7 : zFp 12 7 .int := fun T N C h => by
  cases h
  exact ⟨rfl, by decide +kernel⟩
theorem irc_3 : ir 3 := by decide
theorem irc_2 : ir 2 := by decide
theorem irc_7 : ir 7 := by decide
theorem kc_X12_54 : Cond.constantLong "ShadowHeirsModel" 54 (i64 27) ∈ gw_tbl := (gw_7 (List.mem_of_getElem? (i := 17) (by decide +kernel)) rfl)
theorem lrc_27 : lr 27 := by decide
theorem kc_X12_56 : Cond.constantLong "ShadowHeirsModel" 56 (i64 96) ∈ gw_tbl := (gw_7 (List.mem_of_getElem? (i := 18) (by decide +kernel)) rfl)
theorem lrc_96 : lr 96 := by decide
theorem fp_12_12 : zFp 12 12 .long := fun T N C h => by
  cases h
  exact ⟨rfl, by decide +kernel⟩
theorem fp_12_5 : zFp 12 5 .int := fun T N C h => by
  cases h
  exact ⟨rfl, by decide +kernel⟩
theorem irc_10 : ir 10 := by decide
theorem fp_12_8 : zFp 12 8 .int := fun T N C h => by
  cases h
  exact ⟨rfl, by decide +kernel⟩
theorem irc_59 : ir 59 := by decide
theorem irc_4 : ir 4 := by decide
theorem fl_X12_40 : zFl "ShadowHeirsModel" 40 12 9 := ⟨RX12, TX12, 47, tyX12, rfl, by decide, rfl, by decide, rfl, clw_12, tyX12_ok, nmX12, Or.inl (gw_6 (List.mem_of_getElem? (i := 98) (by decide +kernel)) rfl)⟩
theorem fp_12_9 : zFp 12 9 .int := fun T N C h => by
  cases h
  exact ⟨rfl, by decide +kernel⟩
theorem irc_60 : ir 60 := by decide
theorem irc_61 : ir 61 := by decide
theorem irc_62 : ir 62 := by decide
theorem irc_40 : ir 40 := by decide
theorem irc_41 : ir 41 := by decide
theorem lrc_0 : lr 0 := by decide
theorem fp_12_6 : zFp 12 6 .int := fun T N C h => by
  cases h
  exact ⟨rfl, by decide +kernel⟩
theorem irc_32 : ir 32 := by decide
theorem irc_103 : ir 103 := by decide
theorem irc_114 : ir 114 := by decide
theorem irc_111 : ir 111 := by decide
theorem irc_117 : ir 117 := by decide
theorem irc_110 : ir 110 := by decide
theorem irc_100 : ir 100 := by decide
set_option maxRecDepth 100000 in
theorem cal_X12_spelt : zCal yX12_spelt cX12_spelt 8 (some .long) 6 := ⟨(gw_7 (List.mem_of_getElem? (i := 32) rfl) rfl), (gw_1 (List.mem_of_getElem? (i := 17) (by decide +kernel)) rfl), by decide +kernel⟩
theorem sta_X12_spelt : Cond.static yX12_spelt ∈ gw_tbl := (gw_7 (List.mem_of_getElem? (i := 31) (by decide +kernel)) rfl)
theorem ml_X12_58 : zMl "ShadowHeirsModel" 58 yX12_spelt := Or.inl (gw_7 (List.mem_of_getElem? (i := 30) (by decide +kernel)) rfl)
theorem irc_115 : ir 115 := by decide
theorem irc_116 : ir 116 := by decide
theorem irc_101 : ir 101 := by decide
theorem irc_104 : ir 104 := by decide
theorem irc_112 : ir 112 := by decide
theorem irc_119 : ir 119 := by decide
theorem irc_108 : ir 108 := by decide
theorem irc_121 : ir 121 := by decide
theorem irc_98 : ir 98 := by decide
theorem irc_105 : ir 105 := by decide
theorem irc_102 : ir 102 := by decide
theorem irc_120 : ir 120 := by decide
theorem irc_109 : ir 109 := by decide
set_option maxRecDepth 100000 in
theorem cal_X12_wordOf : zCal yX12_wordOf cX12_wordOf 1 (some .long) 1 := ⟨(gw_7 (List.mem_of_getElem? (i := 29) rfl) rfl), (gw_1 (List.mem_of_getElem? (i := 17) (by decide +kernel)) rfl), by decide +kernel⟩
theorem sta_X12_wordOf : Cond.static yX12_wordOf ∈ gw_tbl := (gw_7 (List.mem_of_getElem? (i := 28) (by decide +kernel)) rfl)
theorem ml_X12_62 : zMl "ShadowHeirsModel" 62 yX12_wordOf := Or.inl (gw_7 (List.mem_of_getElem? (i := 27) (by decide +kernel)) rfl)
theorem irc_23 : ir 23 := by decide
theorem fl_X12_66 : zFl "ShadowHeirsModel" 66 12 10 := ⟨RX12, TX12, 47, tyX12, rfl, by decide, rfl, by decide, rfl, clw_12, tyX12_ok, nmX12, Or.inl (gw_6 (List.mem_of_getElem? (i := 99) (by decide +kernel)) rfl)⟩
theorem fp_12_10 : zFp 12 10 .int := fun T N C h => by
  cases h
  exact ⟨rfl, by decide +kernel⟩
theorem fl_X12_69 : zFl "ShadowHeirsModel" 69 12 11 := ⟨RX12, TX12, 47, tyX12, rfl, by decide, rfl, by decide, rfl, clw_12, tyX12_ok, nmX12, Or.inl (gw_6 (List.mem_of_getElem? (i := 100) (by decide +kernel)) rfl)⟩
theorem fp_12_11 : zFp 12 11 .int := fun T N C h => by
  cases h
  exact ⟨rfl, by decide +kernel⟩
set_option maxRecDepth 100000 in
theorem cal_X12_isIn : zCal yX12_isIn cX12_isIn 3 (some .boolean) 3 := ⟨(gw_7 (List.mem_of_getElem? (i := 47) rfl) rfl), (gw_1 (List.mem_of_getElem? (i := 17) (by decide +kernel)) rfl), by decide +kernel⟩
theorem sta_X12_isIn : Cond.static yX12_isIn ∈ gw_tbl := (gw_7 (List.mem_of_getElem? (i := 46) (by decide +kernel)) rfl)
theorem ml_X12_75 : zMl "ShadowHeirsModel" 75 yX12_isIn := Or.inl (gw_7 (List.mem_of_getElem? (i := 45) (by decide +kernel)) rfl)
set_option maxRecDepth 100000 in
theorem cal_X12_bad : zCal yX12_bad cX12_bad 2 (some .boolean) 1 := ⟨(gw_7 (List.mem_of_getElem? (i := 40) rfl) rfl), (gw_1 (List.mem_of_getElem? (i := 17) (by decide +kernel)) rfl), by decide +kernel⟩
theorem calv_X12_bad : zCalV yX12_bad := ⟨(gw_7 (List.mem_of_getElem? (i := 39) (by decide +kernel)) rfl), (gw_s (y := yX12_bad) (n := 47) (List.mem_of_getElem? (i := 44) (by decide +kernel)))⟩
theorem ml_X12_72 : zMl "ShadowHeirsModel" 72 yX12_bad := Or.inl (gw_7 (List.mem_of_getElem? (i := 37) (by decide +kernel)) rfl)
theorem fl_X12_79 : zFl "ShadowHeirsModel" 79 12 13 := ⟨RX12, TX12, 47, tyX12, rfl, by decide, rfl, by decide, rfl, clw_12, tyX12_ok, nmX12, Or.inl (gw_6 (List.mem_of_getElem? (i := 102) (by decide +kernel)) rfl)⟩
theorem fp_12_13 : zFp 12 13 .int := fun T N C h => by
  cases h
  exact ⟨rfl, by decide +kernel⟩
set_option maxRecDepth 100000 in
theorem cal_X12_go : zCal yX12_go cX12_go 5 none 0 := ⟨(gw_7 (List.mem_of_getElem? (i := 6) rfl) rfl), (gw_1 (List.mem_of_getElem? (i := 17) (by decide +kernel)) rfl), by decide +kernel⟩
theorem calv_X12_go : zCalV yX12_go := ⟨(gw_7 (List.mem_of_getElem? (i := 5) (by decide +kernel)) rfl), (gw_s (y := yX12_go) (n := 47) (List.mem_of_getElem? (i := 39) (by decide +kernel)))⟩
theorem ml_X12_82 : zMl "ShadowHeirsModel" 82 yX12_go := Or.inl (gw_7 (List.mem_of_getElem? (i := 3) (by decide +kernel)) rfl)
set_option maxRecDepth 100000 in
theorem cal_X12_isSign : zCal yX12_isSign cX12_isSign 2 (some .boolean) 1 := ⟨(gw_7 (List.mem_of_getElem? (i := 102) rfl) rfl), (gw_1 (List.mem_of_getElem? (i := 17) (by decide +kernel)) rfl), by decide +kernel⟩
theorem calv_X12_isSign : zCalV yX12_isSign := ⟨(gw_7 (List.mem_of_getElem? (i := 101) (by decide +kernel)) rfl), (gw_s (y := yX12_isSign) (n := 47) (List.mem_of_getElem? (i := 58) (by decide +kernel)))⟩
theorem ml_X12_86 : zMl "ShadowHeirsModel" 86 yX12_isSign := Or.inl (gw_7 (List.mem_of_getElem? (i := 99) (by decide +kernel)) rfl)
set_option maxRecDepth 100000 in
theorem cal_X12_take : zCal yX12_take cX12_take 2 (some .int) 0 := ⟨(gw_7 (List.mem_of_getElem? (i := 2) rfl) rfl), (gw_1 (List.mem_of_getElem? (i := 17) (by decide +kernel)) rfl), by decide +kernel⟩
theorem calv_X12_take : zCalV yX12_take := ⟨(gw_7 (List.mem_of_getElem? (i := 1) (by decide +kernel)) rfl), (gw_s (y := yX12_take) (n := 47) (List.mem_of_getElem? (i := 38) (by decide +kernel)))⟩
theorem ml_X12_89 : zMl "ShadowHeirsModel" 89 yX12_take := Or.inl (gw_6 (List.mem_of_getElem? (i := 239) (by decide +kernel)) rfl)
theorem fp_12_3 : zFp 12 3 .int := fun T N C h => by
  cases h
  exact ⟨rfl, by decide +kernel⟩
theorem fp_12_4 : zFp 12 4 .int := fun T N C h => by
  cases h
  exact ⟨rfl, by decide +kernel⟩
theorem fl_X12_98 : zFl "ShadowHeirsModel" 98 12 14 := ⟨RX12, TX12, 47, tyX12, rfl, by decide, rfl, by decide, rfl, clw_12, tyX12_ok, nmX12, Or.inl (gw_6 (List.mem_of_getElem? (i := 103) (by decide +kernel)) rfl)⟩
theorem zk_140 : zk 140 13 := by constructor <;> decide +kernel
theorem rf_138_14 : sRf 138 14 = 140 := by decide +kernel
theorem irc_64 : ir 64 := by decide
theorem irc_128 : ir 128 := by decide
theorem irc_42 : ir 42 := by decide
theorem irc_5 : ir 5 := by decide
theorem irc_15 : ir 15 := by decide
theorem irc_434 : ir 434 := by decide
theorem irc_106 : ir 106 := by decide
theorem fl_X12_117 : zFl "ShadowHeirsModel" 117 12 20 := ⟨RX12, TX12, 47, tyX12, rfl, by decide, rfl, by decide, rfl, clw_12, tyX12_ok, nmX12, Or.inl (gw_6 (List.mem_of_getElem? (i := 109) (by decide +kernel)) rfl)⟩
theorem zk_146 : zk 146 14 := by constructor <;> decide +kernel
theorem rf_138_20 : sRf 138 20 = 146 := by decide +kernel
theorem fl_X12_101 : zFl "ShadowHeirsModel" 101 12 15 := ⟨RX12, TX12, 47, tyX12, rfl, by decide, rfl, by decide, rfl, clw_12, tyX12_ok, nmX12, Or.inl (gw_6 (List.mem_of_getElem? (i := 104) (by decide +kernel)) rfl)⟩
theorem zk_141 : zk 141 13 := by constructor <;> decide +kernel
theorem rf_138_15 : sRf 138 15 = 141 := by decide +kernel
set_option maxRecDepth 100000 in
theorem cal_X12_isName : zCal yX12_isName cX12_isName 2 (some .boolean) 0 := ⟨(gw_7 (List.mem_of_getElem? (i := 79) rfl) rfl), (gw_1 (List.mem_of_getElem? (i := 17) (by decide +kernel)) rfl), by decide +kernel⟩
theorem calv_X12_isName : zCalV yX12_isName := ⟨(gw_7 (List.mem_of_getElem? (i := 78) (by decide +kernel)) rfl), (gw_s (y := yX12_isName) (n := 47) (List.mem_of_getElem? (i := 53) (by decide +kernel)))⟩
theorem ml_X12_166 : zMl "ShadowHeirsModel" 166 yX12_isName := Or.inl (gw_7 (List.mem_of_getElem? (i := 76) (by decide +kernel)) rfl)
set_option maxRecDepth 100000 in
theorem cal_X12_findIn : zCal yX12_findIn cX12_findIn 6 (some .int) 4 := ⟨(gw_7 (List.mem_of_getElem? (i := 82) rfl) rfl), (gw_1 (List.mem_of_getElem? (i := 17) (by decide +kernel)) rfl), by decide +kernel⟩
theorem sta_X12_findIn : Cond.static yX12_findIn ∈ gw_tbl := (gw_7 (List.mem_of_getElem? (i := 81) (by decide +kernel)) rfl)
theorem ml_X12_170 : zMl "ShadowHeirsModel" 170 yX12_findIn := Or.inl (gw_7 (List.mem_of_getElem? (i := 80) (by decide +kernel)) rfl)
theorem irc_8 : ir 8 := by decide
set_option maxRecDepth 100000 in
theorem cal_X12_isWord : zCal yX12_isWord cX12_isWord 2 (some .boolean) 1 := ⟨(gw_7 (List.mem_of_getElem? (i := 26) rfl) rfl), (gw_1 (List.mem_of_getElem? (i := 17) (by decide +kernel)) rfl), by decide +kernel⟩
theorem calv_X12_isWord : zCalV yX12_isWord := ⟨(gw_7 (List.mem_of_getElem? (i := 25) (by decide +kernel)) rfl), (gw_s (y := yX12_isWord) (n := 47) (List.mem_of_getElem? (i := 42) (by decide +kernel)))⟩
theorem ml_X12_174 : zMl "ShadowHeirsModel" 174 yX12_isWord := Or.inl (gw_7 (List.mem_of_getElem? (i := 23) (by decide +kernel)) rfl)
theorem fl_X12_177 : zFl "ShadowHeirsModel" 177 12 23 := ⟨RX12, TX12, 47, tyX12, rfl, by decide, rfl, by decide, rfl, clw_12, tyX12_ok, nmX12, Or.inl (gw_6 (List.mem_of_getElem? (i := 112) (by decide +kernel)) rfl)⟩
theorem fl_X12_181 : zFl "ShadowHeirsModel" 181 12 24 := ⟨RX12, TX12, 47, tyX12, rfl, by decide, rfl, by decide, rfl, clw_12, tyX12_ok, nmX12, Or.inl (gw_6 (List.mem_of_getElem? (i := 113) (by decide +kernel)) rfl)⟩
theorem fp_12_23 : zFp 12 23 .boolean := fun T N C h => by
  cases h
  exact ⟨rfl, by decide +kernel⟩
set_option maxRecDepth 100000 in
theorem cal_X12_readNumber : zCal yX12_readNumber cX12_readNumber 3 (some .boolean) 2 := ⟨(gw_7 (List.mem_of_getElem? (i := 44) rfl) rfl), (gw_1 (List.mem_of_getElem? (i := 17) (by decide +kernel)) rfl), by decide +kernel⟩
theorem calv_X12_readNumber : zCalV yX12_readNumber := ⟨(gw_7 (List.mem_of_getElem? (i := 43) (by decide +kernel)) rfl), (gw_s (y := yX12_readNumber) (n := 47) (List.mem_of_getElem? (i := 45) (by decide +kernel)))⟩
theorem ml_X12_184 : zMl "ShadowHeirsModel" 184 yX12_readNumber := Or.inl (gw_7 (List.mem_of_getElem? (i := 41) (by decide +kernel)) rfl)
set_option maxRecDepth 100000 in
theorem cal_X12_put : zCal yX12_put cX12_put 3 (some .boolean) 2 := ⟨(gw_7 (List.mem_of_getElem? (i := 51) rfl) rfl), (gw_1 (List.mem_of_getElem? (i := 17) (by decide +kernel)) rfl), by decide +kernel⟩
theorem calv_X12_put : zCalV yX12_put := ⟨(gw_7 (List.mem_of_getElem? (i := 50) (by decide +kernel)) rfl), (gw_s (y := yX12_put) (n := 47) (List.mem_of_getElem? (i := 46) (by decide +kernel)))⟩
theorem ml_X12_188 : zMl "ShadowHeirsModel" 188 yX12_put := Or.inl (gw_7 (List.mem_of_getElem? (i := 48) (by decide +kernel)) rfl)
theorem fp_12_24 : zFp 12 24 .boolean := fun T N C h => by
  cases h
  exact ⟨rfl, by decide +kernel⟩
set_option maxRecDepth 100000 in
theorem cal_X12_isFilled : zCal yX12_isFilled cX12_isFilled 5 (some .boolean) 2 := ⟨(gw_7 (List.mem_of_getElem? (i := 63) rfl) rfl), (gw_1 (List.mem_of_getElem? (i := 17) (by decide +kernel)) rfl), by decide +kernel⟩
theorem calv_X12_isFilled : zCalV yX12_isFilled := ⟨(gw_7 (List.mem_of_getElem? (i := 62) (by decide +kernel)) rfl), (gw_s (y := yX12_isFilled) (n := 47) (List.mem_of_getElem? (i := 49) (by decide +kernel)))⟩
theorem ml_X12_192 : zMl "ShadowHeirsModel" 192 yX12_isFilled := Or.inl (gw_7 (List.mem_of_getElem? (i := 60) (by decide +kernel)) rfl)
set_option maxRecDepth 100000 in
theorem cal_X12_readCell : zCal yX12_readCell cX12_readCell 3 (some .boolean) 1 := ⟨(gw_7 (List.mem_of_getElem? (i := 59) rfl) rfl), (gw_1 (List.mem_of_getElem? (i := 17) (by decide +kernel)) rfl), by decide +kernel⟩
theorem calv_X12_readCell : zCalV yX12_readCell := ⟨(gw_7 (List.mem_of_getElem? (i := 58) (by decide +kernel)) rfl), (gw_s (y := yX12_readCell) (n := 47) (List.mem_of_getElem? (i := 48) (by decide +kernel)))⟩
theorem ml_X12_195 : zMl "ShadowHeirsModel" 195 yX12_readCell := Or.inl (gw_7 (List.mem_of_getElem? (i := 56) (by decide +kernel)) rfl)
theorem irc_9 : ir 9 := by decide
set_option maxRecDepth 100000 in
theorem cal_X12_readFirst : zCal yX12_readFirst cX12_readFirst 3 (some .boolean) 2 := ⟨(gw_7 (List.mem_of_getElem? (i := 71) rfl) rfl), (gw_1 (List.mem_of_getElem? (i := 17) (by decide +kernel)) rfl), by decide +kernel⟩
theorem calv_X12_readFirst : zCalV yX12_readFirst := ⟨(gw_7 (List.mem_of_getElem? (i := 70) (by decide +kernel)) rfl), (gw_s (y := yX12_readFirst) (n := 47) (List.mem_of_getElem? (i := 51) (by decide +kernel)))⟩
theorem ml_X12_199 : zMl "ShadowHeirsModel" 199 yX12_readFirst := Or.inl (gw_7 (List.mem_of_getElem? (i := 68) (by decide +kernel)) rfl)
set_option maxRecDepth 100000 in
theorem cal_X12_readNew : zCal yX12_readNew cX12_readNew 2 (some .boolean) 1 := ⟨(gw_7 (List.mem_of_getElem? (i := 75) rfl) rfl), (gw_1 (List.mem_of_getElem? (i := 17) (by decide +kernel)) rfl), by decide +kernel⟩
theorem calv_X12_readNew : zCalV yX12_readNew := ⟨(gw_7 (List.mem_of_getElem? (i := 74) (by decide +kernel)) rfl), (gw_s (y := yX12_readNew) (n := 47) (List.mem_of_getElem? (i := 52) (by decide +kernel)))⟩
theorem ml_X12_202 : zMl "ShadowHeirsModel" 202 yX12_readNew := Or.inl (gw_7 (List.mem_of_getElem? (i := 72) (by decide +kernel)) rfl)
theorem irc_99 : ir 99 := by decide
theorem irc_26 : ir 26 := by decide
set_option maxRecDepth 100000 in
theorem cal_X12_readSide : zCal yX12_readSide cX12_readSide 2 (some .boolean) 0 := ⟨(gw_7 (List.mem_of_getElem? (i := 94) rfl) rfl), (gw_1 (List.mem_of_getElem? (i := 17) (by decide +kernel)) rfl), by decide +kernel⟩
theorem calv_X12_readSide : zCalV yX12_readSide := ⟨(gw_7 (List.mem_of_getElem? (i := 93) (by decide +kernel)) rfl), (gw_s (y := yX12_readSide) (n := 47) (List.mem_of_getElem? (i := 56) (by decide +kernel)))⟩
theorem ml_X12_205 : zMl "ShadowHeirsModel" 205 yX12_readSide := Or.inl (gw_7 (List.mem_of_getElem? (i := 91) (by decide +kernel)) rfl)
theorem irc_34 : ir 34 := by decide
set_option maxRecDepth 100000 in
theorem cal_X12_readSun : zCal yX12_readSun cX12_readSun 2 (some .boolean) 0 := ⟨(gw_7 (List.mem_of_getElem? (i := 90) rfl) rfl), (gw_1 (List.mem_of_getElem? (i := 17) (by decide +kernel)) rfl), by decide +kernel⟩
theorem calv_X12_readSun : zCalV yX12_readSun := ⟨(gw_7 (List.mem_of_getElem? (i := 89) (by decide +kernel)) rfl), (gw_s (y := yX12_readSun) (n := 47) (List.mem_of_getElem? (i := 55) (by decide +kernel)))⟩
theorem ml_X12_220 : zMl "ShadowHeirsModel" 220 yX12_readSun := Or.inl (gw_7 (List.mem_of_getElem? (i := 87) (by decide +kernel)) rfl)
set_option maxRecDepth 100000 in
theorem cal_X12_readPerson : zCal yX12_readPerson cX12_readPerson 2 (some .boolean) 0 := ⟨(gw_7 (List.mem_of_getElem? (i := 86) rfl) rfl), (gw_1 (List.mem_of_getElem? (i := 17) (by decide +kernel)) rfl), by decide +kernel⟩
theorem calv_X12_readPerson : zCalV yX12_readPerson := ⟨(gw_7 (List.mem_of_getElem? (i := 85) (by decide +kernel)) rfl), (gw_s (y := yX12_readPerson) (n := 47) (List.mem_of_getElem? (i := 54) (by decide +kernel)))⟩
theorem ml_X12_217 : zMl "ShadowHeirsModel" 217 yX12_readPerson := Or.inl (gw_7 (List.mem_of_getElem? (i := 83) (by decide +kernel)) rfl)
set_option maxRecDepth 100000 in
theorem cal_X12_readHouse : zCal yX12_readHouse cX12_readHouse 2 (some .boolean) 0 := ⟨(gw_7 (List.mem_of_getElem? (i := 67) rfl) rfl), (gw_1 (List.mem_of_getElem? (i := 17) (by decide +kernel)) rfl), by decide +kernel⟩
theorem calv_X12_readHouse : zCalV yX12_readHouse := ⟨(gw_7 (List.mem_of_getElem? (i := 66) (by decide +kernel)) rfl), (gw_s (y := yX12_readHouse) (n := 47) (List.mem_of_getElem? (i := 50) (by decide +kernel)))⟩
theorem ml_X12_214 : zMl "ShadowHeirsModel" 214 yX12_readHouse := Or.inl (gw_7 (List.mem_of_getElem? (i := 64) (by decide +kernel)) rfl)
set_option maxRecDepth 100000 in
theorem cal_X12_readStones : zCal yX12_readStones cX12_readStones 2 (some .boolean) 0 := ⟨(gw_7 (List.mem_of_getElem? (i := 55) rfl) rfl), (gw_1 (List.mem_of_getElem? (i := 17) (by decide +kernel)) rfl), by decide +kernel⟩
theorem calv_X12_readStones : zCalV yX12_readStones := ⟨(gw_7 (List.mem_of_getElem? (i := 54) (by decide +kernel)) rfl), (gw_s (y := yX12_readStones) (n := 47) (List.mem_of_getElem? (i := 47) (by decide +kernel)))⟩
theorem ml_X12_211 : zMl "ShadowHeirsModel" 211 yX12_readStones := Or.inl (gw_7 (List.mem_of_getElem? (i := 52) (by decide +kernel)) rfl)
set_option maxRecDepth 100000 in
theorem cal_X12_readGround : zCal yX12_readGround cX12_readGround 1 (some .boolean) 0 := ⟨(gw_7 (List.mem_of_getElem? (i := 36) rfl) rfl), (gw_1 (List.mem_of_getElem? (i := 17) (by decide +kernel)) rfl), by decide +kernel⟩
theorem calv_X12_readGround : zCalV yX12_readGround := ⟨(gw_7 (List.mem_of_getElem? (i := 35) (by decide +kernel)) rfl), (gw_s (y := yX12_readGround) (n := 47) (List.mem_of_getElem? (i := 43) (by decide +kernel)))⟩
theorem ml_X12_208 : zMl "ShadowHeirsModel" 208 yX12_readGround := Or.inl (gw_7 (List.mem_of_getElem? (i := 33) (by decide +kernel)) rfl)
theorem fl_X12_113 : zFl "ShadowHeirsModel" 113 12 19 := ⟨RX12, TX12, 47, tyX12, rfl, by decide, rfl, by decide, rfl, clw_12, tyX12_ok, nmX12, Or.inl (gw_6 (List.mem_of_getElem? (i := 108) (by decide +kernel)) rfl)⟩
theorem zk_145 : zk 145 14 := by constructor <;> decide +kernel
theorem rf_138_19 : sRf 138 19 = 145 := by decide +kernel
theorem irc_11 : ir 11 := by decide
set_option maxRecDepth 100000 in
theorem cal_X12_startSo : zCal yX12_startSo cX12_startSo 2 none 0 := ⟨(gw_6 (List.mem_of_getElem? (i := 88) rfl) rfl), (gw_1 (List.mem_of_getElem? (i := 17) (by decide +kernel)) rfl), by decide +kernel⟩
theorem calv_X12_startSo : zCalV yX12_startSo := ⟨(gw_6 (List.mem_of_getElem? (i := 87) (by decide +kernel)) rfl), (gw_s (y := yX12_startSo) (n := 47) (List.mem_of_getElem? (i := 36) (by decide +kernel)))⟩
theorem ml_X12_163 : zMl "ShadowHeirsModel" 163 yX12_startSo := Or.inl (gw_6 (List.mem_of_getElem? (i := 85) (by decide +kernel)) rfl)
theorem fl_X12_232 : zFl "ShadowHeirsModel" 232 12 25 := ⟨RX12, TX12, 47, tyX12, rfl, by decide, rfl, by decide, rfl, clw_12, tyX12_ok, nmX12, Or.inl (gw_6 (List.mem_of_getElem? (i := 114) (by decide +kernel)) rfl)⟩
theorem fp_12_25 : zFp 12 25 .int := fun T N C h => by
  cases h
  exact ⟨rfl, by decide +kernel⟩
set_option maxRecDepth 100000 in
theorem cal_X12_readLine : zCal yX12_readLine cX12_readLine 1 (some .boolean) 0 := ⟨(gw_7 (List.mem_of_getElem? (i := 22) rfl) rfl), (gw_1 (List.mem_of_getElem? (i := 17) (by decide +kernel)) rfl), by decide +kernel⟩
theorem calv_X12_readLine : zCalV yX12_readLine := ⟨(gw_7 (List.mem_of_getElem? (i := 21) (by decide +kernel)) rfl), (gw_s (y := yX12_readLine) (n := 47) (List.mem_of_getElem? (i := 41) (by decide +kernel)))⟩
theorem ml_X12_226 : zMl "ShadowHeirsModel" 226 yX12_readLine := Or.inl (gw_7 (List.mem_of_getElem? (i := 19) (by decide +kernel)) rfl)
set_option maxRecDepth 100000 in
theorem cal_X12_readEnd : zCal yX12_readEnd cX12_readEnd 1 (some .boolean) 0 := ⟨(gw_7 (List.mem_of_getElem? (i := 98) rfl) rfl), (gw_1 (List.mem_of_getElem? (i := 17) (by decide +kernel)) rfl), by decide +kernel⟩
theorem calv_X12_readEnd : zCalV yX12_readEnd := ⟨(gw_7 (List.mem_of_getElem? (i := 97) (by decide +kernel)) rfl), (gw_s (y := yX12_readEnd) (n := 47) (List.mem_of_getElem? (i := 57) (by decide +kernel)))⟩
theorem ml_X12_229 : zMl "ShadowHeirsModel" 229 yX12_readEnd := Or.inl (gw_7 (List.mem_of_getElem? (i := 95) (by decide +kernel)) rfl)
theorem irc_900 : ir 900 := by decide
set_option maxRecDepth 100000 in
theorem cal_X12_begin : zCal yX12_begin cX12_begin 2 none 1 := ⟨(gw_6 (List.mem_of_getElem? (i := 238) rfl) rfl), (gw_1 (List.mem_of_getElem? (i := 17) (by decide +kernel)) rfl), by decide +kernel⟩
theorem calv_X12_begin : zCalV yX12_begin := ⟨(gw_6 (List.mem_of_getElem? (i := 237) (by decide +kernel)) rfl), (gw_s (y := yX12_begin) (n := 47) (List.mem_of_getElem? (i := 37) (by decide +kernel)))⟩
theorem ml_X12_223 : zMl "ShadowHeirsModel" 223 yX12_begin := Or.inl (gw_6 (List.mem_of_getElem? (i := 235) (by decide +kernel)) rfl)
theorem irc_107 : ir 107 := by decide
set_option maxRecDepth 100000 in
theorem cal_X12_has : zCal yX12_has cX12_has 2 (some .boolean) 2 := ⟨(gw_7 (List.mem_of_getElem? (i := 164) rfl) rfl), (gw_1 (List.mem_of_getElem? (i := 17) (by decide +kernel)) rfl), by decide +kernel⟩
theorem sta_X12_has : Cond.static yX12_has ∈ gw_tbl := (gw_7 (List.mem_of_getElem? (i := 163) (by decide +kernel)) rfl)
theorem ml_X12_235 : zMl "ShadowHeirsModel" 235 yX12_has := Or.inl (gw_7 (List.mem_of_getElem? (i := 162) (by decide +kernel)) rfl)
set_option maxRecDepth 100000 in
theorem cal_X12_houseAt : zCal yX12_houseAt cX12_houseAt 3 (some .int) 1 := ⟨(gw_7 (List.mem_of_getElem? (i := 122) rfl) rfl), (gw_1 (List.mem_of_getElem? (i := 17) (by decide +kernel)) rfl), by decide +kernel⟩
theorem calv_X12_houseAt : zCalV yX12_houseAt := ⟨(gw_7 (List.mem_of_getElem? (i := 121) (by decide +kernel)) rfl), (gw_s (y := yX12_houseAt) (n := 47) (List.mem_of_getElem? (i := 61) (by decide +kernel)))⟩
theorem ml_X12_238 : zMl "ShadowHeirsModel" 238 yX12_houseAt := Or.inl (gw_7 (List.mem_of_getElem? (i := 119) (by decide +kernel)) rfl)
set_option maxRecDepth 100000 in
theorem cal_X12_heightOf : zCal yX12_heightOf cX12_heightOf 2 (some .int) 1 := ⟨(gw_7 (List.mem_of_getElem? (i := 118) rfl) rfl), (gw_1 (List.mem_of_getElem? (i := 17) (by decide +kernel)) rfl), by decide +kernel⟩
theorem calv_X12_heightOf : zCalV yX12_heightOf := ⟨(gw_7 (List.mem_of_getElem? (i := 117) (by decide +kernel)) rfl), (gw_s (y := yX12_heightOf) (n := 47) (List.mem_of_getElem? (i := 60) (by decide +kernel)))⟩
theorem ml_X12_241 : zMl "ShadowHeirsModel" 241 yX12_heightOf := Or.inl (gw_7 (List.mem_of_getElem? (i := 115) (by decide +kernel)) rfl)
set_option maxRecDepth 100000 in
theorem cal_X12_isCell : zCal yX12_isCell cX12_isCell 3 (some .boolean) 2 := ⟨(gw_7 (List.mem_of_getElem? (i := 114) rfl) rfl), (gw_1 (List.mem_of_getElem? (i := 17) (by decide +kernel)) rfl), by decide +kernel⟩
theorem calv_X12_isCell : zCalV yX12_isCell := ⟨(gw_7 (List.mem_of_getElem? (i := 113) (by decide +kernel)) rfl), (gw_s (y := yX12_isCell) (n := 47) (List.mem_of_getElem? (i := 59) (by decide +kernel)))⟩
theorem ml_X12_244 : zMl "ShadowHeirsModel" 244 yX12_isCell := Or.inl (gw_7 (List.mem_of_getElem? (i := 111) (by decide +kernel)) rfl)
set_option maxRecDepth 100000 in
theorem cal_X12_nextTo : zCal yX12_nextTo cX12_nextTo 5 (some .int) 2 := ⟨(gw_7 (List.mem_of_getElem? (i := 142) rfl) rfl), (gw_1 (List.mem_of_getElem? (i := 17) (by decide +kernel)) rfl), by decide +kernel⟩
theorem calv_X12_nextTo : zCalV yX12_nextTo := ⟨(gw_7 (List.mem_of_getElem? (i := 141) (by decide +kernel)) rfl), (gw_s (y := yX12_nextTo) (n := 47) (List.mem_of_getElem? (i := 66) (by decide +kernel)))⟩
theorem ml_X12_247 : zMl "ShadowHeirsModel" 247 yX12_nextTo := Or.inl (gw_7 (List.mem_of_getElem? (i := 139) (by decide +kernel)) rfl)
theorem lrc_1 : lr 1 := by decide
set_option maxRecDepth 100000 in
theorem cal_X12_isCast : zCal yX12_isCast cX12_isCast 3 (some .boolean) 2 := ⟨(gw_7 (List.mem_of_getElem? (i := 145) rfl) rfl), (gw_1 (List.mem_of_getElem? (i := 17) (by decide +kernel)) rfl), by decide +kernel⟩
theorem sta_X12_isCast : Cond.static yX12_isCast ∈ gw_tbl := (gw_7 (List.mem_of_getElem? (i := 144) (by decide +kernel)) rfl)
theorem ml_X12_255 : zMl "ShadowHeirsModel" 255 yX12_isCast := Or.inl (gw_7 (List.mem_of_getElem? (i := 143) (by decide +kernel)) rfl)
set_option maxRecDepth 100000 in
theorem cal_X12_shadowOf : zCal yX12_shadowOf cX12_shadowOf 7 (some .long) 2 := ⟨(gw_7 (List.mem_of_getElem? (i := 138) rfl) rfl), (gw_1 (List.mem_of_getElem? (i := 17) (by decide +kernel)) rfl), by decide +kernel⟩
theorem calv_X12_shadowOf : zCalV yX12_shadowOf := ⟨(gw_7 (List.mem_of_getElem? (i := 137) (by decide +kernel)) rfl), (gw_s (y := yX12_shadowOf) (n := 47) (List.mem_of_getElem? (i := 65) (by decide +kernel)))⟩
theorem ml_X12_251 : zMl "ShadowHeirsModel" 251 yX12_shadowOf := Or.inl (gw_7 (List.mem_of_getElem? (i := 135) (by decide +kernel)) rfl)
set_option maxRecDepth 100000 in
theorem cal_X12_sunNow : zCal yX12_sunNow cX12_sunNow 1 (some .int) 0 := ⟨(gw_7 (List.mem_of_getElem? (i := 134) rfl) rfl), (gw_1 (List.mem_of_getElem? (i := 17) (by decide +kernel)) rfl), by decide +kernel⟩
theorem calv_X12_sunNow : zCalV yX12_sunNow := ⟨(gw_7 (List.mem_of_getElem? (i := 133) (by decide +kernel)) rfl), (gw_s (y := yX12_sunNow) (n := 47) (List.mem_of_getElem? (i := 64) (by decide +kernel)))⟩
theorem ml_X12_259 : zMl "ShadowHeirsModel" 259 yX12_sunNow := Or.inl (gw_7 (List.mem_of_getElem? (i := 131) (by decide +kernel)) rfl)
set_option maxRecDepth 100000 in
theorem cal_X12_personsAt : zCal yX12_personsAt cX12_personsAt 4 (some .int) 1 := ⟨(gw_7 (List.mem_of_getElem? (i := 126) rfl) rfl), (gw_1 (List.mem_of_getElem? (i := 17) (by decide +kernel)) rfl), by decide +kernel⟩
theorem calv_X12_personsAt : zCalV yX12_personsAt := ⟨(gw_7 (List.mem_of_getElem? (i := 125) (by decide +kernel)) rfl), (gw_s (y := yX12_personsAt) (n := 47) (List.mem_of_getElem? (i := 62) (by decide +kernel)))⟩
theorem ml_X12_262 : zMl "ShadowHeirsModel" 262 yX12_personsAt := Or.inl (gw_7 (List.mem_of_getElem? (i := 123) (by decide +kernel)) rfl)
set_option maxRecDepth 100000 in
theorem cal_X12_shadowsOn : zCal yX12_shadowsOn cX12_shadowsOn 4 (some .int) 1 := ⟨(gw_7 (List.mem_of_getElem? (i := 130) rfl) rfl), (gw_1 (List.mem_of_getElem? (i := 17) (by decide +kernel)) rfl), by decide +kernel⟩
theorem calv_X12_shadowsOn : zCalV yX12_shadowsOn := ⟨(gw_7 (List.mem_of_getElem? (i := 129) (by decide +kernel)) rfl), (gw_s (y := yX12_shadowsOn) (n := 47) (List.mem_of_getElem? (i := 63) (by decide +kernel)))⟩
theorem ml_X12_265 : zMl "ShadowHeirsModel" 265 yX12_shadowsOn := Or.inl (gw_7 (List.mem_of_getElem? (i := 127) (by decide +kernel)) rfl)
set_option maxRecDepth 100000 in
theorem cal_X12_isHouse : zCal yX12_isHouse cX12_isHouse 2 (some .boolean) 1 := ⟨(gw_7 (List.mem_of_getElem? (i := 153) rfl) rfl), (gw_1 (List.mem_of_getElem? (i := 17) (by decide +kernel)) rfl), by decide +kernel⟩
theorem calv_X12_isHouse : zCalV yX12_isHouse := ⟨(gw_7 (List.mem_of_getElem? (i := 152) (by decide +kernel)) rfl), (gw_s (y := yX12_isHouse) (n := 47) (List.mem_of_getElem? (i := 67) (by decide +kernel)))⟩
theorem ml_X12_268 : zMl "ShadowHeirsModel" 268 yX12_isHouse := Or.inl (gw_7 (List.mem_of_getElem? (i := 150) (by decide +kernel)) rfl)
set_option maxRecDepth 100000 in
theorem cal_X12_refuse : zCal yX12_refuse cX12_refuse 1 (some .int) 0 := ⟨(gw_7 (List.mem_of_getElem? (i := 157) rfl) rfl), (gw_1 (List.mem_of_getElem? (i := 17) (by decide +kernel)) rfl), by decide +kernel⟩
theorem calv_X12_refuse : zCalV yX12_refuse := ⟨(gw_7 (List.mem_of_getElem? (i := 156) (by decide +kernel)) rfl), (gw_s (y := yX12_refuse) (n := 47) (List.mem_of_getElem? (i := 68) (by decide +kernel)))⟩
theorem ml_X12_271 : zMl "ShadowHeirsModel" 271 yX12_refuse := Or.inl (gw_7 (List.mem_of_getElem? (i := 154) (by decide +kernel)) rfl)
set_option maxRecDepth 100000 in
theorem cal_X12_isBuried : zCal yX12_isBuried cX12_isBuried 2 (some .boolean) 1 := ⟨(gw_7 (List.mem_of_getElem? (i := 161) rfl) rfl), (gw_1 (List.mem_of_getElem? (i := 17) (by decide +kernel)) rfl), by decide +kernel⟩
theorem calv_X12_isBuried : zCalV yX12_isBuried := ⟨(gw_7 (List.mem_of_getElem? (i := 160) (by decide +kernel)) rfl), (gw_s (y := yX12_isBuried) (n := 47) (List.mem_of_getElem? (i := 69) (by decide +kernel)))⟩
theorem ml_X12_274 : zMl "ShadowHeirsModel" 274 yX12_isBuried := Or.inl (gw_7 (List.mem_of_getElem? (i := 158) (by decide +kernel)) rfl)
set_option maxRecDepth 100000 in
theorem cal_X12_touchedBy : zCal yX12_touchedBy cX12_touchedBy 7 (some .int) 2 := ⟨(gw_7 (List.mem_of_getElem? (i := 168) rfl) rfl), (gw_1 (List.mem_of_getElem? (i := 17) (by decide +kernel)) rfl), by decide +kernel⟩
theorem calv_X12_touchedBy : zCalV yX12_touchedBy := ⟨(gw_7 (List.mem_of_getElem? (i := 167) (by decide +kernel)) rfl), (gw_s (y := yX12_touchedBy) (n := 47) (List.mem_of_getElem? (i := 70) (by decide +kernel)))⟩
theorem ml_X12_277 : zMl "ShadowHeirsModel" 277 yX12_touchedBy := Or.inl (gw_7 (List.mem_of_getElem? (i := 165) (by decide +kernel)) rfl)
set_option maxRecDepth 100000 in
theorem cal_X12_sum : zCal yX12_sum cX12_sum 5 (some .int) 2 := ⟨(gw_7 (List.mem_of_getElem? (i := 192) rfl) rfl), (gw_1 (List.mem_of_getElem? (i := 17) (by decide +kernel)) rfl), by decide +kernel⟩
theorem calv_X12_sum : zCalV yX12_sum := ⟨(gw_7 (List.mem_of_getElem? (i := 191) (by decide +kernel)) rfl), (gw_s (y := yX12_sum) (n := 47) (List.mem_of_getElem? (i := 74) (by decide +kernel)))⟩
theorem ml_X12_286 : zMl "ShadowHeirsModel" 286 yX12_sum := Or.inl (gw_7 (List.mem_of_getElem? (i := 189) (by decide +kernel)) rfl)
theorem fl_X12_107 : zFl "ShadowHeirsModel" 107 12 17 := ⟨RX12, TX12, 47, tyX12, rfl, by decide, rfl, by decide, rfl, clw_12, tyX12_ok, nmX12, Or.inl (gw_6 (List.mem_of_getElem? (i := 106) (by decide +kernel)) rfl)⟩
theorem zk_143 : zk 143 13 := by constructor <;> decide +kernel
theorem rf_138_17 : sRf 138 17 = 143 := by decide +kernel
theorem irc_86 : ir 86 := by decide
theorem irc_602 : ir 602 := by decide
set_option maxRecDepth 100000 in
theorem cal_X12_isOpen : zCal yX12_isOpen cX12_isOpen 2 (some .boolean) 1 := ⟨(gw_7 (List.mem_of_getElem? (i := 184) rfl) rfl), (gw_1 (List.mem_of_getElem? (i := 17) (by decide +kernel)) rfl), by decide +kernel⟩
theorem calv_X12_isOpen : zCalV yX12_isOpen := ⟨(gw_7 (List.mem_of_getElem? (i := 183) (by decide +kernel)) rfl), (gw_s (y := yX12_isOpen) (n := 47) (List.mem_of_getElem? (i := 73) (by decide +kernel)))⟩
theorem ml_X12_289 : zMl "ShadowHeirsModel" 289 yX12_isOpen := Or.inl (gw_7 (List.mem_of_getElem? (i := 181) (by decide +kernel)) rfl)
set_option maxRecDepth 100000 in
theorem cal_X12_whyGo : zCal yX12_whyGo cX12_whyGo 4 (some .int) 2 := ⟨(gw_7 (List.mem_of_getElem? (i := 180) rfl) rfl), (gw_1 (List.mem_of_getElem? (i := 17) (by decide +kernel)) rfl), by decide +kernel⟩
theorem calv_X12_whyGo : zCalV yX12_whyGo := ⟨(gw_7 (List.mem_of_getElem? (i := 179) (by decide +kernel)) rfl), (gw_s (y := yX12_whyGo) (n := 47) (List.mem_of_getElem? (i := 72) (by decide +kernel)))⟩
theorem ml_X12_283 : zMl "ShadowHeirsModel" 283 yX12_whyGo := Or.inl (gw_7 (List.mem_of_getElem? (i := 177) (by decide +kernel)) rfl)
set_option maxRecDepth 100000 in
theorem cal_X12_whyLay : zCal yX12_whyLay cX12_whyLay 2 (some .int) 1 := ⟨(gw_7 (List.mem_of_getElem? (i := 208) rfl) rfl), (gw_1 (List.mem_of_getElem? (i := 17) (by decide +kernel)) rfl), by decide +kernel⟩
theorem calv_X12_whyLay : zCalV yX12_whyLay := ⟨(gw_7 (List.mem_of_getElem? (i := 207) (by decide +kernel)) rfl), (gw_s (y := yX12_whyLay) (n := 47) (List.mem_of_getElem? (i := 77) (by decide +kernel)))⟩
theorem ml_X12_292 : zMl "ShadowHeirsModel" 292 yX12_whyLay := Or.inl (gw_7 (List.mem_of_getElem? (i := 205) (by decide +kernel)) rfl)
set_option maxRecDepth 100000 in
theorem cal_X12_bits : zCal yX12_bits cX12_bits 3 (some .int) 1 := ⟨(gw_7 (List.mem_of_getElem? (i := 223) rfl) rfl), (gw_1 (List.mem_of_getElem? (i := 17) (by decide +kernel)) rfl), by decide +kernel⟩
theorem sta_X12_bits : Cond.static yX12_bits ∈ gw_tbl := (gw_7 (List.mem_of_getElem? (i := 222) (by decide +kernel)) rfl)
theorem ml_X12_295 : zMl "ShadowHeirsModel" 295 yX12_bits := Or.inl (gw_7 (List.mem_of_getElem? (i := 221) (by decide +kernel)) rfl)
set_option maxRecDepth 100000 in
theorem cal_X12_doBury : zCal yX12_doBury cX12_doBury 5 none 1 := ⟨(gw_7 (List.mem_of_getElem? (i := 220) rfl) rfl), (gw_1 (List.mem_of_getElem? (i := 17) (by decide +kernel)) rfl), by decide +kernel⟩
theorem calv_X12_doBury : zCalV yX12_doBury := ⟨(gw_7 (List.mem_of_getElem? (i := 219) (by decide +kernel)) rfl), (gw_s (y := yX12_doBury) (n := 47) (List.mem_of_getElem? (i := 80) (by decide +kernel)))⟩
theorem ml_X12_298 : zMl "ShadowHeirsModel" 298 yX12_doBury := Or.inl (gw_7 (List.mem_of_getElem? (i := 217) (by decide +kernel)) rfl)
set_option maxRecDepth 100000 in
theorem cal_X12_why : zCal yX12_why cX12_why 4 (some .int) 3 := ⟨(gw_7 (List.mem_of_getElem? (i := 204) rfl) rfl), (gw_1 (List.mem_of_getElem? (i := 17) (by decide +kernel)) rfl), by decide +kernel⟩
theorem calv_X12_why : zCalV yX12_why := ⟨(gw_7 (List.mem_of_getElem? (i := 203) (by decide +kernel)) rfl), (gw_s (y := yX12_why) (n := 47) (List.mem_of_getElem? (i := 76) (by decide +kernel)))⟩
theorem ml_X12_301 : zMl "ShadowHeirsModel" 301 yX12_why := Or.inl (gw_7 (List.mem_of_getElem? (i := 201) (by decide +kernel)) rfl)
set_option maxRecDepth 100000 in
theorem cal_X12_snap : zCal yX12_snap cX12_snap 2 none 0 := ⟨(gw_7 (List.mem_of_getElem? (i := 212) rfl) rfl), (gw_1 (List.mem_of_getElem? (i := 17) (by decide +kernel)) rfl), by decide +kernel⟩
theorem calv_X12_snap : zCalV yX12_snap := ⟨(gw_7 (List.mem_of_getElem? (i := 211) (by decide +kernel)) rfl), (gw_s (y := yX12_snap) (n := 47) (List.mem_of_getElem? (i := 78) (by decide +kernel)))⟩
theorem ml_X12_305 : zMl "ShadowHeirsModel" 305 yX12_snap := Or.inl (gw_7 (List.mem_of_getElem? (i := 209) (by decide +kernel)) rfl)
set_option maxRecDepth 100000 in
theorem cal_X12_live : zCal yX12_live cX12_live 4 none 3 := ⟨(gw_7 (List.mem_of_getElem? (i := 216) rfl) rfl), (gw_1 (List.mem_of_getElem? (i := 17) (by decide +kernel)) rfl), by decide +kernel⟩
theorem calv_X12_live : zCalV yX12_live := ⟨(gw_7 (List.mem_of_getElem? (i := 215) (by decide +kernel)) rfl), (gw_s (y := yX12_live) (n := 47) (List.mem_of_getElem? (i := 79) (by decide +kernel)))⟩
theorem ml_X12_308 : zMl "ShadowHeirsModel" 308 yX12_live := Or.inl (gw_7 (List.mem_of_getElem? (i := 213) (by decide +kernel)) rfl)
set_option maxRecDepth 100000 in
theorem cal_X12_isPerson : zCal yX12_isPerson cX12_isPerson 2 (some .boolean) 1 := ⟨(gw_7 (List.mem_of_getElem? (i := 176) rfl) rfl), (gw_1 (List.mem_of_getElem? (i := 17) (by decide +kernel)) rfl), by decide +kernel⟩
theorem calv_X12_isPerson : zCalV yX12_isPerson := ⟨(gw_7 (List.mem_of_getElem? (i := 175) (by decide +kernel)) rfl), (gw_s (y := yX12_isPerson) (n := 47) (List.mem_of_getElem? (i := 71) (by decide +kernel)))⟩
theorem ml_X12_280 : zMl "ShadowHeirsModel" 280 yX12_isPerson := Or.inl (gw_7 (List.mem_of_getElem? (i := 173) (by decide +kernel)) rfl)
set_option maxRecDepth 100000 in
theorem cal_X12_act : zCal yX12_act cX12_act 6 (some .int) 4 := ⟨(gw_7 (List.mem_of_getElem? (i := 200) rfl) rfl), (gw_1 (List.mem_of_getElem? (i := 17) (by decide +kernel)) rfl), by decide +kernel⟩
theorem calv_X12_act : zCalV yX12_act := ⟨(gw_7 (List.mem_of_getElem? (i := 199) (by decide +kernel)) rfl), (gw_s (y := yX12_act) (n := 47) (List.mem_of_getElem? (i := 75) (by decide +kernel)))⟩
theorem ml_X12_312 : zMl "ShadowHeirsModel" 312 yX12_act := Or.inl (gw_7 (List.mem_of_getElem? (i := 197) (by decide +kernel)) rfl)
theorem irc_400 : ir 400 := by decide
set_option maxRecDepth 100000 in
theorem cal_X12_least : zCal yX12_least cX12_least 2 (some .int) 2 := ⟨(gw_8 (List.mem_of_getElem? (i := 10) rfl) rfl), (gw_1 (List.mem_of_getElem? (i := 17) (by decide +kernel)) rfl), by decide +kernel⟩
theorem sta_X12_least : Cond.static yX12_least ∈ gw_tbl := (gw_8 (List.mem_of_getElem? (i := 9) (by decide +kernel)) rfl)
theorem ml_X12_316 : zMl "ShadowHeirsModel" 316 yX12_least := Or.inl (gw_8 (List.mem_of_getElem? (i := 8) (by decide +kernel)) rfl)
set_option maxRecDepth 100000 in
theorem cal_X12_passHours : zCal yX12_passHours cX12_passHours 3 (some .int) 1 := ⟨(gw_8 (List.mem_of_getElem? (i := 7) rfl) rfl), (gw_1 (List.mem_of_getElem? (i := 17) (by decide +kernel)) rfl), by decide +kernel⟩
theorem calv_X12_passHours : zCalV yX12_passHours := ⟨(gw_8 (List.mem_of_getElem? (i := 6) (by decide +kernel)) rfl), (gw_s (y := yX12_passHours) (n := 47) (List.mem_of_getElem? (i := 81) (by decide +kernel)))⟩
theorem ml_X12_319 : zMl "ShadowHeirsModel" 319 yX12_passHours := Or.inl (gw_8 (List.mem_of_getElem? (i := 4) (by decide +kernel)) rfl)
set_option maxRecDepth 100000 in
theorem cal_X12_isSun : zCal yX12_isSun cX12_isSun 2 (some .boolean) 1 := ⟨(gw_8 (List.mem_of_getElem? (i := 18) rfl) rfl), (gw_1 (List.mem_of_getElem? (i := 17) (by decide +kernel)) rfl), by decide +kernel⟩
theorem calv_X12_isSun : zCalV yX12_isSun := ⟨(gw_8 (List.mem_of_getElem? (i := 17) (by decide +kernel)) rfl), (gw_s (y := yX12_isSun) (n := 47) (List.mem_of_getElem? (i := 82) (by decide +kernel)))⟩
theorem ml_X12_322 : zMl "ShadowHeirsModel" 322 yX12_isSun := Or.inl (gw_8 (List.mem_of_getElem? (i := 15) (by decide +kernel)) rfl)
theorem kc_X12_325 : Cond.constant "ShadowHeirsModel" 325 (i32 100000) ∈ gw_tbl := (gw_8 (List.mem_of_getElem? (i := 31) (by decide +kernel)) rfl)
theorem irc_100000 : ir 100000 := by decide
theorem fl_X12_127 : zFl "ShadowHeirsModel" 127 12 26 := ⟨RX12, TX12, 47, tyX12, rfl, by decide, rfl, by decide, rfl, clw_12, tyX12_ok, nmX12, Or.inl (gw_6 (List.mem_of_getElem? (i := 115) (by decide +kernel)) rfl)⟩
theorem fp_12_26 : zFp 12 26 .int := fun T N C h => by
  cases h
  exact ⟨rfl, by decide +kernel⟩
theorem fl_X12_130 : zFl "ShadowHeirsModel" 130 12 27 := ⟨RX12, TX12, 47, tyX12, rfl, by decide, rfl, by decide, rfl, clw_12, tyX12_ok, nmX12, Or.inl (gw_6 (List.mem_of_getElem? (i := 116) (by decide +kernel)) rfl)⟩
theorem zk_149 : zk 149 13 := by constructor <;> decide +kernel
theorem rf_138_27 : sRf 138 27 = 149 := by decide +kernel
theorem fl_X12_133 : zFl "ShadowHeirsModel" 133 12 28 := ⟨RX12, TX12, 47, tyX12, rfl, by decide, rfl, by decide, rfl, clw_12, tyX12_ok, nmX12, Or.inl (gw_6 (List.mem_of_getElem? (i := 117) (by decide +kernel)) rfl)⟩
theorem zk_150 : zk 150 13 := by constructor <;> decide +kernel
theorem rf_138_28 : sRf 138 28 = 150 := by decide +kernel
set_option maxRecDepth 100000 in
theorem cal_X12_layFar : zCal yX12_layFar cX12_layFar 6 none 1 := ⟨(gw_8 (List.mem_of_getElem? (i := 47) rfl) rfl), (gw_1 (List.mem_of_getElem? (i := 17) (by decide +kernel)) rfl), by decide +kernel⟩
theorem calv_X12_layFar : zCalV yX12_layFar := ⟨(gw_8 (List.mem_of_getElem? (i := 46) (by decide +kernel)) rfl), (gw_s (y := yX12_layFar) (n := 47) (List.mem_of_getElem? (i := 83) (by decide +kernel)))⟩
theorem ml_X12_326 : zMl "ShadowHeirsModel" 326 yX12_layFar := Or.inl (gw_8 (List.mem_of_getElem? (i := 44) (by decide +kernel)) rfl)
theorem fl_X12_142 : zFl "ShadowHeirsModel" 142 12 32 := ⟨RX12, TX12, 47, tyX12, rfl, by decide, rfl, by decide, rfl, clw_12, tyX12_ok, nmX12, Or.inl (gw_6 (List.mem_of_getElem? (i := 121) (by decide +kernel)) rfl)⟩
set_option maxRecDepth 100000 in
theorem cal_X12_leftBy : zCal yX12_leftBy cX12_leftBy 6 (some .int) 3 := ⟨(gw_8 (List.mem_of_getElem? (i := 68) rfl) rfl), (gw_1 (List.mem_of_getElem? (i := 17) (by decide +kernel)) rfl), by decide +kernel⟩
theorem calv_X12_leftBy : zCalV yX12_leftBy := ⟨(gw_8 (List.mem_of_getElem? (i := 67) (by decide +kernel)) rfl), (gw_s (y := yX12_leftBy) (n := 47) (List.mem_of_getElem? (i := 86) (by decide +kernel)))⟩
theorem ml_X12_340 : zMl "ShadowHeirsModel" 340 yX12_leftBy := Or.inl (gw_8 (List.mem_of_getElem? (i := 65) (by decide +kernel)) rfl)
theorem fp_12_32 : zFp 12 32 .int := fun T N C h => by
  cases h
  exact ⟨rfl, by decide +kernel⟩
set_option maxRecDepth 100000 in
theorem cal_X12_fits : zCal yX12_fits cX12_fits 5 (some .boolean) 2 := ⟨(gw_8 (List.mem_of_getElem? (i := 64) rfl) rfl), (gw_1 (List.mem_of_getElem? (i := 17) (by decide +kernel)) rfl), by decide +kernel⟩
theorem calv_X12_fits : zCalV yX12_fits := ⟨(gw_8 (List.mem_of_getElem? (i := 63) (by decide +kernel)) rfl), (gw_s (y := yX12_fits) (n := 47) (List.mem_of_getElem? (i := 85) (by decide +kernel)))⟩
theorem ml_X12_337 : zMl "ShadowHeirsModel" 337 yX12_fits := Or.inl (gw_8 (List.mem_of_getElem? (i := 61) (by decide +kernel)) rfl)
set_option maxRecDepth 100000 in
theorem cal_X12_shadow : zCal yX12_shadow cX12_shadow 7 (some .int) 2 := ⟨(gw_8 (List.mem_of_getElem? (i := 14) rfl) rfl), (gw_1 (List.mem_of_getElem? (i := 17) (by decide +kernel)) rfl), by decide +kernel⟩
theorem calv_X12_shadow : zCalV yX12_shadow := ⟨(gw_8 (List.mem_of_getElem? (i := 12) (by decide +kernel)) rfl), (gw_8 (List.mem_of_getElem? (i := 13) (by decide +kernel)) rfl)⟩
theorem ml_X12_343 : zMl "ShadowHeirsModel" 343 yX12_shadow := Or.inl (gw_8 (List.mem_of_getElem? (i := 77) (by decide +kernel)) rfl)
theorem fl_X12_145 : zFl "ShadowHeirsModel" 145 12 33 := ⟨RX12, TX12, 47, tyX12, rfl, by decide, rfl, by decide, rfl, clw_12, tyX12_ok, nmX12, Or.inl (gw_6 (List.mem_of_getElem? (i := 122) (by decide +kernel)) rfl)⟩
theorem fp_12_33 : zFp 12 33 .int := fun T N C h => by
  cases h
  exact ⟨rfl, by decide +kernel⟩
theorem fl_X12_148 : zFl "ShadowHeirsModel" 148 12 34 := ⟨RX12, TX12, 47, tyX12, rfl, by decide, rfl, by decide, rfl, clw_12, tyX12_ok, nmX12, Or.inl (gw_6 (List.mem_of_getElem? (i := 123) (by decide +kernel)) rfl)⟩
theorem fp_12_34 : zFp 12 34 .int := fun T N C h => by
  cases h
  exact ⟨rfl, by decide +kernel⟩
theorem fl_X12_151 : zFl "ShadowHeirsModel" 151 12 35 := ⟨RX12, TX12, 47, tyX12, rfl, by decide, rfl, by decide, rfl, clw_12, tyX12_ok, nmX12, Or.inl (gw_6 (List.mem_of_getElem? (i := 124) (by decide +kernel)) rfl)⟩
theorem zk_153 : zk 153 13 := by constructor <;> decide +kernel
theorem rf_138_35 : sRf 138 35 = 153 := by decide +kernel
theorem fl_X12_346 : zFl "ShadowHeirsModel" 346 12 36 := ⟨RX12, TX12, 47, tyX12, rfl, by decide, rfl, by decide, rfl, clw_12, tyX12_ok, nmX12, Or.inl (gw_6 (List.mem_of_getElem? (i := 125) (by decide +kernel)) rfl)⟩
theorem fp_12_36 : zFp 12 36 .int := fun T N C h => by
  cases h
  exact ⟨rfl, by decide +kernel⟩
theorem fl_X12_365 : zFl "ShadowHeirsModel" 365 12 37 := ⟨RX12, TX12, 47, tyX12, rfl, by decide, rfl, by decide, rfl, clw_12, tyX12_ok, nmX12, Or.inl (gw_6 (List.mem_of_getElem? (i := 126) (by decide +kernel)) rfl)⟩
theorem kc_X12_368 : Cond.constant "ShadowHeirsModel" 368 (i32 1103515245) ∈ gw_tbl := (gw_8 (List.mem_of_getElem? (i := 126) (by decide +kernel)) rfl)
theorem irc_1103515245 : ir 1103515245 := by decide
theorem irc_12345 : ir 12345 := by decide
theorem fp_12_37 : zFp 12 37 .int := fun T N C h => by
  cases h
  exact ⟨rfl, by decide +kernel⟩
set_option maxRecDepth 100000 in
theorem cal_X12_draw : zCal yX12_draw cX12_draw 2 (some .int) 1 := ⟨(gw_8 (List.mem_of_getElem? (i := 125) rfl) rfl), (gw_1 (List.mem_of_getElem? (i := 17) (by decide +kernel)) rfl), by decide +kernel⟩
theorem calv_X12_draw : zCalV yX12_draw := ⟨(gw_8 (List.mem_of_getElem? (i := 124) (by decide +kernel)) rfl), (gw_s (y := yX12_draw) (n := 47) (List.mem_of_getElem? (i := 94) (by decide +kernel)))⟩
theorem ml_X12_369 : zMl "ShadowHeirsModel" 369 yX12_draw := Or.inl (gw_8 (List.mem_of_getElem? (i := 122) (by decide +kernel)) rfl)
set_option maxRecDepth 100000 in
theorem cal_X12_doIf : zCal yX12_doIf cX12_doIf 4 none 3 := ⟨(gw_8 (List.mem_of_getElem? (i := 130) rfl) rfl), (gw_1 (List.mem_of_getElem? (i := 17) (by decide +kernel)) rfl), by decide +kernel⟩
theorem calv_X12_doIf : zCalV yX12_doIf := ⟨(gw_8 (List.mem_of_getElem? (i := 129) (by decide +kernel)) rfl), (gw_s (y := yX12_doIf) (n := 47) (List.mem_of_getElem? (i := 95) (by decide +kernel)))⟩
theorem ml_X12_372 : zMl "ShadowHeirsModel" 372 yX12_doIf := Or.inl (gw_8 (List.mem_of_getElem? (i := 127) (by decide +kernel)) rfl)
set_option maxRecDepth 100000 in
theorem cal_X12_drawsFor : zCal yX12_drawsFor cX12_drawsFor 4 none 1 := ⟨(gw_8 (List.mem_of_getElem? (i := 121) rfl) rfl), (gw_1 (List.mem_of_getElem? (i := 17) (by decide +kernel)) rfl), by decide +kernel⟩
theorem calv_X12_drawsFor : zCalV yX12_drawsFor := ⟨(gw_8 (List.mem_of_getElem? (i := 120) (by decide +kernel)) rfl), (gw_s (y := yX12_drawsFor) (n := 47) (List.mem_of_getElem? (i := 93) (by decide +kernel)))⟩
theorem ml_X12_375 : zMl "ShadowHeirsModel" 375 yX12_drawsFor := Or.inl (gw_8 (List.mem_of_getElem? (i := 118) (by decide +kernel)) rfl)
set_option maxRecDepth 100000 in
theorem cal_X12_drawHours : zCal yX12_drawHours cX12_drawHours 6 (some .int) 2 := ⟨(gw_8 (List.mem_of_getElem? (i := 117) rfl) rfl), (gw_1 (List.mem_of_getElem? (i := 17) (by decide +kernel)) rfl), by decide +kernel⟩
theorem calv_X12_drawHours : zCalV yX12_drawHours := ⟨(gw_8 (List.mem_of_getElem? (i := 116) (by decide +kernel)) rfl), (gw_s (y := yX12_drawHours) (n := 47) (List.mem_of_getElem? (i := 92) (by decide +kernel)))⟩
theorem ml_X12_378 : zMl "ShadowHeirsModel" 378 yX12_drawHours := Or.inl (gw_8 (List.mem_of_getElem? (i := 114) (by decide +kernel)) rfl)
theorem fl_X12_110 : zFl "ShadowHeirsModel" 110 12 18 := ⟨RX12, TX12, 47, tyX12, rfl, by decide, rfl, by decide, rfl, clw_12, tyX12_ok, nmX12, Or.inl (gw_6 (List.mem_of_getElem? (i := 107) (by decide +kernel)) rfl)⟩
theorem zk_144 : zk 144 13 := by constructor <;> decide +kernel
theorem rf_138_18 : sRf 138 18 = 144 := by decide +kernel
theorem irc_16 : ir 16 := by decide
set_option maxRecDepth 100000 in
theorem cal_X12_takeBack : zCal yX12_takeBack cX12_takeBack 2 none 0 := ⟨(gw_8 (List.mem_of_getElem? (i := 142) rfl) rfl), (gw_1 (List.mem_of_getElem? (i := 17) (by decide +kernel)) rfl), by decide +kernel⟩
theorem calv_X12_takeBack : zCalV yX12_takeBack := ⟨(gw_8 (List.mem_of_getElem? (i := 141) (by decide +kernel)) rfl), (gw_s (y := yX12_takeBack) (n := 47) (List.mem_of_getElem? (i := 97) (by decide +kernel)))⟩
theorem ml_X12_384 : zMl "ShadowHeirsModel" 384 yX12_takeBack := Or.inl (gw_8 (List.mem_of_getElem? (i := 139) (by decide +kernel)) rfl)
theorem irc_30 : ir 30 := by decide
set_option maxRecDepth 100000 in
theorem cal_X12_layAside : zCal yX12_layAside cX12_layAside 2 none 0 := ⟨(gw_8 (List.mem_of_getElem? (i := 138) rfl) rfl), (gw_1 (List.mem_of_getElem? (i := 17) (by decide +kernel)) rfl), by decide +kernel⟩
theorem calv_X12_layAside : zCalV yX12_layAside := ⟨(gw_8 (List.mem_of_getElem? (i := 137) (by decide +kernel)) rfl), (gw_s (y := yX12_layAside) (n := 47) (List.mem_of_getElem? (i := 96) (by decide +kernel)))⟩
theorem ml_X12_381 : zMl "ShadowHeirsModel" 381 yX12_layAside := Or.inl (gw_8 (List.mem_of_getElem? (i := 135) (by decide +kernel)) rfl)
theorem fl_X12_154 : zFl "ShadowHeirsModel" 154 12 38 := ⟨RX12, TX12, 47, tyX12, rfl, by decide, rfl, by decide, rfl, clw_12, tyX12_ok, nmX12, Or.inl (gw_6 (List.mem_of_getElem? (i := 127) (by decide +kernel)) rfl)⟩
theorem zk_154 : zk 154 13 := by constructor <;> decide +kernel
theorem rf_138_38 : sRf 138 38 = 154 := by decide +kernel
set_option maxRecDepth 100000 in
theorem cal_X12_keep : zCal yX12_keep cX12_keep 3 (some .boolean) 2 := ⟨(gw_8 (List.mem_of_getElem? (i := 154) rfl) rfl), (gw_1 (List.mem_of_getElem? (i := 17) (by decide +kernel)) rfl), by decide +kernel⟩
theorem calv_X12_keep : zCalV yX12_keep := ⟨(gw_8 (List.mem_of_getElem? (i := 153) (by decide +kernel)) rfl), (gw_s (y := yX12_keep) (n := 47) (List.mem_of_getElem? (i := 99) (by decide +kernel)))⟩
theorem ml_X12_387 : zMl "ShadowHeirsModel" 387 yX12_keep := Or.inl (gw_8 (List.mem_of_getElem? (i := 151) (by decide +kernel)) rfl)
theorem fl_X12_390 : zFl "ShadowHeirsModel" 390 12 40 := ⟨RX12, TX12, 47, tyX12, rfl, by decide, rfl, by decide, rfl, clw_12, tyX12_ok, nmX12, Or.inl (gw_6 (List.mem_of_getElem? (i := 129) (by decide +kernel)) rfl)⟩
set_option maxRecDepth 100000 in
theorem cal_X12_readPlace : zCal yX12_readPlace cX12_readPlace 2 (some .boolean) 1 := ⟨(gw_8 (List.mem_of_getElem? (i := 158) rfl) rfl), (gw_1 (List.mem_of_getElem? (i := 17) (by decide +kernel)) rfl), by decide +kernel⟩
theorem calv_X12_readPlace : zCalV yX12_readPlace := ⟨(gw_8 (List.mem_of_getElem? (i := 157) (by decide +kernel)) rfl), (gw_s (y := yX12_readPlace) (n := 47) (List.mem_of_getElem? (i := 100) (by decide +kernel)))⟩
theorem ml_X12_393 : zMl "ShadowHeirsModel" 393 yX12_readPlace := Or.inl (gw_8 (List.mem_of_getElem? (i := 155) (by decide +kernel)) rfl)
set_option maxRecDepth 100000 in
theorem cal_X12_readNamed : zCal yX12_readNamed cX12_readNamed 3 (some .boolean) 2 := ⟨(gw_8 (List.mem_of_getElem? (i := 162) rfl) rfl), (gw_1 (List.mem_of_getElem? (i := 17) (by decide +kernel)) rfl), by decide +kernel⟩
theorem calv_X12_readNamed : zCalV yX12_readNamed := ⟨(gw_8 (List.mem_of_getElem? (i := 161) (by decide +kernel)) rfl), (gw_s (y := yX12_readNamed) (n := 47) (List.mem_of_getElem? (i := 101) (by decide +kernel)))⟩
theorem ml_X12_396 : zMl "ShadowHeirsModel" 396 yX12_readNamed := Or.inl (gw_8 (List.mem_of_getElem? (i := 159) (by decide +kernel)) rfl)
theorem irc_12 : ir 12 := by decide
theorem fl_X12_405 : zFl "ShadowHeirsModel" 405 12 41 := ⟨RX12, TX12, 47, tyX12, rfl, by decide, rfl, by decide, rfl, clw_12, tyX12_ok, nmX12, Or.inl (gw_6 (List.mem_of_getElem? (i := 130) (by decide +kernel)) rfl)⟩
theorem fl_X12_157 : zFl "ShadowHeirsModel" 157 12 39 := ⟨RX12, TX12, 47, tyX12, rfl, by decide, rfl, by decide, rfl, clw_12, tyX12_ok, nmX12, Or.inl (gw_6 (List.mem_of_getElem? (i := 128) (by decide +kernel)) rfl)⟩
theorem zk_155 : zk 155 13 := by constructor <;> decide +kernel
theorem rf_138_39 : sRf 138 39 = 155 := by decide +kernel
theorem fl_X12_412 : zFl "ShadowHeirsModel" 412 12 43 := ⟨RX12, TX12, 47, tyX12, rfl, by decide, rfl, by decide, rfl, clw_12, tyX12_ok, nmX12, Or.inl (gw_6 (List.mem_of_getElem? (i := 132) (by decide +kernel)) rfl)⟩
theorem fl_X12_160 : zFl "ShadowHeirsModel" 160 12 42 := ⟨RX12, TX12, 47, tyX12, rfl, by decide, rfl, by decide, rfl, clw_12, tyX12_ok, nmX12, Or.inl (gw_6 (List.mem_of_getElem? (i := 131) (by decide +kernel)) rfl)⟩
theorem zk_156 : zk 156 13 := by constructor <;> decide +kernel
theorem rf_138_42 : sRf 138 42 = 156 := by decide +kernel
theorem fp_12_43 : zFp 12 43 .int := fun T N C h => by
  cases h
  exact ⟨rfl, by decide +kernel⟩
set_option maxRecDepth 100000 in
theorem cal_X12_readHouseName : zCal yX12_readHouseName cX12_readHouseName 1 (some .boolean) 0 := ⟨(gw_8 (List.mem_of_getElem? (i := 210) rfl) rfl), (gw_1 (List.mem_of_getElem? (i := 17) (by decide +kernel)) rfl), by decide +kernel⟩
theorem calv_X12_readHouseName : zCalV yX12_readHouseName := ⟨(gw_8 (List.mem_of_getElem? (i := 209) (by decide +kernel)) rfl), (gw_s (y := yX12_readHouseName) (n := 47) (List.mem_of_getElem? (i := 111) (by decide +kernel)))⟩
theorem ml_X12_449 : zMl "ShadowHeirsModel" 449 yX12_readHouseName := Or.inl (gw_8 (List.mem_of_getElem? (i := 207) (by decide +kernel)) rfl)
theorem irc_50 : ir 50 := by decide
set_option maxRecDepth 100000 in
theorem cal_X12_saysOne : zCal yX12_saysOne cX12_saysOne 6 (some .int) 4 := ⟨(gw_8 (List.mem_of_getElem? (i := 202) rfl) rfl), (gw_1 (List.mem_of_getElem? (i := 17) (by decide +kernel)) rfl), by decide +kernel⟩
theorem calv_X12_saysOne : zCalV yX12_saysOne := ⟨(gw_8 (List.mem_of_getElem? (i := 201) (by decide +kernel)) rfl), (gw_s (y := yX12_saysOne) (n := 47) (List.mem_of_getElem? (i := 109) (by decide +kernel)))⟩
theorem ml_X12_421 : zMl "ShadowHeirsModel" 421 yX12_saysOne := Or.inl (gw_8 (List.mem_of_getElem? (i := 199) (by decide +kernel)) rfl)
theorem fl_X12_418 : zFl "ShadowHeirsModel" 418 12 46 := ⟨RX12, TX12, 47, tyX12, rfl, by decide, rfl, by decide, rfl, clw_12, tyX12_ok, nmX12, Or.inl (gw_6 (List.mem_of_getElem? (i := 135) (by decide +kernel)) rfl)⟩
theorem fp_12_46 : zFp 12 46 .int := fun T N C h => by
  cases h
  exact ⟨rfl, by decide +kernel⟩
theorem irc_999 : ir 999 := by decide
theorem fl_X12_104 : zFl "ShadowHeirsModel" 104 12 16 := ⟨RX12, TX12, 47, tyX12, rfl, by decide, rfl, by decide, rfl, clw_12, tyX12_ok, nmX12, Or.inl (gw_6 (List.mem_of_getElem? (i := 105) (by decide +kernel)) rfl)⟩
theorem zk_142 : zk 142 13 := by constructor <;> decide +kernel
theorem rf_138_16 : sRf 138 16 = 142 := by decide +kernel
theorem fl_X12_120 : zFl "ShadowHeirsModel" 120 12 21 := ⟨RX12, TX12, 47, tyX12, rfl, by decide, rfl, by decide, rfl, clw_12, tyX12_ok, nmX12, Or.inl (gw_6 (List.mem_of_getElem? (i := 110) (by decide +kernel)) rfl)⟩
theorem zk_147 : zk 147 14 := by constructor <;> decide +kernel
theorem rf_138_21 : sRf 138 21 = 147 := by decide +kernel
theorem fl_X12_123 : zFl "ShadowHeirsModel" 123 12 22 := ⟨RX12, TX12, 47, tyX12, rfl, by decide, rfl, by decide, rfl, clw_12, tyX12_ok, nmX12, Or.inl (gw_6 (List.mem_of_getElem? (i := 111) (by decide +kernel)) rfl)⟩
theorem zk_148 : zk 148 15 := by constructor <;> decide +kernel
theorem rf_138_22 : sRf 138 22 = 148 := by decide +kernel
theorem zk_101 : zk 101 1 := by constructor <;> decide +kernel
theorem fl_X1_9 : zFl "ShadowHeirs$Draws" 9 1 0 := ⟨RX1, TX1, 1, tyX1, rfl, by decide, rfl, by decide, rfl, clw_1, tyX1_ok, nmX1, Or.inl (gw_2 (List.mem_of_getElem? (i := 218) (by decide +kernel)) rfl)⟩
theorem kc_X1_15 : Cond.constant "ShadowHeirs$Draws" 15 (i32 1103515245) ∈ gw_tbl := (gw_5 (List.mem_of_getElem? (i := 61) (by decide +kernel)) rfl)
theorem fp_1_0 : zFp 1 0 .int := fun T N C h => by
  cases h
  exact ⟨rfl, by decide +kernel⟩
theorem zk_53 : zk 53 2 := by constructor <;> decide +kernel
theorem fl_X2_19 : zFl "ShadowHeirs$History" 19 2 2 := ⟨RX2, TX2, 3, tyX2, rfl, by decide, rfl, by decide, rfl, clw_2, tyX2_ok, nmX2, Or.inl (gw_2 (List.mem_of_getElem? (i := 182) (by decide +kernel)) rfl)⟩
theorem fp_2_2 : zFp 2 2 .int := fun T N C h => by
  cases h
  exact ⟨rfl, by decide +kernel⟩
theorem fl_X3_9 : zFl "ShadowHeirs$Island" 9 3 0 := ⟨RX3, TX3, 3, tyX3, rfl, by decide, rfl, by decide, rfl, clw_3, tyX3_ok, nmX3, Or.inl (gw_2 (List.mem_of_getElem? (i := 71) (by decide +kernel)) rfl)⟩
theorem fl_X3_39 : zFl "ShadowHeirs$Island" 39 5 2 := ⟨RX5, TX5, 11, tyX5, rfl, by decide, rfl, by decide, rfl, clw_5, tyX5_ok, nmX5, Or.inr ⟨"ShadowHeirs", (nw_1 (List.mem_of_getElem? (i := 159) (by decide +kernel)) rfl)⟩⟩
theorem fl_X3_43 : zFl "ShadowHeirs$Island" 43 5 5 := ⟨RX5, TX5, 11, tyX5, rfl, by decide, rfl, by decide, rfl, clw_5, tyX5_ok, nmX5, Or.inr ⟨"ShadowHeirs", (nw_1 (List.mem_of_getElem? (i := 176) (by decide +kernel)) rfl)⟩⟩
theorem zko_5_5 {t : Nat} (h : zk t 5) : zk (t + 1) 13 := (by decide +kernel : ∀ q, q < 157 → sK q = 5 → (q + 1 < 157 ∧ sK (q + 1) = 13)) t h.1 h.2
theorem rfo_5_5 {t : Nat} (h : zk t 5) : sRf t 5 = t + 1 := (by decide +kernel : ∀ q, q < 157 → sK q = 5 → sRf q 5 = q + 1) t h.1 h.2
theorem fl_X3_47 : zFl "ShadowHeirs$Island" 47 5 6 := ⟨RX5, TX5, 11, tyX5, rfl, by decide, rfl, by decide, rfl, clw_5, tyX5_ok, nmX5, Or.inr ⟨"ShadowHeirs", (nw_1 (List.mem_of_getElem? (i := 180) (by decide +kernel)) rfl)⟩⟩
theorem zko_5_6 {t : Nat} (h : zk t 5) : zk (t + 2) 13 := (by decide +kernel : ∀ q, q < 157 → sK q = 5 → (q + 2 < 157 ∧ sK (q + 2) = 13)) t h.1 h.2
theorem rfo_5_6 {t : Nat} (h : zk t 5) : sRf t 6 = t + 2 := (by decide +kernel : ∀ q, q < 157 → sK q = 5 → sRf q 6 = q + 2) t h.1 h.2
theorem fl_X3_15 : zFl "ShadowHeirs$Island" 15 3 1 := ⟨RX3, TX3, 3, tyX3, rfl, by decide, rfl, by decide, rfl, clw_3, tyX3_ok, nmX3, Or.inl (gw_2 (List.mem_of_getElem? (i := 77) (by decide +kernel)) rfl)⟩
theorem fl_X3_50 : zFl "ShadowHeirs$Island" 50 7 0 := ⟨RX7, TX7, 9, tyX7, rfl, by decide, rfl, by decide, rfl, clw_7, tyX7_ok, nmX7, Or.inr ⟨"ShadowHeirs", (nw_1 (List.mem_of_getElem? (i := 226) (by decide +kernel)) rfl)⟩⟩
theorem zko_7_0 {t : Nat} (h : zk t 7) : zk (t + 1) 13 := (by decide +kernel : ∀ q, q < 157 → sK q = 7 → (q + 1 < 157 ∧ sK (q + 1) = 13)) t h.1 h.2
theorem rfo_7_0 {t : Nat} (h : zk t 7) : sRf t 0 = t + 1 := (by decide +kernel : ∀ q, q < 157 → sK q = 7 → sRf q 0 = q + 1) t h.1 h.2
theorem fl_X3_53 : zFl "ShadowHeirs$Island" 53 5 3 := ⟨RX5, TX5, 11, tyX5, rfl, by decide, rfl, by decide, rfl, clw_5, tyX5_ok, nmX5, Or.inr ⟨"ShadowHeirs", (nw_1 (List.mem_of_getElem? (i := 165) (by decide +kernel)) rfl)⟩⟩
theorem fl_X3_56 : zFl "ShadowHeirs$Island" 56 7 1 := ⟨RX7, TX7, 9, tyX7, rfl, by decide, rfl, by decide, rfl, clw_7, tyX7_ok, nmX7, Or.inr ⟨"ShadowHeirs", (nw_1 (List.mem_of_getElem? (i := 231) (by decide +kernel)) rfl)⟩⟩
theorem zko_7_1 {t : Nat} (h : zk t 7) : zk (t + 2) 13 := (by decide +kernel : ∀ q, q < 157 → sK q = 7 → (q + 2 < 157 ∧ sK (q + 2) = 13)) t h.1 h.2
theorem rfo_7_1 {t : Nat} (h : zk t 7) : sRf t 1 = t + 2 := (by decide +kernel : ∀ q, q < 157 → sK q = 7 → sRf q 1 = q + 2) t h.1 h.2
theorem fl_X3_59 : zFl "ShadowHeirs$Island" 59 5 4 := ⟨RX5, TX5, 11, tyX5, rfl, by decide, rfl, by decide, rfl, clw_5, tyX5_ok, nmX5, Or.inr ⟨"ShadowHeirs", (nw_1 (List.mem_of_getElem? (i := 171) (by decide +kernel)) rfl)⟩⟩
theorem fl_X3_62 : zFl "ShadowHeirs$Island" 62 7 5 := ⟨RX7, TX7, 9, tyX7, rfl, by decide, rfl, by decide, rfl, clw_7, tyX7_ok, nmX7, Or.inr ⟨"ShadowHeirs", (nw_2 (List.mem_of_getElem? (i := 11) (by decide +kernel)) rfl)⟩⟩
theorem fl_X3_124 : zFl "ShadowHeirs$Island" 124 7 8 := ⟨RX7, TX7, 9, tyX7, rfl, by decide, rfl, by decide, rfl, clw_7, tyX7_ok, nmX7, Or.inr ⟨"ShadowHeirs", (nw_2 (List.mem_of_getElem? (i := 22) (by decide +kernel)) rfl)⟩⟩
theorem fp_7_8 : zFp 7 8 .int := fun T N C h => by
  cases h
  exact ⟨rfl, by decide +kernel⟩
theorem fl_X5_11 : zFl "ShadowHeirs$Plan" 11 5 0 := ⟨RX5, TX5, 11, tyX5, rfl, by decide, rfl, by decide, rfl, clw_5, tyX5_ok, nmX5, Or.inl (gw_1 (List.mem_of_getElem? (i := 150) (by decide +kernel)) rfl)⟩
theorem fp_5_0 : zFp 5 0 .int := fun T N C h => by
  cases h
  exact ⟨rfl, by decide +kernel⟩
theorem fl_X5_15 : zFl "ShadowHeirs$Plan" 15 5 1 := ⟨RX5, TX5, 11, tyX5, rfl, by decide, rfl, by decide, rfl, clw_5, tyX5_ok, nmX5, Or.inl (gw_1 (List.mem_of_getElem? (i := 154) (by decide +kernel)) rfl)⟩
theorem fp_5_1 : zFp 5 1 .int := fun T N C h => by
  cases h
  exact ⟨rfl, by decide +kernel⟩
theorem fl_X5_18 : zFl "ShadowHeirs$Plan" 18 5 2 := ⟨RX5, TX5, 11, tyX5, rfl, by decide, rfl, by decide, rfl, clw_5, tyX5_ok, nmX5, Or.inl (gw_1 (List.mem_of_getElem? (i := 158) (by decide +kernel)) rfl)⟩
theorem fp_5_2 : zFp 5 2 .int := fun T N C h => by
  cases h
  exact ⟨rfl, by decide +kernel⟩
theorem fl_X5_21 : zFl "ShadowHeirs$Plan" 21 5 3 := ⟨RX5, TX5, 11, tyX5, rfl, by decide, rfl, by decide, rfl, clw_5, tyX5_ok, nmX5, Or.inl (gw_1 (List.mem_of_getElem? (i := 163) (by decide +kernel)) rfl)⟩
theorem fp_5_3 : zFp 5 3 .int := fun T N C h => by
  cases h
  exact ⟨rfl, by decide +kernel⟩
theorem fl_X5_24 : zFl "ShadowHeirs$Plan" 24 5 4 := ⟨RX5, TX5, 11, tyX5, rfl, by decide, rfl, by decide, rfl, clw_5, tyX5_ok, nmX5, Or.inl (gw_1 (List.mem_of_getElem? (i := 170) (by decide +kernel)) rfl)⟩
theorem fp_5_4 : zFp 5 4 .int := fun T N C h => by
  cases h
  exact ⟨rfl, by decide +kernel⟩
theorem fl_X5_27 : zFl "ShadowHeirs$Plan" 27 5 5 := ⟨RX5, TX5, 11, tyX5, rfl, by decide, rfl, by decide, rfl, clw_5, tyX5_ok, nmX5, Or.inl (gw_1 (List.mem_of_getElem? (i := 174) (by decide +kernel)) rfl)⟩
theorem fl_X5_31 : zFl "ShadowHeirs$Plan" 31 5 6 := ⟨RX5, TX5, 11, tyX5, rfl, by decide, rfl, by decide, rfl, clw_5, tyX5_ok, nmX5, Or.inl (gw_1 (List.mem_of_getElem? (i := 179) (by decide +kernel)) rfl)⟩
theorem fl_X5_34 : zFl "ShadowHeirs$Plan" 34 5 7 := ⟨RX5, TX5, 11, tyX5, rfl, by decide, rfl, by decide, rfl, clw_5, tyX5_ok, nmX5, Or.inl (gw_1 (List.mem_of_getElem? (i := 183) (by decide +kernel)) rfl)⟩
theorem zko_5_7 {t : Nat} (h : zk t 5) : zk (t + 3) 14 := (by decide +kernel : ∀ q, q < 157 → sK q = 5 → (q + 3 < 157 ∧ sK (q + 3) = 14)) t h.1 h.2
theorem rfo_5_7 {t : Nat} (h : zk t 5) : sRf t 7 = t + 3 := (by decide +kernel : ∀ q, q < 157 → sK q = 5 → sRf q 7 = q + 3) t h.1 h.2
theorem fl_X5_38 : zFl "ShadowHeirs$Plan" 38 5 8 := ⟨RX5, TX5, 11, tyX5, rfl, by decide, rfl, by decide, rfl, clw_5, tyX5_ok, nmX5, Or.inl (gw_1 (List.mem_of_getElem? (i := 186) (by decide +kernel)) rfl)⟩
theorem zko_5_8 {t : Nat} (h : zk t 5) : zk (t + 4) 14 := (by decide +kernel : ∀ q, q < 157 → sK q = 5 → (q + 4 < 157 ∧ sK (q + 4) = 14)) t h.1 h.2
theorem rfo_5_8 {t : Nat} (h : zk t 5) : sRf t 8 = t + 4 := (by decide +kernel : ∀ q, q < 157 → sK q = 5 → sRf q 8 = q + 4) t h.1 h.2
theorem fl_X5_41 : zFl "ShadowHeirs$Plan" 41 5 9 := ⟨RX5, TX5, 11, tyX5, rfl, by decide, rfl, by decide, rfl, clw_5, tyX5_ok, nmX5, Or.inl (gw_1 (List.mem_of_getElem? (i := 189) (by decide +kernel)) rfl)⟩
theorem zko_5_9 {t : Nat} (h : zk t 5) : zk (t + 5) 13 := (by decide +kernel : ∀ q, q < 157 → sK q = 5 → (q + 5 < 157 ∧ sK (q + 5) = 13)) t h.1 h.2
theorem rfo_5_9 {t : Nat} (h : zk t 5) : sRf t 9 = t + 5 := (by decide +kernel : ∀ q, q < 157 → sK q = 5 → sRf q 9 = q + 5) t h.1 h.2
theorem fl_X5_44 : zFl "ShadowHeirs$Plan" 44 5 10 := ⟨RX5, TX5, 11, tyX5, rfl, by decide, rfl, by decide, rfl, clw_5, tyX5_ok, nmX5, Or.inl (gw_1 (List.mem_of_getElem? (i := 193) (by decide +kernel)) rfl)⟩
theorem zko_5_10 {t : Nat} (h : zk t 5) : zk (t + 6) 13 := (by decide +kernel : ∀ q, q < 157 → sK q = 5 → (q + 6 < 157 ∧ sK (q + 6) = 13)) t h.1 h.2
theorem rfo_5_10 {t : Nat} (h : zk t 5) : sRf t 10 = t + 6 := (by decide +kernel : ∀ q, q < 157 → sK q = 5 → sRf q 10 = q + 6) t h.1 h.2
set_option maxRecDepth 100000 in
theorem cal_X11_copyRow : zCal yX11_copyRow cX11_copyRow 2 none 2 := ⟨(gw_3 (List.mem_of_getElem? (i := 189) rfl) rfl), (gw_1 (List.mem_of_getElem? (i := 1) (by decide +kernel)) rfl), by decide +kernel⟩
theorem sta_X11_copyRow : Cond.static yX11_copyRow ∈ gw_tbl := (gw_3 (List.mem_of_getElem? (i := 188) (by decide +kernel)) rfl)
theorem ml_X5_47 : zMl "ShadowHeirs$Plan" 47 yX11_copyRow := Or.inr ⟨"ShadowHeirs", (nw_3 (List.mem_of_getElem? (i := 187) (by decide +kernel)) rfl)⟩
set_option maxRecDepth 100000 in
theorem cal_X11_copyNames : zCal yX11_copyNames cX11_copyNames 2 none 2 := ⟨(gw_3 (List.mem_of_getElem? (i := 198) rfl) rfl), (gw_1 (List.mem_of_getElem? (i := 1) (by decide +kernel)) rfl), by decide +kernel⟩
theorem sta_X11_copyNames : Cond.static yX11_copyNames ∈ gw_tbl := (gw_3 (List.mem_of_getElem? (i := 197) (by decide +kernel)) rfl)
theorem ml_X5_51 : zMl "ShadowHeirs$Plan" 51 yX11_copyNames := Or.inr ⟨"ShadowHeirs", (nw_3 (List.mem_of_getElem? (i := 196) (by decide +kernel)) rfl)⟩
theorem ds_true : Cond.fieldLink "ShadowHeirs$Plan" 55 "ShadowHeirs$Plan" (if true = true then "EASTWARD" else "SOUTHWARD") "[I" ∈ gw_tbl := (gw_4 (List.mem_of_getElem? (i := 9) (by decide +kernel)) rfl)
theorem ds_false : Cond.fieldLink "ShadowHeirs$Plan" 58 "ShadowHeirs$Plan" (if false = true then "EASTWARD" else "SOUTHWARD") "[I" ∈ gw_tbl := (gw_4 (List.mem_of_getElem? (i := 7) (by decide +kernel)) rfl)
set_option maxRecDepth 100000 in
theorem cal_X5_hasShadow : zCal yX5_hasShadow cX5_hasShadow 3 (some .boolean) 2 := ⟨(gw_4 (List.mem_of_getElem? (i := 6) rfl) rfl), (gw_1 (List.mem_of_getElem? (i := 7) (by decide +kernel)) rfl), by decide +kernel⟩
theorem calv_X5_hasShadow : zCalV yX5_hasShadow := ⟨(gw_4 (List.mem_of_getElem? (i := 4) (by decide +kernel)) rfl), (gw_4 (List.mem_of_getElem? (i := 5) (by decide +kernel)) rfl)⟩
theorem ml_X5_61 : zMl "ShadowHeirs$Plan" 61 yX5_hasShadow := Or.inl (gw_4 (List.mem_of_getElem? (i := 3) (by decide +kernel)) rfl)
theorem fl_X6_19 : zFl "ShadowHeirs$Reader" 19 6 2 := ⟨RX6, TX6, 11, tyX6, rfl, by decide, rfl, by decide, rfl, clw_6, tyX6_ok, nmX6, Or.inl (gw_1 (List.mem_of_getElem? (i := 97) (by decide +kernel)) rfl)⟩
theorem fl_X6_11 : zFl "ShadowHeirs$Reader" 11 6 0 := ⟨RX6, TX6, 11, tyX6, rfl, by decide, rfl, by decide, rfl, clw_6, tyX6_ok, nmX6, Or.inl (gw_1 (List.mem_of_getElem? (i := 95) (by decide +kernel)) rfl)⟩
theorem zk_2 : zk 2 13 := by constructor <;> decide +kernel
theorem rf_1_0 : sRf 1 0 = 2 := by decide +kernel
theorem len_2 : ((sLen 2 : Nat) : Int) = 940 := by decide +kernel
theorem fl_X6_23 : zFl "ShadowHeirs$Reader" 23 6 3 := ⟨RX6, TX6, 11, tyX6, rfl, by decide, rfl, by decide, rfl, clw_6, tyX6_ok, nmX6, Or.inl (gw_1 (List.mem_of_getElem? (i := 99) (by decide +kernel)) rfl)⟩
theorem fp_6_3 : zFp 6 3 .int := fun T N C h => by
  cases h
  exact ⟨rfl, by decide +kernel⟩
theorem fl_X6_26 : zFl "ShadowHeirs$Reader" 26 6 4 := ⟨RX6, TX6, 11, tyX6, rfl, by decide, rfl, by decide, rfl, clw_6, tyX6_ok, nmX6, Or.inl (gw_1 (List.mem_of_getElem? (i := 100) (by decide +kernel)) rfl)⟩
theorem fp_6_4 : zFp 6 4 .int := fun T N C h => by
  cases h
  exact ⟨rfl, by decide +kernel⟩
theorem fl_X6_42 : zFl "ShadowHeirs$Reader" 42 6 9 := ⟨RX6, TX6, 11, tyX6, rfl, by decide, rfl, by decide, rfl, clw_6, tyX6_ok, nmX6, Or.inl (gw_1 (List.mem_of_getElem? (i := 114) (by decide +kernel)) rfl)⟩
theorem fp_6_9 : zFp 6 9 .int := fun T N C h => by
  cases h
  exact ⟨rfl, by decide +kernel⟩
theorem fl_X6_45 : zFl "ShadowHeirs$Reader" 45 6 10 := ⟨RX6, TX6, 11, tyX6, rfl, by decide, rfl, by decide, rfl, clw_6, tyX6_ok, nmX6, Or.inl (gw_1 (List.mem_of_getElem? (i := 116) (by decide +kernel)) rfl)⟩
theorem fp_6_10 : zFp 6 10 .int := fun T N C h => by
  cases h
  exact ⟨rfl, by decide +kernel⟩
theorem fl_X6_29 : zFl "ShadowHeirs$Reader" 29 6 5 := ⟨RX6, TX6, 11, tyX6, rfl, by decide, rfl, by decide, rfl, clw_6, tyX6_ok, nmX6, Or.inl (gw_1 (List.mem_of_getElem? (i := 101) (by decide +kernel)) rfl)⟩
theorem fl_X6_15 : zFl "ShadowHeirs$Reader" 15 6 1 := ⟨RX6, TX6, 11, tyX6, rfl, by decide, rfl, by decide, rfl, clw_6, tyX6_ok, nmX6, Or.inl (gw_1 (List.mem_of_getElem? (i := 96) (by decide +kernel)) rfl)⟩
theorem zk_3 : zk 3 14 := by constructor <;> decide +kernel
theorem rf_1_1 : sRf 1 1 = 3 := by decide +kernel
theorem fl_X6_39 : zFl "ShadowHeirs$Reader" 39 6 8 := ⟨RX6, TX6, 11, tyX6, rfl, by decide, rfl, by decide, rfl, clw_6, tyX6_ok, nmX6, Or.inl (gw_1 (List.mem_of_getElem? (i := 110) (by decide +kernel)) rfl)⟩
theorem len_3 : ((sLen 3 : Nat) : Int) = 24 := by decide +kernel
theorem fp_6_8 : zFp 6 8 .int := fun T N C h => by
  cases h
  exact ⟨rfl, by decide +kernel⟩
theorem fl_X6_32 : zFl "ShadowHeirs$Reader" 32 6 6 := ⟨RX6, TX6, 11, tyX6, rfl, by decide, rfl, by decide, rfl, clw_6, tyX6_ok, nmX6, Or.inl (gw_1 (List.mem_of_getElem? (i := 102) (by decide +kernel)) rfl)⟩
theorem fp_6_6 : zFp 6 6 .int := fun T N C h => by
  cases h
  exact ⟨rfl, by decide +kernel⟩
theorem fl_X6_35 : zFl "ShadowHeirs$Reader" 35 6 7 := ⟨RX6, TX6, 11, tyX6, rfl, by decide, rfl, by decide, rfl, clw_6, tyX6_ok, nmX6, Or.inl (gw_1 (List.mem_of_getElem? (i := 106) (by decide +kernel)) rfl)⟩
theorem fp_6_7 : zFp 6 7 .long := fun T N C h => by
  cases h
  exact ⟨rfl, by decide +kernel⟩
theorem kc_X6_68 : Cond.constantLong "ShadowHeirs$Reader" 68 (i64 32) ∈ gw_tbl := (gw_1 (List.mem_of_getElem? (i := 92) (by decide +kernel)) rfl)
theorem lrc_32 : lr 32 := by decide
theorem fl_X7_9 : zFl "ShadowHeirs$Scene" 9 7 0 := ⟨RX7, TX7, 9, tyX7, rfl, by decide, rfl, by decide, rfl, clw_7, tyX7_ok, nmX7, Or.inl (gw_1 (List.mem_of_getElem? (i := 225) (by decide +kernel)) rfl)⟩
theorem fl_X7_18 : zFl "ShadowHeirs$Scene" 18 7 2 := ⟨RX7, TX7, 9, tyX7, rfl, by decide, rfl, by decide, rfl, clw_7, tyX7_ok, nmX7, Or.inl (gw_1 (List.mem_of_getElem? (i := 235) (by decide +kernel)) rfl)⟩
theorem zko_7_2 {t : Nat} (h : zk t 7) : zk (t + 3) 13 := (by decide +kernel : ∀ q, q < 157 → sK q = 7 → (q + 3 < 157 ∧ sK (q + 3) = 13)) t h.1 h.2
theorem rfo_7_2 {t : Nat} (h : zk t 7) : sRf t 2 = t + 3 := (by decide +kernel : ∀ q, q < 157 → sK q = 7 → sRf q 2 = q + 3) t h.1 h.2
theorem leno_7_2 {t : Nat} (h : zk t 7) : ((sLen (t + 3) : Nat) : Int) = 6 := (by decide +kernel : ∀ q, q < 157 → sK q = 7 → ((sLen (q + 3) : Nat) : Int) = 6) t h.1 h.2
theorem fl_X7_24 : zFl "ShadowHeirs$Scene" 24 7 4 := ⟨RX7, TX7, 9, tyX7, rfl, by decide, rfl, by decide, rfl, clw_7, tyX7_ok, nmX7, Or.inl (gw_2 (List.mem_of_getElem? (i := 4) (by decide +kernel)) rfl)⟩
theorem fp_7_4 : zFp 7 4 .int := fun T N C h => by
  cases h
  exact ⟨rfl, by decide +kernel⟩
theorem fl_X7_28 : zFl "ShadowHeirs$Scene" 28 7 5 := ⟨RX7, TX7, 9, tyX7, rfl, by decide, rfl, by decide, rfl, clw_7, tyX7_ok, nmX7, Or.inl (gw_2 (List.mem_of_getElem? (i := 9) (by decide +kernel)) rfl)⟩
theorem fp_7_5 : zFp 7 5 .int := fun T N C h => by
  cases h
  exact ⟨rfl, by decide +kernel⟩
theorem fl_X7_31 : zFl "ShadowHeirs$Scene" 31 7 6 := ⟨RX7, TX7, 9, tyX7, rfl, by decide, rfl, by decide, rfl, clw_7, tyX7_ok, nmX7, Or.inl (gw_2 (List.mem_of_getElem? (i := 14) (by decide +kernel)) rfl)⟩
theorem fp_7_6 : zFp 7 6 .int := fun T N C h => by
  cases h
  exact ⟨rfl, by decide +kernel⟩
theorem fl_X7_34 : zFl "ShadowHeirs$Scene" 34 7 7 := ⟨RX7, TX7, 9, tyX7, rfl, by decide, rfl, by decide, rfl, clw_7, tyX7_ok, nmX7, Or.inl (gw_2 (List.mem_of_getElem? (i := 17) (by decide +kernel)) rfl)⟩
theorem fp_7_7 : zFp 7 7 .int := fun T N C h => by
  cases h
  exact ⟨rfl, by decide +kernel⟩
theorem fl_X7_37 : zFl "ShadowHeirs$Scene" 37 7 8 := ⟨RX7, TX7, 9, tyX7, rfl, by decide, rfl, by decide, rfl, clw_7, tyX7_ok, nmX7, Or.inl (gw_2 (List.mem_of_getElem? (i := 20) (by decide +kernel)) rfl)⟩
theorem leno_7_0 {t : Nat} (h : zk t 7) : ((sLen (t + 1) : Nat) : Int) = 64 := (by decide +kernel : ∀ q, q < 157 → sK q = 7 → ((sLen (q + 1) : Nat) : Int) = 64) t h.1 h.2
theorem fl_X7_15 : zFl "ShadowHeirs$Scene" 15 7 1 := ⟨RX7, TX7, 9, tyX7, rfl, by decide, rfl, by decide, rfl, clw_7, tyX7_ok, nmX7, Or.inl (gw_1 (List.mem_of_getElem? (i := 228) (by decide +kernel)) rfl)⟩
theorem fl_X7_21 : zFl "ShadowHeirs$Scene" 21 7 3 := ⟨RX7, TX7, 9, tyX7, rfl, by decide, rfl, by decide, rfl, clw_7, tyX7_ok, nmX7, Or.inl (gw_2 (List.mem_of_getElem? (i := 0) (by decide +kernel)) rfl)⟩
theorem zko_7_3 {t : Nat} (h : zk t 7) : zk (t + 4) 13 := (by decide +kernel : ∀ q, q < 157 → sK q = 7 → (q + 4 < 157 ∧ sK (q + 4) = 13)) t h.1 h.2
theorem rfo_7_3 {t : Nat} (h : zk t 7) : sRf t 3 = t + 4 := (by decide +kernel : ∀ q, q < 157 → sK q = 7 → sRf q 3 = q + 4) t h.1 h.2
theorem ml_X7_40 : zMl "ShadowHeirs$Scene" 40 yX11_copyRow := Or.inr ⟨"ShadowHeirs", (nw_3 (List.mem_of_getElem? (i := 203) (by decide +kernel)) rfl)⟩
theorem fl_X8_21 : zFl "ShadowHeirs$Sentence" 21 8 3 := ⟨RX8, TX8, 5, tyX8, rfl, by decide, rfl, by decide, rfl, clw_8, tyX8_ok, nmX8, Or.inl (gw_2 (List.mem_of_getElem? (i := 51) (by decide +kernel)) rfl)⟩
theorem fp_8_3 : zFp 8 3 .int := fun T N C h => by
  cases h
  exact ⟨rfl, by decide +kernel⟩
theorem fl_X8_25 : zFl "ShadowHeirs$Sentence" 25 8 4 := ⟨RX8, TX8, 5, tyX8, rfl, by decide, rfl, by decide, rfl, clw_8, tyX8_ok, nmX8, Or.inl (gw_2 (List.mem_of_getElem? (i := 52) (by decide +kernel)) rfl)⟩
theorem fp_8_4 : zFp 8 4 .int := fun T N C h => by
  cases h
  exact ⟨rfl, by decide +kernel⟩
theorem fl_X8_11 : zFl "ShadowHeirs$Sentence" 11 8 0 := ⟨RX8, TX8, 5, tyX8, rfl, by decide, rfl, by decide, rfl, clw_8, tyX8_ok, nmX8, Or.inl (gw_2 (List.mem_of_getElem? (i := 48) (by decide +kernel)) rfl)⟩
theorem zko_8_0 {t : Nat} (h : zk t 8) : zk (t + 1) 13 := (by decide +kernel : ∀ q, q < 157 → sK q = 8 → (q + 1 < 157 ∧ sK (q + 1) = 13)) t h.1 h.2
theorem rfo_8_0 {t : Nat} (h : zk t 8) : sRf t 0 = t + 1 := (by decide +kernel : ∀ q, q < 157 → sK q = 8 → sRf q 0 = q + 1) t h.1 h.2
theorem fl_X8_15 : zFl "ShadowHeirs$Sentence" 15 8 1 := ⟨RX8, TX8, 5, tyX8, rfl, by decide, rfl, by decide, rfl, clw_8, tyX8_ok, nmX8, Or.inl (gw_2 (List.mem_of_getElem? (i := 49) (by decide +kernel)) rfl)⟩
theorem zko_8_1 {t : Nat} (h : zk t 8) : zk (t + 2) 13 := (by decide +kernel : ∀ q, q < 157 → sK q = 8 → (q + 2 < 157 ∧ sK (q + 2) = 13)) t h.1 h.2
theorem rfo_8_1 {t : Nat} (h : zk t 8) : sRf t 1 = t + 2 := (by decide +kernel : ∀ q, q < 157 → sK q = 8 → sRf q 1 = q + 2) t h.1 h.2
theorem ml_X8_28 : zMl "ShadowHeirs$Sentence" 28 yX11_copyRow := Or.inr ⟨"ShadowHeirs", (nw_3 (List.mem_of_getElem? (i := 208) (by decide +kernel)) rfl)⟩
theorem leno_8_0 {t : Nat} (h : zk t 8) : ((sLen (t + 1) : Nat) : Int) = 40 := (by decide +kernel : ∀ q, q < 157 → sK q = 8 → ((sLen (q + 1) : Nat) : Int) = 40) t h.1 h.2
theorem leno_8_1 {t : Nat} (h : zk t 8) : ((sLen (t + 2) : Nat) : Int) = 40 := (by decide +kernel : ∀ q, q < 157 → sK q = 8 → ((sLen (q + 2) : Nat) : Int) = 40) t h.1 h.2
theorem fl_X8_119 : zFl "ShadowHeirs$Sentence" 119 3 1 := ⟨RX3, TX3, 3, tyX3, rfl, by decide, rfl, by decide, rfl, clw_3, tyX3_ok, nmX3, Or.inr ⟨"ShadowHeirs", (nw_2 (List.mem_of_getElem? (i := 82) (by decide +kernel)) rfl)⟩⟩
theorem fl_X8_123 : zFl "ShadowHeirs$Sentence" 123 7 1 := ⟨RX7, TX7, 9, tyX7, rfl, by decide, rfl, by decide, rfl, clw_7, tyX7_ok, nmX7, Or.inr ⟨"ShadowHeirs", (nw_1 (List.mem_of_getElem? (i := 234) (by decide +kernel)) rfl)⟩⟩
theorem fl_X8_135 : zFl "ShadowHeirs$Sentence" 135 7 2 := ⟨RX7, TX7, 9, tyX7, rfl, by decide, rfl, by decide, rfl, clw_7, tyX7_ok, nmX7, Or.inr ⟨"ShadowHeirs", (nw_1 (List.mem_of_getElem? (i := 238) (by decide +kernel)) rfl)⟩⟩
theorem zk_102 : zk 102 9 := by constructor <;> decide +kernel
theorem fl_X9_15 : zFl "ShadowHeirs$Slip" 15 9 1 := ⟨RX9, TX9, 2, tyX9, rfl, by decide, rfl, by decide, rfl, clw_9, tyX9_ok, nmX9, Or.inl (gw_2 (List.mem_of_getElem? (i := 229) (by decide +kernel)) rfl)⟩
theorem fl_X9_11 : zFl "ShadowHeirs$Slip" 11 9 0 := ⟨RX9, TX9, 2, tyX9, rfl, by decide, rfl, by decide, rfl, clw_9, tyX9_ok, nmX9, Or.inl (gw_2 (List.mem_of_getElem? (i := 228) (by decide +kernel)) rfl)⟩
theorem zk_103 : zk 103 13 := by constructor <;> decide +kernel
theorem rf_102_0 : sRf 102 0 = 103 := by decide +kernel
theorem len_103 : ((sLen 103 : Nat) : Int) = 40 := by decide +kernel
theorem fp_9_1 : zFp 9 1 .int := fun T N C h => by
  cases h
  exact ⟨rfl, by decide +kernel⟩
theorem kc_X9_86 : Cond.constantLong "ShadowHeirs$Slip" 86 (i64 31) ∈ gw_tbl := (gw_5 (List.mem_of_getElem? (i := 15) (by decide +kernel)) rfl)
theorem lrc_31 : lr 31 := by decide
theorem irc_96 : ir 96 := by decide
set_option maxRecDepth 100000 in
theorem cal_X9_add : zCal yX9_add cX9_add 2 none 1 := ⟨(gw_5 (List.mem_of_getElem? (i := 19) rfl) rfl), (gw_1 (List.mem_of_getElem? (i := 16) (by decide +kernel)) rfl), by decide +kernel⟩
theorem calv_X9_add : zCalV yX9_add := ⟨(gw_5 (List.mem_of_getElem? (i := 18) (by decide +kernel)) rfl), (gw_s (y := yX9_add) (n := 2) (List.mem_of_getElem? (i := 20) (by decide +kernel)))⟩
theorem ml_X9_83 : zMl "ShadowHeirs$Slip" 83 yX9_add := Or.inl (gw_5 (List.mem_of_getElem? (i := 16) (by decide +kernel)) rfl)
theorem zk_97 : zk 97 10 := by constructor <;> decide +kernel
theorem fl_X10_9 : zFl "ShadowHeirs$Walk" 9 10 1 := ⟨RX10, TX10, 4, tyX10, rfl, by decide, rfl, by decide, rfl, clw_10, tyX10_ok, nmX10, Or.inl (gw_2 (List.mem_of_getElem? (i := 199) (by decide +kernel)) rfl)⟩
theorem zk_98 : zk 98 13 := by constructor <;> decide +kernel
theorem rf_97_1 : sRf 97 1 = 98 := by decide +kernel
theorem fl_X10_22 : zFl "ShadowHeirs$Walk" 22 10 0 := ⟨RX10, TX10, 4, tyX10, rfl, by decide, rfl, by decide, rfl, clw_10, tyX10_ok, nmX10, Or.inl (gw_2 (List.mem_of_getElem? (i := 198) (by decide +kernel)) rfl)⟩
theorem zk_20 : zk 20 3 := by constructor <;> decide +kernel
theorem rf_97_0 : sRf 97 0 = 20 := by decide +kernel
theorem fl_X10_26 : zFl "ShadowHeirs$Walk" 26 3 0 := ⟨RX3, TX3, 3, tyX3, rfl, by decide, rfl, by decide, rfl, clw_3, tyX3_ok, nmX3, Or.inr ⟨"ShadowHeirs", (nw_2 (List.mem_of_getElem? (i := 72) (by decide +kernel)) rfl)⟩⟩
theorem rf_20_0 : sRf 20 0 = 4 := by decide +kernel
theorem fl_X10_38 : zFl "ShadowHeirs$Walk" 38 3 1 := ⟨RX3, TX3, 3, tyX3, rfl, by decide, rfl, by decide, rfl, clw_3, tyX3_ok, nmX3, Or.inr ⟨"ShadowHeirs", (nw_2 (List.mem_of_getElem? (i := 78) (by decide +kernel)) rfl)⟩⟩
theorem zk_11 : zk 11 7 := by constructor <;> decide +kernel
theorem rf_20_1 : sRf 20 1 = 11 := by decide +kernel
theorem fl_X10_42 : zFl "ShadowHeirs$Walk" 42 7 1 := ⟨RX7, TX7, 9, tyX7, rfl, by decide, rfl, by decide, rfl, clw_7, tyX7_ok, nmX7, Or.inr ⟨"ShadowHeirs", (nw_1 (List.mem_of_getElem? (i := 229) (by decide +kernel)) rfl)⟩⟩
theorem zk_13 : zk 13 13 := by constructor <;> decide +kernel
theorem rf_11_1 : sRf 11 1 = 13 := by decide +kernel
theorem fl_X10_15 : zFl "ShadowHeirs$Walk" 15 10 2 := ⟨RX10, TX10, 4, tyX10, rfl, by decide, rfl, by decide, rfl, clw_10, tyX10_ok, nmX10, Or.inl (gw_2 (List.mem_of_getElem? (i := 200) (by decide +kernel)) rfl)⟩
theorem zk_99 : zk 99 13 := by constructor <;> decide +kernel
theorem rf_97_2 : sRf 97 2 = 99 := by decide +kernel
set_option maxRecDepth 100000 in
theorem cal_X5_spotFrom : zCal yX5_spotFrom cX5_spotFrom 6 (some .int) 3 := ⟨(gw_4 (List.mem_of_getElem? (i := 19) rfl) rfl), (gw_1 (List.mem_of_getElem? (i := 7) (by decide +kernel)) rfl), by decide +kernel⟩
theorem calv_X5_spotFrom : zCalV yX5_spotFrom := ⟨(gw_4 (List.mem_of_getElem? (i := 17) (by decide +kernel)) rfl), (gw_4 (List.mem_of_getElem? (i := 18) (by decide +kernel)) rfl)⟩
theorem ml_X10_47 : zMl "ShadowHeirs$Walk" 47 yX5_spotFrom := Or.inl (gw_4 (List.mem_of_getElem? (i := 181) (by decide +kernel)) rfl)
set_option maxRecDepth 100000 in
theorem cal_X3_heightAt : zCal yX3_heightAt cX3_heightAt 3 (some .int) 1 := ⟨(gw_3 (List.mem_of_getElem? (i := 130) rfl) rfl), (gw_1 (List.mem_of_getElem? (i := 10) (by decide +kernel)) rfl), by decide +kernel⟩
theorem calv_X3_heightAt : zCalV yX3_heightAt := ⟨(gw_3 (List.mem_of_getElem? (i := 128) (by decide +kernel)) rfl), (gw_3 (List.mem_of_getElem? (i := 129) (by decide +kernel)) rfl)⟩
theorem ml_X10_51 : zMl "ShadowHeirs$Walk" 51 yX3_heightAt := Or.inl (gw_4 (List.mem_of_getElem? (i := 182) (by decide +kernel)) rfl)
theorem len_98 : ((sLen 98 : Nat) : Int) = 64 := by decide +kernel
set_option maxRecDepth 100000 in
theorem cal_X5_hasPerson : zCal yX5_hasPerson cX5_hasPerson 2 (some .boolean) 1 := ⟨(gw_4 (List.mem_of_getElem? (i := 41) rfl) rfl), (gw_1 (List.mem_of_getElem? (i := 7) (by decide +kernel)) rfl), by decide +kernel⟩
theorem calv_X5_hasPerson : zCalV yX5_hasPerson := ⟨(gw_4 (List.mem_of_getElem? (i := 39) (by decide +kernel)) rfl), (gw_4 (List.mem_of_getElem? (i := 40) (by decide +kernel)) rfl)⟩
theorem ml_X10_32 : zMl "ShadowHeirs$Walk" 32 yX5_hasPerson := Or.inl (gw_4 (List.mem_of_getElem? (i := 180) (by decide +kernel)) rfl)
theorem fl_X10_59 : zFl "ShadowHeirs$Walk" 59 5 5 := ⟨RX5, TX5, 11, tyX5, rfl, by decide, rfl, by decide, rfl, clw_5, tyX5_ok, nmX5, Or.inr ⟨"ShadowHeirs", (nw_1 (List.mem_of_getElem? (i := 175) (by decide +kernel)) rfl)⟩⟩
theorem zk_5 : zk 5 13 := by constructor <;> decide +kernel
theorem rf_4_5 : sRf 4 5 = 5 := by decide +kernel
theorem fl_X10_62 : zFl "ShadowHeirs$Walk" 62 5 9 := ⟨RX5, TX5, 11, tyX5, rfl, by decide, rfl, by decide, rfl, clw_5, tyX5_ok, nmX5, Or.inr ⟨"ShadowHeirs", (nw_1 (List.mem_of_getElem? (i := 190) (by decide +kernel)) rfl)⟩⟩
theorem zk_9 : zk 9 13 := by constructor <;> decide +kernel
theorem rf_4_9 : sRf 4 9 = 9 := by decide +kernel
theorem ml_X10_55 : zMl "ShadowHeirs$Walk" 55 yX5_hasShadow := Or.inl (gw_4 (List.mem_of_getElem? (i := 188) (by decide +kernel)) rfl)
theorem fl_X10_18 : zFl "ShadowHeirs$Walk" 18 10 3 := ⟨RX10, TX10, 4, tyX10, rfl, by decide, rfl, by decide, rfl, clw_10, tyX10_ok, nmX10, Or.inl (gw_2 (List.mem_of_getElem? (i := 201) (by decide +kernel)) rfl)⟩
theorem zk_100 : zk 100 15 := by constructor <;> decide +kernel
theorem rf_97_3 : sRf 97 3 = 100 := by decide +kernel
theorem irc_127 : ir 127 := by decide
theorem kc_java_lang_Integer_265 : Cond.constant "java/lang/Integer" 265 (i32 1431655765) ∈ gw_tbl := (gw_4 (List.mem_of_getElem? (i := 111) (by decide +kernel)) rfl)
theorem irc_1431655765 : ir 1431655765 := by decide
theorem kc_java_lang_Integer_266 : Cond.constant "java/lang/Integer" 266 (i32 858993459) ∈ gw_tbl := (gw_4 (List.mem_of_getElem? (i := 112) (by decide +kernel)) rfl)
theorem irc_858993459 : ir 858993459 := by decide
theorem kc_java_lang_Integer_267 : Cond.constant "java/lang/Integer" 267 (i32 252645135) ∈ gw_tbl := (gw_4 (List.mem_of_getElem? (i := 113) (by decide +kernel)) rfl)
theorem irc_252645135 : ir 252645135 := by decide
theorem irc_63 : ir 63 := by decide
theorem fl_X12_139 : zFl "ShadowHeirsModel" 139 12 30 := ⟨RX12, TX12, 47, tyX12, rfl, by decide, rfl, by decide, rfl, clw_12, tyX12_ok, nmX12, Or.inl (gw_6 (List.mem_of_getElem? (i := 119) (by decide +kernel)) rfl)⟩
theorem zk_152 : zk 152 14 := by constructor <;> decide +kernel
theorem rf_138_30 : sRf 138 30 = 152 := by decide +kernel
theorem fl_X12_329 : zFl "ShadowHeirsModel" 329 12 31 := ⟨RX12, TX12, 47, tyX12, rfl, by decide, rfl, by decide, rfl, clw_12, tyX12_ok, nmX12, Or.inl (gw_6 (List.mem_of_getElem? (i := 120) (by decide +kernel)) rfl)⟩
theorem fl_X12_136 : zFl "ShadowHeirsModel" 136 12 29 := ⟨RX12, TX12, 47, tyX12, rfl, by decide, rfl, by decide, rfl, clw_12, tyX12_ok, nmX12, Or.inl (gw_6 (List.mem_of_getElem? (i := 118) (by decide +kernel)) rfl)⟩
theorem zk_151 : zk 151 13 := by constructor <;> decide +kernel
theorem rf_138_29 : sRf 138 29 = 151 := by decide +kernel
theorem kc_X12_332 : Cond.constantLong "ShadowHeirsModel" 332 (i64 (-1)) ∈ gw_tbl := (gw_8 (List.mem_of_getElem? (i := 56) (by decide +kernel)) rfl)
theorem lrc_m1 : lr (-1) := by decide
theorem fp_12_31 : zFp 12 31 .long := fun T N C h => by
  cases h
  exact ⟨rfl, by decide +kernel⟩
set_option maxRecDepth 100000 in
theorem cal_X12_finds : zCal yX12_finds cX12_finds 3 (some .boolean) 1 := ⟨(gw_8 (List.mem_of_getElem? (i := 55) rfl) rfl), (gw_1 (List.mem_of_getElem? (i := 17) (by decide +kernel)) rfl), by decide +kernel⟩
theorem calv_X12_finds : zCalV yX12_finds := ⟨(gw_8 (List.mem_of_getElem? (i := 54) (by decide +kernel)) rfl), (gw_s (y := yX12_finds) (n := 47) (List.mem_of_getElem? (i := 84) (by decide +kernel)))⟩
theorem ml_X12_334 : zMl "ShadowHeirsModel" 334 yX12_finds := Or.inl (gw_8 (List.mem_of_getElem? (i := 52) (by decide +kernel)) rfl)
set_option maxRecDepth 100000 in
theorem cal_X12_write : zCal yX12_write cX12_write 2 none 1 := ⟨(gw_8 (List.mem_of_getElem? (i := 93) rfl) rfl), (gw_1 (List.mem_of_getElem? (i := 17) (by decide +kernel)) rfl), by decide +kernel⟩
theorem calv_X12_write : zCalV yX12_write := ⟨(gw_8 (List.mem_of_getElem? (i := 92) (by decide +kernel)) rfl), (gw_s (y := yX12_write) (n := 47) (List.mem_of_getElem? (i := 88) (by decide +kernel)))⟩
theorem ml_X12_353 : zMl "ShadowHeirsModel" 353 yX12_write := Or.inl (gw_8 (List.mem_of_getElem? (i := 90) (by decide +kernel)) rfl)
set_option maxRecDepth 100000 in
theorem cal_X12_writeWord : zCal yX12_writeWord cX12_writeWord 3 none 1 := ⟨(gw_8 (List.mem_of_getElem? (i := 89) rfl) rfl), (gw_1 (List.mem_of_getElem? (i := 17) (by decide +kernel)) rfl), by decide +kernel⟩
theorem calv_X12_writeWord : zCalV yX12_writeWord := ⟨(gw_8 (List.mem_of_getElem? (i := 88) (by decide +kernel)) rfl), (gw_s (y := yX12_writeWord) (n := 47) (List.mem_of_getElem? (i := 87) (by decide +kernel)))⟩
theorem ml_X12_349 : zMl "ShadowHeirsModel" 349 yX12_writeWord := Or.inl (gw_8 (List.mem_of_getElem? (i := 86) (by decide +kernel)) rfl)
set_option maxRecDepth 100000 in
theorem cal_X12_writeNumber : zCal yX12_writeNumber cX12_writeNumber 2 none 1 := ⟨(gw_8 (List.mem_of_getElem? (i := 105) rfl) rfl), (gw_1 (List.mem_of_getElem? (i := 17) (by decide +kernel)) rfl), by decide +kernel⟩
theorem calv_X12_writeNumber : zCalV yX12_writeNumber := ⟨(gw_8 (List.mem_of_getElem? (i := 104) (by decide +kernel)) rfl), (gw_s (y := yX12_writeNumber) (n := 47) (List.mem_of_getElem? (i := 91) (by decide +kernel)))⟩
theorem ml_X12_356 : zMl "ShadowHeirsModel" 356 yX12_writeNumber := Or.inl (gw_8 (List.mem_of_getElem? (i := 102) (by decide +kernel)) rfl)
theorem irc_194 : ir 194 := by decide
set_option maxRecDepth 100000 in
theorem cal_X12_holds : zCal yX12_holds cX12_holds 8 (some .boolean) 2 := ⟨(gw_8 (List.mem_of_getElem? (i := 222) rfl) rfl), (gw_1 (List.mem_of_getElem? (i := 17) (by decide +kernel)) rfl), by decide +kernel⟩
theorem calv_X12_holds : zCalV yX12_holds := ⟨(gw_8 (List.mem_of_getElem? (i := 221) (by decide +kernel)) rfl), (gw_s (y := yX12_holds) (n := 47) (List.mem_of_getElem? (i := 113) (by decide +kernel)))⟩
theorem ml_X12_452 : zMl "ShadowHeirsModel" 452 yX12_holds := Or.inl (gw_8 (List.mem_of_getElem? (i := 219) (by decide +kernel)) rfl)
theorem irc_21 : ir 21 := by decide
theorem irc_22 : ir 22 := by decide
theorem irc_13 : ir 13 := by decide
set_option maxRecDepth 100000 in
theorem cal_X12_readAnd : zCal yX12_readAnd cX12_readAnd 2 (some .boolean) 0 := ⟨(gw_8 (List.mem_of_getElem? (i := 186) rfl) rfl), (gw_1 (List.mem_of_getElem? (i := 17) (by decide +kernel)) rfl), by decide +kernel⟩
theorem calv_X12_readAnd : zCalV yX12_readAnd := ⟨(gw_8 (List.mem_of_getElem? (i := 185) (by decide +kernel)) rfl), (gw_s (y := yX12_readAnd) (n := 47) (List.mem_of_getElem? (i := 105) (by decide +kernel)))⟩
theorem ml_X12_415 : zMl "ShadowHeirsModel" 415 yX12_readAnd := Or.inl (gw_8 (List.mem_of_getElem? (i := 183) (by decide +kernel)) rfl)
theorem irc_14 : ir 14 := by decide
set_option maxRecDepth 100000 in
theorem cal_X12_readSaid : zCal yX12_readSaid cX12_readSaid 4 (some .boolean) 0 := ⟨(gw_8 (List.mem_of_getElem? (i := 190) rfl) rfl), (gw_1 (List.mem_of_getElem? (i := 17) (by decide +kernel)) rfl), by decide +kernel⟩
theorem calv_X12_readSaid : zCalV yX12_readSaid := ⟨(gw_8 (List.mem_of_getElem? (i := 189) (by decide +kernel)) rfl), (gw_s (y := yX12_readSaid) (n := 47) (List.mem_of_getElem? (i := 106) (by decide +kernel)))⟩
theorem ml_X12_425 : zMl "ShadowHeirsModel" 425 yX12_readSaid := Or.inl (gw_8 (List.mem_of_getElem? (i := 187) (by decide +kernel)) rfl)
theorem fl_X12_428 : zFl "ShadowHeirsModel" 428 12 44 := ⟨RX12, TX12, 47, tyX12, rfl, by decide, rfl, by decide, rfl, clw_12, tyX12_ok, nmX12, Or.inl (gw_6 (List.mem_of_getElem? (i := 133) (by decide +kernel)) rfl)⟩
theorem fl_X12_431 : zFl "ShadowHeirsModel" 431 12 45 := ⟨RX12, TX12, 47, tyX12, rfl, by decide, rfl, by decide, rfl, clw_12, tyX12_ok, nmX12, Or.inl (gw_6 (List.mem_of_getElem? (i := 134) (by decide +kernel)) rfl)⟩
theorem fp_12_44 : zFp 12 44 .int := fun T N C h => by
  cases h
  exact ⟨rfl, by decide +kernel⟩
theorem fp_12_45 : zFp 12 45 .int := fun T N C h => by
  cases h
  exact ⟨rfl, by decide +kernel⟩
set_option maxRecDepth 100000 in
theorem cal_X12_readNot : zCal yX12_readNot cX12_readNot 1 (some .boolean) 0 := ⟨(gw_8 (List.mem_of_getElem? (i := 198) rfl) rfl), (gw_1 (List.mem_of_getElem? (i := 17) (by decide +kernel)) rfl), by decide +kernel⟩
theorem calv_X12_readNot : zCalV yX12_readNot := ⟨(gw_8 (List.mem_of_getElem? (i := 197) (by decide +kernel)) rfl), (gw_s (y := yX12_readNot) (n := 47) (List.mem_of_getElem? (i := 108) (by decide +kernel)))⟩
theorem ml_X12_437 : zMl "ShadowHeirsModel" 437 yX12_readNot := Or.inl (gw_8 (List.mem_of_getElem? (i := 195) (by decide +kernel)) rfl)
theorem irc_19 : ir 19 := by decide
set_option maxRecDepth 100000 in
theorem cal_X12_readCompare : zCal yX12_readCompare cX12_readCompare 3 (some .boolean) 1 := ⟨(gw_8 (List.mem_of_getElem? (i := 214) rfl) rfl), (gw_1 (List.mem_of_getElem? (i := 17) (by decide +kernel)) rfl), by decide +kernel⟩
theorem calv_X12_readCompare : zCalV yX12_readCompare := ⟨(gw_8 (List.mem_of_getElem? (i := 213) (by decide +kernel)) rfl), (gw_s (y := yX12_readCompare) (n := 47) (List.mem_of_getElem? (i := 112) (by decide +kernel)))⟩
theorem ml_X12_443 : zMl "ShadowHeirsModel" 443 yX12_readCompare := Or.inl (gw_8 (List.mem_of_getElem? (i := 211) (by decide +kernel)) rfl)
set_option maxRecDepth 100000 in
theorem cal_X12_readOf : zCal yX12_readOf cX12_readOf 2 (some .boolean) 1 := ⟨(gw_8 (List.mem_of_getElem? (i := 206) rfl) rfl), (gw_1 (List.mem_of_getElem? (i := 17) (by decide +kernel)) rfl), by decide +kernel⟩
theorem calv_X12_readOf : zCalV yX12_readOf := ⟨(gw_8 (List.mem_of_getElem? (i := 205) (by decide +kernel)) rfl), (gw_s (y := yX12_readOf) (n := 47) (List.mem_of_getElem? (i := 110) (by decide +kernel)))⟩
theorem ml_X12_440 : zMl "ShadowHeirsModel" 440 yX12_readOf := Or.inl (gw_8 (List.mem_of_getElem? (i := 203) (by decide +kernel)) rfl)
set_option maxRecDepth 100000 in
theorem cal_X12_readBracket : zCal yX12_readBracket cX12_readBracket 1 (some .boolean) 0 := ⟨(gw_8 (List.mem_of_getElem? (i := 194) rfl) rfl), (gw_1 (List.mem_of_getElem? (i := 17) (by decide +kernel)) rfl), by decide +kernel⟩
theorem calv_X12_readBracket : zCalV yX12_readBracket := ⟨(gw_8 (List.mem_of_getElem? (i := 193) (by decide +kernel)) rfl), (gw_s (y := yX12_readBracket) (n := 47) (List.mem_of_getElem? (i := 107) (by decide +kernel)))⟩
theorem ml_X12_434 : zMl "ShadowHeirsModel" 434 yX12_readBracket := Or.inl (gw_8 (List.mem_of_getElem? (i := 191) (by decide +kernel)) rfl)
set_option maxRecDepth 100000 in
theorem cal_X12_readOr : zCal yX12_readOr cX12_readOr 2 (some .boolean) 0 := ⟨(gw_8 (List.mem_of_getElem? (i := 182) rfl) rfl), (gw_1 (List.mem_of_getElem? (i := 17) (by decide +kernel)) rfl), by decide +kernel⟩
theorem calv_X12_readOr : zCalV yX12_readOr := ⟨(gw_8 (List.mem_of_getElem? (i := 181) (by decide +kernel)) rfl), (gw_s (y := yX12_readOr) (n := 47) (List.mem_of_getElem? (i := 104) (by decide +kernel)))⟩
theorem ml_X12_446 : zMl "ShadowHeirsModel" 446 yX12_readOr := Or.inl (gw_8 (List.mem_of_getElem? (i := 179) (by decide +kernel)) rfl)
set_option maxRecDepth 100000 in
theorem cal_X6_hasRoom : zCal yX6_hasRoom cX6_hasRoom 2 (some .boolean) 1 := ⟨(gw_3 (List.mem_of_getElem? (i := 64) rfl) rfl), (gw_1 (List.mem_of_getElem? (i := 2) (by decide +kernel)) rfl), by decide +kernel⟩
theorem calv_X6_hasRoom : zCalV yX6_hasRoom := ⟨(gw_3 (List.mem_of_getElem? (i := 62) (by decide +kernel)) rfl), (gw_3 (List.mem_of_getElem? (i := 63) (by decide +kernel)) rfl)⟩
theorem ml_X11_122 : zMl "ShadowHeirs" 122 yX6_hasRoom := Or.inl (gw_3 (List.mem_of_getElem? (i := 61) (by decide +kernel)) rfl)
set_option maxRecDepth 100000 in
theorem cal_X6_addNumber : zCal yX6_addNumber cX6_addNumber 3 none 1 := ⟨(gw_3 (List.mem_of_getElem? (i := 68) rfl) rfl), (gw_1 (List.mem_of_getElem? (i := 2) (by decide +kernel)) rfl), by decide +kernel⟩
theorem calv_X6_addNumber : zCalV yX6_addNumber := ⟨(gw_3 (List.mem_of_getElem? (i := 66) (by decide +kernel)) rfl), (gw_3 (List.mem_of_getElem? (i := 67) (by decide +kernel)) rfl)⟩
theorem ml_X11_126 : zMl "ShadowHeirs" 126 yX6_addNumber := Or.inl (gw_3 (List.mem_of_getElem? (i := 65) (by decide +kernel)) rfl)
theorem fl_X11_26 : zFl "ShadowHeirs" 26 11 2 := ⟨RX11, TX11, 20, tyX11, rfl, by decide, rfl, by decide, rfl, clw_11, tyX11_ok, nmX11, Or.inl (gw_2 (List.mem_of_getElem? (i := 238) (by decide +kernel)) rfl)⟩
theorem rf_0_2 : sRf 0 2 = 11 := by decide +kernel
theorem fl_X11_226 : zFl "ShadowHeirs" 226 7 6 := ⟨RX7, TX7, 9, tyX7, rfl, by decide, rfl, by decide, rfl, clw_7, tyX7_ok, nmX7, Or.inr ⟨"ShadowHeirs", (nw_2 (List.mem_of_getElem? (i := 15) (by decide +kernel)) rfl)⟩⟩
theorem fl_X11_42 : zFl "ShadowHeirs" 42 11 4 := ⟨RX11, TX11, 20, tyX11, rfl, by decide, rfl, by decide, rfl, clw_11, tyX11_ok, nmX11, Or.inl (gw_3 (List.mem_of_getElem? (i := 0) (by decide +kernel)) rfl)⟩
theorem rf_0_4 : sRf 0 4 = 20 := by decide +kernel
theorem fl_X11_214 : zFl "ShadowHeirs" 214 7 5 := ⟨RX7, TX7, 9, tyX7, rfl, by decide, rfl, by decide, rfl, clw_7, tyX7_ok, nmX7, Or.inr ⟨"ShadowHeirs", (nw_2 (List.mem_of_getElem? (i := 13) (by decide +kernel)) rfl)⟩⟩
theorem fl_X11_232 : zFl "ShadowHeirs" 232 7 8 := ⟨RX7, TX7, 9, tyX7, rfl, by decide, rfl, by decide, rfl, clw_7, tyX7_ok, nmX7, Or.inr ⟨"ShadowHeirs", (nw_2 (List.mem_of_getElem? (i := 21) (by decide +kernel)) rfl)⟩⟩
theorem fl_X11_229 : zFl "ShadowHeirs" 229 7 7 := ⟨RX7, TX7, 9, tyX7, rfl, by decide, rfl, by decide, rfl, clw_7, tyX7_ok, nmX7, Or.inr ⟨"ShadowHeirs", (nw_2 (List.mem_of_getElem? (i := 18) (by decide +kernel)) rfl)⟩⟩
theorem fl_X11_217 : zFl "ShadowHeirs" 217 7 4 := ⟨RX7, TX7, 9, tyX7, rfl, by decide, rfl, by decide, rfl, clw_7, tyX7_ok, nmX7, Or.inr ⟨"ShadowHeirs", (nw_2 (List.mem_of_getElem? (i := 6) (by decide +kernel)) rfl)⟩⟩
set_option maxRecDepth 100000 in
theorem cal_X3_tableHour : zCal yX3_tableHour cX3_tableHour 1 (some .int) 0 := ⟨(gw_3 (List.mem_of_getElem? (i := 238) rfl) rfl), (gw_1 (List.mem_of_getElem? (i := 10) (by decide +kernel)) rfl), by decide +kernel⟩
theorem calv_X3_tableHour : zCalV yX3_tableHour := ⟨(gw_3 (List.mem_of_getElem? (i := 236) (by decide +kernel)) rfl), (gw_3 (List.mem_of_getElem? (i := 237) (by decide +kernel)) rfl)⟩
theorem ml_X11_193 : zMl "ShadowHeirs" 193 yX3_tableHour := Or.inl (gw_4 (List.mem_of_getElem? (i := 25) (by decide +kernel)) rfl)
set_option maxRecDepth 100000 in
theorem cal_X7_allStones : zCal yX7_allStones cX7_allStones 3 (some .int) 0 := ⟨(gw_4 (List.mem_of_getElem? (i := 29) rfl) rfl), (gw_1 (List.mem_of_getElem? (i := 8) (by decide +kernel)) rfl), by decide +kernel⟩
theorem calv_X7_allStones : zCalV yX7_allStones := ⟨(gw_4 (List.mem_of_getElem? (i := 27) (by decide +kernel)) rfl), (gw_4 (List.mem_of_getElem? (i := 28) (by decide +kernel)) rfl)⟩
theorem ml_X11_220 : zMl "ShadowHeirs" 220 yX7_allStones := Or.inl (gw_4 (List.mem_of_getElem? (i := 26) (by decide +kernel)) rfl)
set_option maxRecDepth 100000 in
theorem cal_X7_allWealth : zCal yX7_allWealth cX7_allWealth 3 (some .int) 0 := ⟨(gw_4 (List.mem_of_getElem? (i := 33) rfl) rfl), (gw_1 (List.mem_of_getElem? (i := 8) (by decide +kernel)) rfl), by decide +kernel⟩
theorem calv_X7_allWealth : zCalV yX7_allWealth := ⟨(gw_4 (List.mem_of_getElem? (i := 31) (by decide +kernel)) rfl), (gw_4 (List.mem_of_getElem? (i := 32) (by decide +kernel)) rfl)⟩
theorem ml_X11_223 : zMl "ShadowHeirs" 223 yX7_allWealth := Or.inl (gw_4 (List.mem_of_getElem? (i := 30) (by decide +kernel)) rfl)
theorem fl_X11_102 : zFl "ShadowHeirs" 102 11 14 := ⟨RX11, TX11, 20, tyX11, rfl, by decide, rfl, by decide, rfl, clw_11, tyX11_ok, nmX11, Or.inl (gw_3 (List.mem_of_getElem? (i := 10) (by decide +kernel)) rfl)⟩
theorem rf_0_14 : sRf 0 14 = 102 := by decide +kernel
set_option maxRecDepth 100000 in
theorem cal_X9_byteOn : zCal yX9_byteOn cX9_byteOn 2 (some .int) 1 := ⟨(gw_5 (List.mem_of_getElem? (i := 42) rfl) rfl), (gw_1 (List.mem_of_getElem? (i := 16) (by decide +kernel)) rfl), by decide +kernel⟩
theorem calv_X9_byteOn : zCalV yX9_byteOn := ⟨(gw_5 (List.mem_of_getElem? (i := 40) (by decide +kernel)) rfl), (gw_5 (List.mem_of_getElem? (i := 41) (by decide +kernel)) rfl)⟩
theorem ml_X11_321 : zMl "ShadowHeirs" 321 yX9_byteOn := Or.inl (gw_5 (List.mem_of_getElem? (i := 39) (by decide +kernel)) rfl)
set_option maxRecDepth 100000 in
theorem cal_X6_byteOn : zCal yX6_byteOn cX6_byteOn 2 (some .int) 1 := ⟨(gw_4 (List.mem_of_getElem? (i := 220) rfl) rfl), (gw_1 (List.mem_of_getElem? (i := 2) (by decide +kernel)) rfl), by decide +kernel⟩
theorem calv_X6_byteOn : zCalV yX6_byteOn := ⟨(gw_4 (List.mem_of_getElem? (i := 218) (by decide +kernel)) rfl), (gw_4 (List.mem_of_getElem? (i := 219) (by decide +kernel)) rfl)⟩
theorem ml_X11_307 : zMl "ShadowHeirs" 307 yX6_byteOn := Or.inl (gw_4 (List.mem_of_getElem? (i := 217) (by decide +kernel)) rfl)
theorem ml_X11_200 : zMl "ShadowHeirs" 200 yX5_hasPerson := Or.inl (gw_4 (List.mem_of_getElem? (i := 38) (by decide +kernel)) rfl)
set_option maxRecDepth 100000 in
theorem cal_X5_hasHouse : zCal yX5_hasHouse cX5_hasHouse 2 (some .boolean) 1 := ⟨(gw_4 (List.mem_of_getElem? (i := 90) rfl) rfl), (gw_1 (List.mem_of_getElem? (i := 7) (by decide +kernel)) rfl), by decide +kernel⟩
theorem calv_X5_hasHouse : zCalV yX5_hasHouse := ⟨(gw_4 (List.mem_of_getElem? (i := 88) (by decide +kernel)) rfl), (gw_4 (List.mem_of_getElem? (i := 89) (by decide +kernel)) rfl)⟩
theorem ml_X11_170 : zMl "ShadowHeirs" 170 yX5_hasHouse := Or.inl (gw_4 (List.mem_of_getElem? (i := 87) (by decide +kernel)) rfl)
set_option maxRecDepth 100000 in
theorem cal_X12_writeNext : zCal yX12_writeNext cX12_writeNext 3 none 1 := ⟨(gw_8 (List.mem_of_getElem? (i := 97) rfl) rfl), (gw_1 (List.mem_of_getElem? (i := 17) (by decide +kernel)) rfl), by decide +kernel⟩
theorem calv_X12_writeNext : zCalV yX12_writeNext := ⟨(gw_8 (List.mem_of_getElem? (i := 96) (by decide +kernel)) rfl), (gw_s (y := yX12_writeNext) (n := 47) (List.mem_of_getElem? (i := 89) (by decide +kernel)))⟩
theorem ml_X12_359 : zMl "ShadowHeirsModel" 359 yX12_writeNext := Or.inl (gw_8 (List.mem_of_getElem? (i := 94) (by decide +kernel)) rfl)
set_option maxRecDepth 100000 in
theorem cal_X12_writeCount : zCal yX12_writeCount cX12_writeCount 2 none 1 := ⟨(gw_8 (List.mem_of_getElem? (i := 101) rfl) rfl), (gw_1 (List.mem_of_getElem? (i := 17) (by decide +kernel)) rfl), by decide +kernel⟩
theorem calv_X12_writeCount : zCalV yX12_writeCount := ⟨(gw_8 (List.mem_of_getElem? (i := 100) (by decide +kernel)) rfl), (gw_s (y := yX12_writeCount) (n := 47) (List.mem_of_getElem? (i := 90) (by decide +kernel)))⟩
theorem ml_X12_362 : zMl "ShadowHeirsModel" 362 yX12_writeCount := Or.inl (gw_8 (List.mem_of_getElem? (i := 98) (by decide +kernel)) rfl)
theorem fp_12_41 : zFp 12 41 .boolean := fun T N C h => by
  cases h
  exact ⟨rfl, by decide +kernel⟩
set_option maxRecDepth 100000 in
theorem cal_X12_stay : zCal yX12_stay cX12_stay 4 none 1 := ⟨(gw_8 (List.mem_of_getElem? (i := 170) rfl) rfl), (gw_1 (List.mem_of_getElem? (i := 17) (by decide +kernel)) rfl), by decide +kernel⟩
theorem calv_X12_stay : zCalV yX12_stay := ⟨(gw_8 (List.mem_of_getElem? (i := 169) (by decide +kernel)) rfl), (gw_s (y := yX12_stay) (n := 47) (List.mem_of_getElem? (i := 103) (by decide +kernel)))⟩
theorem ml_X12_408 : zMl "ShadowHeirsModel" 408 yX12_stay := Or.inl (gw_8 (List.mem_of_getElem? (i := 167) (by decide +kernel)) rfl)
set_option maxRecDepth 100000 in
theorem cal_X12_goBy : zCal yX12_goBy cX12_goBy 6 (some .int) 1 := ⟨(gw_8 (List.mem_of_getElem? (i := 166) rfl) rfl), (gw_1 (List.mem_of_getElem? (i := 17) (by decide +kernel)) rfl), by decide +kernel⟩
theorem calv_X12_goBy : zCalV yX12_goBy := ⟨(gw_8 (List.mem_of_getElem? (i := 165) (by decide +kernel)) rfl), (gw_s (y := yX12_goBy) (n := 47) (List.mem_of_getElem? (i := 102) (by decide +kernel)))⟩
theorem ml_X12_402 : zMl "ShadowHeirsModel" 402 yX12_goBy := Or.inl (gw_8 (List.mem_of_getElem? (i := 163) (by decide +kernel)) rfl)
set_option maxRecDepth 100000 in
theorem cal_X12_readBookLine : zCal yX12_readBookLine cX12_readBookLine 3 (some .boolean) 0 := ⟨(gw_8 (List.mem_of_getElem? (i := 150) rfl) rfl), (gw_1 (List.mem_of_getElem? (i := 17) (by decide +kernel)) rfl), by decide +kernel⟩
theorem calv_X12_readBookLine : zCalV yX12_readBookLine := ⟨(gw_8 (List.mem_of_getElem? (i := 149) (by decide +kernel)) rfl), (gw_s (y := yX12_readBookLine) (n := 47) (List.mem_of_getElem? (i := 98) (by decide +kernel)))⟩
theorem ml_X12_399 : zMl "ShadowHeirsModel" 399 yX12_readBookLine := Or.inl (gw_8 (List.mem_of_getElem? (i := 147) (by decide +kernel)) rfl)
theorem irc_m2 : ir (-2) := by decide
theorem fp_12_40 : zFp 12 40 .int := fun T N C h => by
  cases h
  exact ⟨rfl, by decide +kernel⟩
theorem irc_m1000 : ir (-1000) := by decide
theorem irc_240 : ir 240 := by decide
theorem irc_200 : ir 200 := by decide
theorem irc_192 : ir 192 := by decide
theorem irc_193 : ir 193 := by decide
theorem fl_X2_11 : zFl "ShadowHeirs$History" 11 2 0 := ⟨RX2, TX2, 3, tyX2, rfl, by decide, rfl, by decide, rfl, clw_2, tyX2_ok, nmX2, Or.inl (gw_2 (List.mem_of_getElem? (i := 180) (by decide +kernel)) rfl)⟩
theorem zk_54 : zk 54 17 := by constructor <;> decide +kernel
theorem rf_53_0 : sRf 53 0 = 54 := by decide +kernel
theorem fl_X2_15 : zFl "ShadowHeirs$History" 15 2 1 := ⟨RX2, TX2, 3, tyX2, rfl, by decide, rfl, by decide, rfl, clw_2, tyX2_ok, nmX2, Or.inl (gw_2 (List.mem_of_getElem? (i := 181) (by decide +kernel)) rfl)⟩
set_option maxRecDepth 100000 in
theorem cal_X7_copyFrom : zCal yX7_copyFrom cX7_copyFrom 2 none 1 := ⟨(gw_3 (List.mem_of_getElem? (i := 202) rfl) rfl), (gw_1 (List.mem_of_getElem? (i := 8) (by decide +kernel)) rfl), by decide +kernel⟩
theorem calv_X7_copyFrom : zCalV yX7_copyFrom := ⟨(gw_3 (List.mem_of_getElem? (i := 200) (by decide +kernel)) rfl), (gw_3 (List.mem_of_getElem? (i := 201) (by decide +kernel)) rfl)⟩
theorem ml_X2_23 : zMl "ShadowHeirs$History" 23 yX7_copyFrom := Or.inl (gw_4 (List.mem_of_getElem? (i := 51) (by decide +kernel)) rfl)
theorem fp_2_1 : zFp 2 1 .int := fun T N C h => by
  cases h
  exact ⟨rfl, by decide +kernel⟩
theorem mm_l_X2_27 : Cond.methodLink "ShadowHeirs$History" 27 Lib.Math.min.name ∈ gw_tbl := (gw_4 (List.mem_of_getElem? (i := 52) (by decide +kernel)) rfl)
theorem fl_X3_19 : zFl "ShadowHeirs$Island" 19 3 2 := ⟨RX3, TX3, 3, tyX3, rfl, by decide, rfl, by decide, rfl, clw_3, tyX3_ok, nmX3, Or.inl (gw_2 (List.mem_of_getElem? (i := 84) (by decide +kernel)) rfl)⟩
set_option maxRecDepth 100000 in
theorem cal_X5_copyFrom : zCal yX5_copyFrom cX5_copyFrom 2 none 1 := ⟨(gw_3 (List.mem_of_getElem? (i := 186) rfl) rfl), (gw_1 (List.mem_of_getElem? (i := 7) (by decide +kernel)) rfl), by decide +kernel⟩
theorem calv_X5_copyFrom : zCalV yX5_copyFrom := ⟨(gw_3 (List.mem_of_getElem? (i := 184) (by decide +kernel)) rfl), (gw_3 (List.mem_of_getElem? (i := 185) (by decide +kernel)) rfl)⟩
theorem ml_X3_23 : zMl "ShadowHeirs$Island" 23 yX5_copyFrom := Or.inl (gw_3 (List.mem_of_getElem? (i := 183) (by decide +kernel)) rfl)
theorem ml_X3_29 : zMl "ShadowHeirs$Island" 29 yX7_copyFrom := Or.inl (gw_3 (List.mem_of_getElem? (i := 199) (by decide +kernel)) rfl)
set_option maxRecDepth 100000 in
theorem cal_X8_copyFrom : zCal yX8_copyFrom cX8_copyFrom 2 none 1 := ⟨(gw_3 (List.mem_of_getElem? (i := 207) rfl) rfl), (gw_1 (List.mem_of_getElem? (i := 9) (by decide +kernel)) rfl), by decide +kernel⟩
theorem calv_X8_copyFrom : zCalV yX8_copyFrom := ⟨(gw_3 (List.mem_of_getElem? (i := 205) (by decide +kernel)) rfl), (gw_3 (List.mem_of_getElem? (i := 206) (by decide +kernel)) rfl)⟩
theorem ml_X3_34 : zMl "ShadowHeirs$Island" 34 yX8_copyFrom := Or.inl (gw_3 (List.mem_of_getElem? (i := 204) (by decide +kernel)) rfl)
theorem fl_X3_69 : zFl "ShadowHeirs$Island" 69 5 9 := ⟨RX5, TX5, 11, tyX5, rfl, by decide, rfl, by decide, rfl, clw_5, tyX5_ok, nmX5, Or.inr ⟨"ShadowHeirs", (nw_1 (List.mem_of_getElem? (i := 191) (by decide +kernel)) rfl)⟩⟩
theorem fl_X3_76 : zFl "ShadowHeirs$Island" 76 5 10 := ⟨RX5, TX5, 11, tyX5, rfl, by decide, rfl, by decide, rfl, clw_5, tyX5_ok, nmX5, Or.inr ⟨"ShadowHeirs", (nw_1 (List.mem_of_getElem? (i := 194) (by decide +kernel)) rfl)⟩⟩
theorem ml_X3_72 : zMl "ShadowHeirs$Island" 72 yX5_spotFrom := Or.inl (gw_4 (List.mem_of_getElem? (i := 16) (by decide +kernel)) rfl)
theorem ml_X3_79 : zMl "ShadowHeirs$Island" 79 yX3_heightAt := Or.inl (gw_4 (List.mem_of_getElem? (i := 20) (by decide +kernel)) rfl)
theorem ml_X3_65 : zMl "ShadowHeirs$Island" 65 yX5_hasShadow := Or.inl (gw_4 (List.mem_of_getElem? (i := 15) (by decide +kernel)) rfl)
set_option maxRecDepth 100000 in
theorem cal_X5_stepsAlong : zCal yX5_stepsAlong cX5_stepsAlong 8 (some .int) 3 := ⟨(gw_4 (List.mem_of_getElem? (i := 2) rfl) rfl), (gw_1 (List.mem_of_getElem? (i := 7) (by decide +kernel)) rfl), by decide +kernel⟩
theorem calv_X5_stepsAlong : zCalV yX5_stepsAlong := ⟨(gw_4 (List.mem_of_getElem? (i := 0) (by decide +kernel)) rfl), (gw_4 (List.mem_of_getElem? (i := 1) (by decide +kernel)) rfl)⟩
theorem ml_X3_87 : zMl "ShadowHeirs$Island" 87 yX5_stepsAlong := Or.inl (gw_3 (List.mem_of_getElem? (i := 239) (by decide +kernel)) rfl)
set_option maxRecDepth 100000 in
theorem cal_X3_reach : zCal yX3_reach cX3_reach 7 (some .int) 2 := ⟨(gw_4 (List.mem_of_getElem? (i := 14) rfl) rfl), (gw_1 (List.mem_of_getElem? (i := 10) (by decide +kernel)) rfl), by decide +kernel⟩
theorem calv_X3_reach : zCalV yX3_reach := ⟨(gw_4 (List.mem_of_getElem? (i := 12) (by decide +kernel)) rfl), (gw_4 (List.mem_of_getElem? (i := 13) (by decide +kernel)) rfl)⟩
theorem ml_X3_83 : zMl "ShadowHeirs$Island" 83 yX3_reach := Or.inl (gw_4 (List.mem_of_getElem? (i := 11) (by decide +kernel)) rfl)
theorem ml_X3_90 : zMl "ShadowHeirs$Island" 90 yX3_tableHour := Or.inl (gw_3 (List.mem_of_getElem? (i := 235) (by decide +kernel)) rfl)
set_option maxRecDepth 100000 in
theorem cal_X3_personsTouched : zCal yX3_personsTouched cX3_personsTouched 7 (some .int) 2 := ⟨(gw_4 (List.mem_of_getElem? (i := 107) rfl) rfl), (gw_1 (List.mem_of_getElem? (i := 10) (by decide +kernel)) rfl), by decide +kernel⟩
theorem calv_X3_personsTouched : zCalV yX3_personsTouched := ⟨(gw_4 (List.mem_of_getElem? (i := 105) (by decide +kernel)) rfl), (gw_4 (List.mem_of_getElem? (i := 106) (by decide +kernel)) rfl)⟩
theorem ml_X3_94 : zMl "ShadowHeirs$Island" 94 yX3_personsTouched := Or.inl (gw_4 (List.mem_of_getElem? (i := 104) (by decide +kernel)) rfl)
set_option maxRecDepth 100000 in
theorem cal_J6_bitCount_0f7a4 : zCal yJ6_bitCount_0f7a4 cJ6_bitCount_0f7a4 1 (some .int) 1 := ⟨(gw_4 (List.mem_of_getElem? (i := 110) rfl) rfl), (gw_1 (List.mem_of_getElem? (i := 24) (by decide +kernel)) rfl), by decide +kernel⟩
theorem sta_J6_bitCount_0f7a4 : Cond.static yJ6_bitCount_0f7a4 ∈ gw_tbl := (gw_4 (List.mem_of_getElem? (i := 109) (by decide +kernel)) rfl)
theorem ml_X3_97 : zMl "ShadowHeirs$Island" 97 yJ6_bitCount_0f7a4 := Or.inl (gw_4 (List.mem_of_getElem? (i := 108) (by decide +kernel)) rfl)
theorem ml_X3_108 : zMl "ShadowHeirs$Island" 108 yX5_hasPerson := Or.inl (gw_4 (List.mem_of_getElem? (i := 46) (by decide +kernel)) rfl)
theorem fl_X3_112 : zFl "ShadowHeirs$Island" 112 7 7 := ⟨RX7, TX7, 9, tyX7, rfl, by decide, rfl, by decide, rfl, clw_7, tyX7_ok, nmX7, Or.inr ⟨"ShadowHeirs", (nw_2 (List.mem_of_getElem? (i := 19) (by decide +kernel)) rfl)⟩⟩
set_option maxRecDepth 100000 in
theorem cal_X3_whyNotStep : zCal yX3_whyNotStep cX3_whyNotStep 4 (some .int) 2 := ⟨(gw_4 (List.mem_of_getElem? (i := 45) rfl) rfl), (gw_1 (List.mem_of_getElem? (i := 10) (by decide +kernel)) rfl), by decide +kernel⟩
theorem calv_X3_whyNotStep : zCalV yX3_whyNotStep := ⟨(gw_4 (List.mem_of_getElem? (i := 43) (by decide +kernel)) rfl), (gw_4 (List.mem_of_getElem? (i := 44) (by decide +kernel)) rfl)⟩
theorem ml_X3_115 : zMl "ShadowHeirs$Island" 115 yX3_whyNotStep := Or.inl (gw_6 (List.mem_of_getElem? (i := 54) (by decide +kernel)) rfl)
set_option maxRecDepth 100000 in
theorem cal_X5_houseOn : zCal yX5_houseOn cX5_houseOn 3 (some .int) 1 := ⟨(gw_3 (List.mem_of_getElem? (i := 229) rfl) rfl), (gw_1 (List.mem_of_getElem? (i := 7) (by decide +kernel)) rfl), by decide +kernel⟩
theorem calv_X5_houseOn : zCalV yX5_houseOn := ⟨(gw_3 (List.mem_of_getElem? (i := 227) (by decide +kernel)) rfl), (gw_3 (List.mem_of_getElem? (i := 228) (by decide +kernel)) rfl)⟩
theorem ml_X3_118 : zMl "ShadowHeirs$Island" 118 yX5_houseOn := Or.inl (gw_4 (List.mem_of_getElem? (i := 65) (by decide +kernel)) rfl)
set_option maxRecDepth 100000 in
theorem cal_X3_personsOn : zCal yX3_personsOn cX3_personsOn 4 (some .int) 1 := ⟨(gw_3 (List.mem_of_getElem? (i := 134) rfl) rfl), (gw_1 (List.mem_of_getElem? (i := 10) (by decide +kernel)) rfl), by decide +kernel⟩
theorem calv_X3_personsOn : zCalV yX3_personsOn := ⟨(gw_3 (List.mem_of_getElem? (i := 132) (by decide +kernel)) rfl), (gw_3 (List.mem_of_getElem? (i := 133) (by decide +kernel)) rfl)⟩
theorem ml_X3_121 : zMl "ShadowHeirs$Island" 121 yX3_personsOn := Or.inl (gw_4 (List.mem_of_getElem? (i := 66) (by decide +kernel)) rfl)
set_option maxRecDepth 100000 in
theorem cal_X7_isBuried : zCal yX7_isBuried cX7_isBuried 2 (some .boolean) 1 := ⟨(gw_4 (List.mem_of_getElem? (i := 98) rfl) rfl), (gw_1 (List.mem_of_getElem? (i := 8) (by decide +kernel)) rfl), by decide +kernel⟩
theorem calv_X7_isBuried : zCalV yX7_isBuried := ⟨(gw_4 (List.mem_of_getElem? (i := 96) (by decide +kernel)) rfl), (gw_4 (List.mem_of_getElem? (i := 97) (by decide +kernel)) rfl)⟩
theorem ml_X3_127 : zMl "ShadowHeirs$Island" 127 yX7_isBuried := Or.inl (gw_4 (List.mem_of_getElem? (i := 95) (by decide +kernel)) rfl)
theorem fl_X3_133 : zFl "ShadowHeirs$Island" 133 7 3 := ⟨RX7, TX7, 9, tyX7, rfl, by decide, rfl, by decide, rfl, clw_7, tyX7_ok, nmX7, Or.inr ⟨"ShadowHeirs", (nw_2 (List.mem_of_getElem? (i := 3) (by decide +kernel)) rfl)⟩⟩
theorem fl_X3_136 : zFl "ShadowHeirs$Island" 136 7 2 := ⟨RX7, TX7, 9, tyX7, rfl, by decide, rfl, by decide, rfl, clw_7, tyX7_ok, nmX7, Or.inr ⟨"ShadowHeirs", (nw_1 (List.mem_of_getElem? (i := 239) (by decide +kernel)) rfl)⟩⟩
theorem fl_X3_139 : zFl "ShadowHeirs$Island" 139 7 6 := ⟨RX7, TX7, 9, tyX7, rfl, by decide, rfl, by decide, rfl, clw_7, tyX7_ok, nmX7, Or.inr ⟨"ShadowHeirs", (nw_2 (List.mem_of_getElem? (i := 16) (by decide +kernel)) rfl)⟩⟩
theorem fl_X3_142 : zFl "ShadowHeirs$Island" 142 7 4 := ⟨RX7, TX7, 9, tyX7, rfl, by decide, rfl, by decide, rfl, clw_7, tyX7_ok, nmX7, Or.inr ⟨"ShadowHeirs", (nw_2 (List.mem_of_getElem? (i := 8) (by decide +kernel)) rfl)⟩⟩
theorem ml_X3_130 : zMl "ShadowHeirs$Island" 130 yX5_hasHouse := Or.inl (gw_4 (List.mem_of_getElem? (i := 103) (by decide +kernel)) rfl)
set_option maxRecDepth 100000 in
theorem cal_X6_readRun : zCal yX6_readRun cX6_readRun 7 none 0 := ⟨(gw_3 (List.mem_of_getElem? (i := 100) rfl) rfl), (gw_1 (List.mem_of_getElem? (i := 2) (by decide +kernel)) rfl), by decide +kernel⟩
theorem calv_X6_readRun : zCalV yX6_readRun := ⟨(gw_3 (List.mem_of_getElem? (i := 99) (by decide +kernel)) rfl), (gw_s (y := yX6_readRun) (n := 11) (List.mem_of_getElem? (i := 1) (by decide +kernel)))⟩
theorem ml_X6_70 : zMl "ShadowHeirs$Reader" 70 yX6_readRun := Or.inl (gw_3 (List.mem_of_getElem? (i := 97) (by decide +kernel)) rfl)
theorem fp_6_5 : zFp 6 5 .int := fun T N C h => by
  cases h
  exact ⟨rfl, by decide +kernel⟩
set_option maxRecDepth 100000 in
theorem cal_X6_step : zCal yX6_step cX6_step 2 none 0 := ⟨(gw_3 (List.mem_of_getElem? (i := 96) rfl) rfl), (gw_1 (List.mem_of_getElem? (i := 2) (by decide +kernel)) rfl), by decide +kernel⟩
theorem calv_X6_step : zCalV yX6_step := ⟨(gw_3 (List.mem_of_getElem? (i := 94) (by decide +kernel)) rfl), (gw_3 (List.mem_of_getElem? (i := 95) (by decide +kernel)) rfl)⟩
theorem ml_X6_73 : zMl "ShadowHeirs$Reader" 73 yX6_step := Or.inl (gw_3 (List.mem_of_getElem? (i := 117) (by decide +kernel)) rfl)
set_option maxRecDepth 100000 in
theorem cal_X6_isSign : zCal yX6_isSign cX6_isSign 2 (some .boolean) 1 := ⟨(gw_3 (List.mem_of_getElem? (i := 174) rfl) rfl), (gw_1 (List.mem_of_getElem? (i := 2) (by decide +kernel)) rfl), by decide +kernel⟩
theorem calv_X6_isSign : zCalV yX6_isSign := ⟨(gw_3 (List.mem_of_getElem? (i := 172) (by decide +kernel)) rfl), (gw_3 (List.mem_of_getElem? (i := 173) (by decide +kernel)) rfl)⟩
theorem ml_X6_76 : zMl "ShadowHeirs$Reader" 76 yX6_isSign := Or.inl (gw_3 (List.mem_of_getElem? (i := 171) (by decide +kernel)) rfl)
set_option maxRecDepth 100000 in
theorem cal_X6_fail : zCal yX6_fail cX6_fail 2 (some .boolean) 1 := ⟨(gw_3 (List.mem_of_getElem? (i := 112) rfl) rfl), (gw_1 (List.mem_of_getElem? (i := 2) (by decide +kernel)) rfl), by decide +kernel⟩
theorem calv_X6_fail : zCalV yX6_fail := ⟨(gw_3 (List.mem_of_getElem? (i := 110) (by decide +kernel)) rfl), (gw_3 (List.mem_of_getElem? (i := 111) (by decide +kernel)) rfl)⟩
theorem ml_X6_80 : zMl "ShadowHeirs$Reader" 80 yX6_fail := Or.inl (gw_3 (List.mem_of_getElem? (i := 118) (by decide +kernel)) rfl)
theorem fl_X8_81 : zFl "ShadowHeirs$Sentence" 81 6 7 := ⟨RX6, TX6, 11, tyX6, rfl, by decide, rfl, by decide, rfl, clw_6, tyX6_ok, nmX6, Or.inr ⟨"ShadowHeirs", (nw_1 (List.mem_of_getElem? (i := 109) (by decide +kernel)) rfl)⟩⟩
set_option maxRecDepth 100000 in
theorem cal_X6_wantName : zCal yX6_wantName cX6_wantName 1 (some .boolean) 0 := ⟨(gw_3 (List.mem_of_getElem? (i := 146) rfl) rfl), (gw_1 (List.mem_of_getElem? (i := 2) (by decide +kernel)) rfl), by decide +kernel⟩
theorem calv_X6_wantName : zCalV yX6_wantName := ⟨(gw_3 (List.mem_of_getElem? (i := 144) (by decide +kernel)) rfl), (gw_3 (List.mem_of_getElem? (i := 145) (by decide +kernel)) rfl)⟩
theorem ml_X8_77 : zMl "ShadowHeirs$Sentence" 77 yX6_wantName := Or.inl (gw_5 (List.mem_of_getElem? (i := 164) (by decide +kernel)) rfl)
set_option maxRecDepth 100000 in
theorem cal_X5_houseNamed : zCal yX5_houseNamed cX5_houseNamed 4 (some .int) 1 := ⟨(gw_3 (List.mem_of_getElem? (i := 150) rfl) rfl), (gw_1 (List.mem_of_getElem? (i := 7) (by decide +kernel)) rfl), by decide +kernel⟩
theorem calv_X5_houseNamed : zCalV yX5_houseNamed := ⟨(gw_3 (List.mem_of_getElem? (i := 148) (by decide +kernel)) rfl), (gw_3 (List.mem_of_getElem? (i := 149) (by decide +kernel)) rfl)⟩
theorem ml_X8_85 : zMl "ShadowHeirs$Sentence" 85 yX5_houseNamed := Or.inl (gw_5 (List.mem_of_getElem? (i := 165) (by decide +kernel)) rfl)
set_option maxRecDepth 100000 in
theorem cal_X8_add : zCal yX8_add cX8_add 3 none 2 := ⟨(gw_5 (List.mem_of_getElem? (i := 159) rfl) rfl), (gw_1 (List.mem_of_getElem? (i := 9) (by decide +kernel)) rfl), by decide +kernel⟩
theorem calv_X8_add : zCalV yX8_add := ⟨(gw_5 (List.mem_of_getElem? (i := 158) (by decide +kernel)) rfl), (gw_s (y := yX8_add) (n := 5) (List.mem_of_getElem? (i := 31) (by decide +kernel)))⟩
theorem ml_X8_58 : zMl "ShadowHeirs$Sentence" 58 yX8_add := Or.inl (gw_5 (List.mem_of_getElem? (i := 156) (by decide +kernel)) rfl)
theorem ml_X8_51 : zMl "ShadowHeirs$Sentence" 51 yX6_fail := Or.inl (gw_5 (List.mem_of_getElem? (i := 155) (by decide +kernel)) rfl)
theorem ml_X8_41 : zMl "ShadowHeirs$Sentence" 41 yX6_step := Or.inl (gw_5 (List.mem_of_getElem? (i := 145) (by decide +kernel)) rfl)
theorem ml_X8_65 : zMl "ShadowHeirs$Sentence" 65 yX6_isSign := Or.inl (gw_5 (List.mem_of_getElem? (i := 154) (by decide +kernel)) rfl)
set_option maxRecDepth 100000 in
theorem cal_X6_wantNumber : zCal yX6_wantNumber cX6_wantNumber 3 (some .boolean) 2 := ⟨(gw_3 (List.mem_of_getElem? (i := 116) rfl) rfl), (gw_1 (List.mem_of_getElem? (i := 2) (by decide +kernel)) rfl), by decide +kernel⟩
theorem calv_X6_wantNumber : zCalV yX6_wantNumber := ⟨(gw_3 (List.mem_of_getElem? (i := 114) (by decide +kernel)) rfl), (gw_3 (List.mem_of_getElem? (i := 115) (by decide +kernel)) rfl)⟩
theorem ml_X8_91 : zMl "ShadowHeirs$Sentence" 91 yX6_wantNumber := Or.inl (gw_5 (List.mem_of_getElem? (i := 170) (by decide +kernel)) rfl)
theorem fl_X8_132 : zFl "ShadowHeirs$Sentence" 132 7 4 := ⟨RX7, TX7, 9, tyX7, rfl, by decide, rfl, by decide, rfl, clw_7, tyX7_ok, nmX7, Or.inr ⟨"ShadowHeirs", (nw_2 (List.mem_of_getElem? (i := 7) (by decide +kernel)) rfl)⟩⟩
set_option maxRecDepth 100000 in
theorem cal_X3_housesTouching : zCal yX3_housesTouching cX3_housesTouching 6 (some .int) 1 := ⟨(gw_3 (List.mem_of_getElem? (i := 234) rfl) rfl), (gw_1 (List.mem_of_getElem? (i := 10) (by decide +kernel)) rfl), by decide +kernel⟩
theorem calv_X3_housesTouching : zCalV yX3_housesTouching := ⟨(gw_3 (List.mem_of_getElem? (i := 232) (by decide +kernel)) rfl), (gw_3 (List.mem_of_getElem? (i := 233) (by decide +kernel)) rfl)⟩
theorem ml_X8_128 : zMl "ShadowHeirs$Sentence" 128 yX3_housesTouching := Or.inl (gw_5 (List.mem_of_getElem? (i := 192) (by decide +kernel)) rfl)
theorem fl_X9_19 : zFl "ShadowHeirs$Slip" 19 3 1 := ⟨RX3, TX3, 3, tyX3, rfl, by decide, rfl, by decide, rfl, clw_3, tyX3_ok, nmX3, Or.inr ⟨"ShadowHeirs", (nw_2 (List.mem_of_getElem? (i := 79) (by decide +kernel)) rfl)⟩⟩
theorem fl_X9_25 : zFl "ShadowHeirs$Slip" 25 7 1 := ⟨RX7, TX7, 9, tyX7, rfl, by decide, rfl, by decide, rfl, clw_7, tyX7_ok, nmX7, Or.inr ⟨"ShadowHeirs", (nw_1 (List.mem_of_getElem? (i := 230) (by decide +kernel)) rfl)⟩⟩
theorem fl_X9_30 : zFl "ShadowHeirs$Slip" 30 3 0 := ⟨RX3, TX3, 3, tyX3, rfl, by decide, rfl, by decide, rfl, clw_3, tyX3_ok, nmX3, Or.inr ⟨"ShadowHeirs", (nw_2 (List.mem_of_getElem? (i := 73) (by decide +kernel)) rfl)⟩⟩
theorem fl_X9_34 : zFl "ShadowHeirs$Slip" 34 5 8 := ⟨RX5, TX5, 11, tyX5, rfl, by decide, rfl, by decide, rfl, clw_5, tyX5_ok, nmX5, Or.inr ⟨"ShadowHeirs", (nw_1 (List.mem_of_getElem? (i := 187) (by decide +kernel)) rfl)⟩⟩
theorem fl_X9_58 : zFl "ShadowHeirs$Slip" 58 7 2 := ⟨RX7, TX7, 9, tyX7, rfl, by decide, rfl, by decide, rfl, clw_7, tyX7_ok, nmX7, Or.inr ⟨"ShadowHeirs", (nw_1 (List.mem_of_getElem? (i := 236) (by decide +kernel)) rfl)⟩⟩
theorem fl_X9_65 : zFl "ShadowHeirs$Slip" 65 7 4 := ⟨RX7, TX7, 9, tyX7, rfl, by decide, rfl, by decide, rfl, clw_7, tyX7_ok, nmX7, Or.inr ⟨"ShadowHeirs", (nw_2 (List.mem_of_getElem? (i := 5) (by decide +kernel)) rfl)⟩⟩
theorem fl_X9_70 : zFl "ShadowHeirs$Slip" 70 5 7 := ⟨RX5, TX5, 11, tyX5, rfl, by decide, rfl, by decide, rfl, clw_5, tyX5_ok, nmX5, Or.inr ⟨"ShadowHeirs", (nw_1 (List.mem_of_getElem? (i := 184) (by decide +kernel)) rfl)⟩⟩
set_option maxRecDepth 100000 in
theorem cal_X10_stepsToShade : zCal yX10_stepsToShade cX10_stepsToShade 5 (some .int) 3 := ⟨(gw_4 (List.mem_of_getElem? (i := 187) rfl) rfl), (gw_1 (List.mem_of_getElem? (i := 14) (by decide +kernel)) rfl), by decide +kernel⟩
theorem calv_X10_stepsToShade : zCalV yX10_stepsToShade := ⟨(gw_4 (List.mem_of_getElem? (i := 186) (by decide +kernel)) rfl), (gw_s (y := yX10_stepsToShade) (n := 4) (List.mem_of_getElem? (i := 13) (by decide +kernel)))⟩
theorem ml_X10_73 : zMl "ShadowHeirs$Walk" 73 yX10_stepsToShade := Or.inl (gw_4 (List.mem_of_getElem? (i := 184) (by decide +kernel)) rfl)
set_option maxRecDepth 100000 in
theorem cal_X10_spread : zCal yX10_spread cX10_spread 8 none 1 := ⟨(gw_4 (List.mem_of_getElem? (i := 179) rfl) rfl), (gw_1 (List.mem_of_getElem? (i := 14) (by decide +kernel)) rfl), by decide +kernel⟩
theorem calv_X10_spread : zCalV yX10_spread := ⟨(gw_4 (List.mem_of_getElem? (i := 178) (by decide +kernel)) rfl), (gw_s (y := yX10_spread) (n := 4) (List.mem_of_getElem? (i := 12) (by decide +kernel)))⟩
theorem ml_X10_65 : zMl "ShadowHeirs$Walk" 65 yX10_spread := Or.inl (gw_4 (List.mem_of_getElem? (i := 176) (by decide +kernel)) rfl)
theorem ml_X10_69 : zMl "ShadowHeirs$Walk" 69 yX3_reach := Or.inl (gw_4 (List.mem_of_getElem? (i := 183) (by decide +kernel)) rfl)
theorem fl_X8_62 : zFl "ShadowHeirs$Sentence" 62 6 8 := ⟨RX6, TX6, 11, tyX6, rfl, by decide, rfl, by decide, rfl, clw_6, tyX6_ok, nmX6, Or.inr ⟨"ShadowHeirs", (nw_1 (List.mem_of_getElem? (i := 113) (by decide +kernel)) rfl)⟩⟩
set_option maxRecDepth 100000 in
theorem cal_X8_readOne : zCal yX8_readOne cX8_readOne 7 (some .boolean) 3 := ⟨(gw_5 (List.mem_of_getElem? (i := 153) rfl) rfl), (gw_1 (List.mem_of_getElem? (i := 9) (by decide +kernel)) rfl), by decide +kernel⟩
theorem calv_X8_readOne : zCalV yX8_readOne := ⟨(gw_5 (List.mem_of_getElem? (i := 152) (by decide +kernel)) rfl), (gw_s (y := yX8_readOne) (n := 5) (List.mem_of_getElem? (i := 30) (by decide +kernel)))⟩
theorem ml_X8_55 : zMl "ShadowHeirs$Sentence" 55 yX8_readOne := Or.inl (gw_5 (List.mem_of_getElem? (i := 150) (by decide +kernel)) rfl)
set_option maxRecDepth 100000 in
theorem cal_X8_readHouse : zCal yX8_readHouse cX8_readHouse 4 (some .boolean) 2 := ⟨(gw_5 (List.mem_of_getElem? (i := 163) rfl) rfl), (gw_1 (List.mem_of_getElem? (i := 9) (by decide +kernel)) rfl), by decide +kernel⟩
theorem calv_X8_readHouse : zCalV yX8_readHouse := ⟨(gw_5 (List.mem_of_getElem? (i := 162) (by decide +kernel)) rfl), (gw_s (y := yX8_readHouse) (n := 5) (List.mem_of_getElem? (i := 32) (by decide +kernel)))⟩
theorem ml_X8_69 : zMl "ShadowHeirs$Sentence" 69 yX8_readHouse := Or.inl (gw_5 (List.mem_of_getElem? (i := 160) (by decide +kernel)) rfl)
set_option maxRecDepth 100000 in
theorem cal_X8_readCompared : zCal yX8_readCompared cX8_readCompared 4 (some .boolean) 2 := ⟨(gw_5 (List.mem_of_getElem? (i := 169) rfl) rfl), (gw_1 (List.mem_of_getElem? (i := 9) (by decide +kernel)) rfl), by decide +kernel⟩
theorem calv_X8_readCompared : zCalV yX8_readCompared := ⟨(gw_5 (List.mem_of_getElem? (i := 168) (by decide +kernel)) rfl), (gw_s (y := yX8_readCompared) (n := 5) (List.mem_of_getElem? (i := 33) (by decide +kernel)))⟩
theorem ml_X8_73 : zMl "ShadowHeirs$Sentence" 73 yX8_readCompared := Or.inl (gw_5 (List.mem_of_getElem? (i := 166) (by decide +kernel)) rfl)
set_option maxRecDepth 100000 in
theorem cal_X8_readCond : zCal yX8_readCond cX8_readCond 6 (some .boolean) 3 := ⟨(gw_5 (List.mem_of_getElem? (i := 149) rfl) rfl), (gw_1 (List.mem_of_getElem? (i := 9) (by decide +kernel)) rfl), by decide +kernel⟩
theorem calv_X8_readCond : zCalV yX8_readCond := ⟨(gw_5 (List.mem_of_getElem? (i := 148) (by decide +kernel)) rfl), (gw_s (y := yX8_readCond) (n := 5) (List.mem_of_getElem? (i := 29) (by decide +kernel)))⟩
theorem ml_X8_44 : zMl "ShadowHeirs$Sentence" 44 yX8_readCond := Or.inl (gw_5 (List.mem_of_getElem? (i := 146) (by decide +kernel)) rfl)
set_option maxRecDepth 100000 in
theorem cal_X5_hasCell : zCal yX5_hasCell cX5_hasCell 3 (some .boolean) 2 := ⟨(gw_3 (List.mem_of_getElem? (i := 224) rfl) rfl), (gw_1 (List.mem_of_getElem? (i := 7) (by decide +kernel)) rfl), by decide +kernel⟩
theorem calv_X5_hasCell : zCalV yX5_hasCell := ⟨(gw_3 (List.mem_of_getElem? (i := 222) (by decide +kernel)) rfl), (gw_3 (List.mem_of_getElem? (i := 223) (by decide +kernel)) rfl)⟩
theorem ml_X11_153 : zMl "ShadowHeirs" 153 yX5_hasCell := Or.inl (gw_3 (List.mem_of_getElem? (i := 221) (by decide +kernel)) rfl)
theorem ml_X11_157 : zMl "ShadowHeirs" 157 yX3_heightAt := Or.inl (gw_3 (List.mem_of_getElem? (i := 225) (by decide +kernel)) rfl)
theorem ml_X11_161 : zMl "ShadowHeirs" 161 yX5_houseOn := Or.inl (gw_3 (List.mem_of_getElem? (i := 226) (by decide +kernel)) rfl)
theorem ml_X11_164 : zMl "ShadowHeirs" 164 yX3_personsOn := Or.inl (gw_3 (List.mem_of_getElem? (i := 230) (by decide +kernel)) rfl)
theorem ml_X11_167 : zMl "ShadowHeirs" 167 yX3_housesTouching := Or.inl (gw_3 (List.mem_of_getElem? (i := 231) (by decide +kernel)) rfl)
theorem fl_X11_184 : zFl "ShadowHeirs" 184 5 6 := ⟨RX5, TX5, 11, tyX5, rfl, by decide, rfl, by decide, rfl, clw_5, tyX5_ok, nmX5, Or.inr ⟨"ShadowHeirs", (nw_1 (List.mem_of_getElem? (i := 182) (by decide +kernel)) rfl)⟩⟩
theorem zk_6 : zk 6 13 := by constructor <;> decide +kernel
theorem rf_4_6 : sRf 4 6 = 6 := by decide +kernel
theorem fl_X11_180 : zFl "ShadowHeirs" 180 5 5 := ⟨RX5, TX5, 11, tyX5, rfl, by decide, rfl, by decide, rfl, clw_5, tyX5_ok, nmX5, Or.inr ⟨"ShadowHeirs", (nw_1 (List.mem_of_getElem? (i := 178) (by decide +kernel)) rfl)⟩⟩
theorem fl_X11_187 : zFl "ShadowHeirs" 187 7 3 := ⟨RX7, TX7, 9, tyX7, rfl, by decide, rfl, by decide, rfl, clw_7, tyX7_ok, nmX7, Or.inr ⟨"ShadowHeirs", (nw_2 (List.mem_of_getElem? (i := 2) (by decide +kernel)) rfl)⟩⟩
theorem zk_15 : zk 15 13 := by constructor <;> decide +kernel
theorem rf_11_3 : sRf 11 3 = 15 := by decide +kernel
theorem ml_X11_190 : zMl "ShadowHeirs" 190 yX7_isBuried := Or.inl (gw_6 (List.mem_of_getElem? (i := 41) (by decide +kernel)) rfl)
theorem ml_X11_196 : zMl "ShadowHeirs" 196 yX3_personsTouched := Or.inl (gw_4 (List.mem_of_getElem? (i := 136) (by decide +kernel)) rfl)
theorem fl_X11_205 : zFl "ShadowHeirs" 205 7 1 := ⟨RX7, TX7, 9, tyX7, rfl, by decide, rfl, by decide, rfl, clw_7, tyX7_ok, nmX7, Or.inr ⟨"ShadowHeirs", (nw_1 (List.mem_of_getElem? (i := 233) (by decide +kernel)) rfl)⟩⟩
theorem fl_X11_208 : zFl "ShadowHeirs" 208 7 2 := ⟨RX7, TX7, 9, tyX7, rfl, by decide, rfl, by decide, rfl, clw_7, tyX7_ok, nmX7, Or.inr ⟨"ShadowHeirs", (nw_1 (List.mem_of_getElem? (i := 237) (by decide +kernel)) rfl)⟩⟩
theorem zk_14 : zk 14 13 := by constructor <;> decide +kernel
theorem rf_11_2 : sRf 11 2 = 14 := by decide +kernel
set_option maxRecDepth 100000 in
theorem cal_X3_sidesOpen : zCal yX3_sidesOpen cX3_sidesOpen 4 (some .int) 1 := ⟨(gw_6 (List.mem_of_getElem? (i := 53) rfl) rfl), (gw_1 (List.mem_of_getElem? (i := 10) (by decide +kernel)) rfl), by decide +kernel⟩
theorem calv_X3_sidesOpen : zCalV yX3_sidesOpen := ⟨(gw_6 (List.mem_of_getElem? (i := 51) (by decide +kernel)) rfl), (gw_6 (List.mem_of_getElem? (i := 52) (by decide +kernel)) rfl)⟩
theorem ml_X11_211 : zMl "ShadowHeirs" 211 yX3_sidesOpen := Or.inl (gw_6 (List.mem_of_getElem? (i := 50) (by decide +kernel)) rfl)
theorem fl_X11_71 : zFl "ShadowHeirs" 71 11 9 := ⟨RX11, TX11, 20, tyX11, rfl, by decide, rfl, by decide, rfl, clw_11, tyX11_ok, nmX11, Or.inl (gw_3 (List.mem_of_getElem? (i := 5) (by decide +kernel)) rfl)⟩
theorem rf_0_9 : sRf 0 9 = 53 := by decide +kernel
theorem ml_X11_235 : zMl "ShadowHeirs" 235 yX3_whyNotStep := Or.inl (gw_4 (List.mem_of_getElem? (i := 42) (by decide +kernel)) rfl)
set_option maxRecDepth 100000 in
theorem cal_X2_keep : zCal yX2_keep cX2_keep 2 none 1 := ⟨(gw_4 (List.mem_of_getElem? (i := 50) rfl) rfl), (gw_1 (List.mem_of_getElem? (i := 13) (by decide +kernel)) rfl), by decide +kernel⟩
theorem calv_X2_keep : zCalV yX2_keep := ⟨(gw_4 (List.mem_of_getElem? (i := 48) (by decide +kernel)) rfl), (gw_4 (List.mem_of_getElem? (i := 49) (by decide +kernel)) rfl)⟩
theorem ml_X11_238 : zMl "ShadowHeirs" 238 yX2_keep := Or.inl (gw_4 (List.mem_of_getElem? (i := 47) (by decide +kernel)) rfl)
set_option maxRecDepth 100000 in
theorem cal_X3_makeStep : zCal yX3_makeStep cX3_makeStep 4 none 2 := ⟨(gw_4 (List.mem_of_getElem? (i := 56) rfl) rfl), (gw_1 (List.mem_of_getElem? (i := 10) (by decide +kernel)) rfl), by decide +kernel⟩
theorem calv_X3_makeStep : zCalV yX3_makeStep := ⟨(gw_4 (List.mem_of_getElem? (i := 54) (by decide +kernel)) rfl), (gw_4 (List.mem_of_getElem? (i := 55) (by decide +kernel)) rfl)⟩
theorem ml_X11_242 : zMl "ShadowHeirs" 242 yX3_makeStep := Or.inl (gw_4 (List.mem_of_getElem? (i := 53) (by decide +kernel)) rfl)
set_option maxRecDepth 100000 in
theorem cal_X3_whyNotLay : zCal yX3_whyNotLay cX3_whyNotLay 2 (some .int) 1 := ⟨(gw_4 (List.mem_of_getElem? (i := 64) rfl) rfl), (gw_1 (List.mem_of_getElem? (i := 10) (by decide +kernel)) rfl), by decide +kernel⟩
theorem calv_X3_whyNotLay : zCalV yX3_whyNotLay := ⟨(gw_4 (List.mem_of_getElem? (i := 62) (by decide +kernel)) rfl), (gw_4 (List.mem_of_getElem? (i := 63) (by decide +kernel)) rfl)⟩
theorem ml_X11_246 : zMl "ShadowHeirs" 246 yX3_whyNotLay := Or.inl (gw_4 (List.mem_of_getElem? (i := 61) (by decide +kernel)) rfl)
set_option maxRecDepth 100000 in
theorem cal_X3_layStone : zCal yX3_layStone cX3_layStone 2 none 1 := ⟨(gw_4 (List.mem_of_getElem? (i := 70) rfl) rfl), (gw_1 (List.mem_of_getElem? (i := 10) (by decide +kernel)) rfl), by decide +kernel⟩
theorem calv_X3_layStone : zCalV yX3_layStone := ⟨(gw_4 (List.mem_of_getElem? (i := 68) (by decide +kernel)) rfl), (gw_4 (List.mem_of_getElem? (i := 69) (by decide +kernel)) rfl)⟩
theorem ml_X11_249 : zMl "ShadowHeirs" 249 yX3_layStone := Or.inl (gw_4 (List.mem_of_getElem? (i := 67) (by decide +kernel)) rfl)
set_option maxRecDepth 100000 in
theorem cal_X3_whyNotTear : zCal yX3_whyNotTear cX3_whyNotTear 2 (some .int) 1 := ⟨(gw_4 (List.mem_of_getElem? (i := 78) rfl) rfl), (gw_1 (List.mem_of_getElem? (i := 10) (by decide +kernel)) rfl), by decide +kernel⟩
theorem calv_X3_whyNotTear : zCalV yX3_whyNotTear := ⟨(gw_4 (List.mem_of_getElem? (i := 76) (by decide +kernel)) rfl), (gw_4 (List.mem_of_getElem? (i := 77) (by decide +kernel)) rfl)⟩
theorem ml_X11_252 : zMl "ShadowHeirs" 252 yX3_whyNotTear := Or.inl (gw_4 (List.mem_of_getElem? (i := 75) (by decide +kernel)) rfl)
set_option maxRecDepth 100000 in
theorem cal_X3_tearStone : zCal yX3_tearStone cX3_tearStone 2 none 1 := ⟨(gw_4 (List.mem_of_getElem? (i := 82) rfl) rfl), (gw_1 (List.mem_of_getElem? (i := 10) (by decide +kernel)) rfl), by decide +kernel⟩
theorem calv_X3_tearStone : zCalV yX3_tearStone := ⟨(gw_4 (List.mem_of_getElem? (i := 80) (by decide +kernel)) rfl), (gw_4 (List.mem_of_getElem? (i := 81) (by decide +kernel)) rfl)⟩
theorem ml_X11_255 : zMl "ShadowHeirs" 255 yX3_tearStone := Or.inl (gw_4 (List.mem_of_getElem? (i := 79) (by decide +kernel)) rfl)
set_option maxRecDepth 100000 in
theorem cal_X3_whyNotBury : zCal yX3_whyNotBury cX3_whyNotBury 2 (some .int) 1 := ⟨(gw_4 (List.mem_of_getElem? (i := 94) rfl) rfl), (gw_1 (List.mem_of_getElem? (i := 10) (by decide +kernel)) rfl), by decide +kernel⟩
theorem calv_X3_whyNotBury : zCalV yX3_whyNotBury := ⟨(gw_4 (List.mem_of_getElem? (i := 92) (by decide +kernel)) rfl), (gw_4 (List.mem_of_getElem? (i := 93) (by decide +kernel)) rfl)⟩
theorem ml_X11_258 : zMl "ShadowHeirs" 258 yX3_whyNotBury := Or.inl (gw_4 (List.mem_of_getElem? (i := 91) (by decide +kernel)) rfl)
set_option maxRecDepth 100000 in
theorem cal_X3_buryHouse : zCal yX3_buryHouse cX3_buryHouse 6 none 1 := ⟨(gw_4 (List.mem_of_getElem? (i := 102) rfl) rfl), (gw_1 (List.mem_of_getElem? (i := 10) (by decide +kernel)) rfl), by decide +kernel⟩
theorem calv_X3_buryHouse : zCalV yX3_buryHouse := ⟨(gw_4 (List.mem_of_getElem? (i := 100) (by decide +kernel)) rfl), (gw_4 (List.mem_of_getElem? (i := 101) (by decide +kernel)) rfl)⟩
theorem ml_X11_261 : zMl "ShadowHeirs" 261 yX3_buryHouse := Or.inl (gw_4 (List.mem_of_getElem? (i := 99) (by decide +kernel)) rfl)
theorem fl_X11_273 : zFl "ShadowHeirs" 273 2 2 := ⟨RX2, TX2, 3, tyX2, rfl, by decide, rfl, by decide, rfl, clw_2, tyX2_ok, nmX2, Or.inr ⟨"ShadowHeirs", (nw_2 (List.mem_of_getElem? (i := 183) (by decide +kernel)) rfl)⟩⟩
set_option maxRecDepth 100000 in
theorem cal_X2_bringBack : zCal yX2_bringBack cX2_bringBack 2 (some .boolean) 1 := ⟨(gw_4 (List.mem_of_getElem? (i := 125) rfl) rfl), (gw_1 (List.mem_of_getElem? (i := 13) (by decide +kernel)) rfl), by decide +kernel⟩
theorem calv_X2_bringBack : zCalV yX2_bringBack := ⟨(gw_4 (List.mem_of_getElem? (i := 123) (by decide +kernel)) rfl), (gw_4 (List.mem_of_getElem? (i := 124) (by decide +kernel)) rfl)⟩
theorem ml_X11_269 : zMl "ShadowHeirs" 269 yX2_bringBack := Or.inl (gw_4 (List.mem_of_getElem? (i := 122) (by decide +kernel)) rfl)
theorem ml_X11_274 : zMl "ShadowHeirs" 274 yX5_hasShadow := Or.inl (gw_4 (List.mem_of_getElem? (i := 130) (by decide +kernel)) rfl)
theorem ml_X11_277 : zMl "ShadowHeirs" 277 yX3_reach := Or.inl (gw_4 (List.mem_of_getElem? (i := 131) (by decide +kernel)) rfl)
set_option maxRecDepth 100000 in
theorem cal_X3_partsWith : zCal yX3_partsWith cX3_partsWith 5 (some .int) 3 := ⟨(gw_4 (List.mem_of_getElem? (i := 144) rfl) rfl), (gw_1 (List.mem_of_getElem? (i := 10) (by decide +kernel)) rfl), by decide +kernel⟩
theorem calv_X3_partsWith : zCalV yX3_partsWith := ⟨(gw_4 (List.mem_of_getElem? (i := 142) (by decide +kernel)) rfl), (gw_4 (List.mem_of_getElem? (i := 143) (by decide +kernel)) rfl)⟩
theorem ml_X11_282 : zMl "ShadowHeirs" 282 yX3_partsWith := Or.inl (gw_4 (List.mem_of_getElem? (i := 141) (by decide +kernel)) rfl)
theorem fl_X11_88 : zFl "ShadowHeirs" 88 11 12 := ⟨RX11, TX11, 20, tyX11, rfl, by decide, rfl, by decide, rfl, clw_11, tyX11_ok, nmX11, Or.inl (gw_3 (List.mem_of_getElem? (i := 8) (by decide +kernel)) rfl)⟩
theorem rf_0_12 : sRf 0 12 = 97 := by decide +kernel
set_option maxRecDepth 100000 in
theorem cal_X10_stepsIntoShadow : zCal yX10_stepsIntoShadow cX10_stepsIntoShadow 8 (some .int) 3 := ⟨(gw_4 (List.mem_of_getElem? (i := 204) rfl) rfl), (gw_1 (List.mem_of_getElem? (i := 14) (by decide +kernel)) rfl), by decide +kernel⟩
theorem calv_X10_stepsIntoShadow : zCalV yX10_stepsIntoShadow := ⟨(gw_4 (List.mem_of_getElem? (i := 202) (by decide +kernel)) rfl), (gw_4 (List.mem_of_getElem? (i := 203) (by decide +kernel)) rfl)⟩
theorem ml_X11_301 : zMl "ShadowHeirs" 301 yX10_stepsIntoShadow := Or.inl (gw_4 (List.mem_of_getElem? (i := 201) (by decide +kernel)) rfl)
theorem fp_11_18 : zFp 11 18 .int := fun T N C h => by
  cases h
  exact ⟨rfl, by decide +kernel⟩
theorem fp_11_19 : zFp 11 19 .int := fun T N C h => by
  cases h
  exact ⟨rfl, by decide +kernel⟩
theorem fl_X11_320 : zFl "ShadowHeirs" 320 9 1 := ⟨RX9, TX9, 2, tyX9, rfl, by decide, rfl, by decide, rfl, clw_9, tyX9_ok, nmX9, Or.inr ⟨"ShadowHeirs", (nw_2 (List.mem_of_getElem? (i := 230) (by decide +kernel)) rfl)⟩⟩
theorem fl_X11_75 : zFl "ShadowHeirs" 75 11 10 := ⟨RX11, TX11, 20, tyX11, rfl, by decide, rfl, by decide, rfl, clw_11, tyX11_ok, nmX11, Or.inl (gw_3 (List.mem_of_getElem? (i := 6) (by decide +kernel)) rfl)⟩
theorem zk_95 : zk 95 16 := by constructor <;> decide +kernel
theorem rf_0_10 : sRf 0 10 = 95 := by decide +kernel
theorem fl_X11_79 : zFl "ShadowHeirs" 79 11 11 := ⟨RX11, TX11, 20, tyX11, rfl, by decide, rfl, by decide, rfl, clw_11, tyX11_ok, nmX11, Or.inl (gw_3 (List.mem_of_getElem? (i := 7) (by decide +kernel)) rfl)⟩
theorem zk_96 : zk 96 15 := by constructor <;> decide +kernel
theorem rf_0_11 : sRf 0 11 = 96 := by decide +kernel
theorem len_95 : ((sLen 95 : Nat) : Int) = 2 := by decide +kernel
set_option maxRecDepth 100000 in
theorem cal_X3_copyFrom : zCal yX3_copyFrom cX3_copyFrom 2 none 1 := ⟨(gw_3 (List.mem_of_getElem? (i := 182) rfl) rfl), (gw_1 (List.mem_of_getElem? (i := 10) (by decide +kernel)) rfl), by decide +kernel⟩
theorem calv_X3_copyFrom : zCalV yX3_copyFrom := ⟨(gw_3 (List.mem_of_getElem? (i := 180) (by decide +kernel)) rfl), (gw_3 (List.mem_of_getElem? (i := 181) (by decide +kernel)) rfl)⟩
theorem ml_X11_147 : zMl "ShadowHeirs" 147 yX3_copyFrom := Or.inl (gw_3 (List.mem_of_getElem? (i := 179) (by decide +kernel)) rfl)
set_option maxRecDepth 100000 in
theorem cal_X2_clear : zCal yX2_clear cX2_clear 1 none 0 := ⟨(gw_3 (List.mem_of_getElem? (i := 212) rfl) rfl), (gw_1 (List.mem_of_getElem? (i := 13) (by decide +kernel)) rfl), by decide +kernel⟩
theorem calv_X2_clear : zCalV yX2_clear := ⟨(gw_3 (List.mem_of_getElem? (i := 210) (by decide +kernel)) rfl), (gw_3 (List.mem_of_getElem? (i := 211) (by decide +kernel)) rfl)⟩
theorem ml_X11_150 : zMl "ShadowHeirs" 150 yX2_clear := Or.inl (gw_3 (List.mem_of_getElem? (i := 209) (by decide +kernel)) rfl)
theorem ml_X11_365 : zMl "ShadowHeirs" 365 yJ6_bitCount_0f7a4 := Or.inl (gw_4 (List.mem_of_getElem? (i := 229) (by decide +kernel)) rfl)
theorem mm_l_X11_391 : Cond.methodLink "ShadowHeirs" 391 Lib.Math.max.name ∈ gw_tbl := (gw_4 (List.mem_of_getElem? (i := 230) (by decide +kernel)) rfl)
theorem mm_s_max : Cond.static Lib.Math.max.name ∈ gw_tbl := (gw_4 (List.mem_of_getElem? (i := 195) (by decide +kernel)) rfl)
theorem mm_c_max : Cond.code Lib.Math.max.name Lib.Math.max.code 2 (some .int) ∈ gw_tbl := (gw_4 (List.mem_of_getElem? (i := 196) (by decide +kernel)) rfl)
theorem fl_X0_41 : zFl "ShadowHeirs$Book" 41 0 0 := ⟨RX0, TX0, 10, tyX0, rfl, by decide, rfl, by decide, rfl, clw_0, tyX0_ok, nmX0, Or.inl (gw_2 (List.mem_of_getElem? (i := 135) (by decide +kernel)) rfl)⟩
theorem rf_45_0 : sRf 45 0 = 1 := by decide +kernel
theorem fl_X0_18 : zFl "ShadowHeirs$Book" 18 0 3 := ⟨RX0, TX0, 10, tyX0, rfl, by decide, rfl, by decide, rfl, clw_0, tyX0_ok, nmX0, Or.inl (gw_2 (List.mem_of_getElem? (i := 138) (by decide +kernel)) rfl)⟩
theorem zk_48 : zk 48 13 := by constructor <;> decide +kernel
theorem rf_45_3 : sRf 45 3 = 48 := by decide +kernel
theorem fl_X0_21 : zFl "ShadowHeirs$Book" 21 0 4 := ⟨RX0, TX0, 10, tyX0, rfl, by decide, rfl, by decide, rfl, clw_0, tyX0_ok, nmX0, Or.inl (gw_2 (List.mem_of_getElem? (i := 139) (by decide +kernel)) rfl)⟩
theorem fl_X0_65 : zFl "ShadowHeirs$Book" 65 6 8 := ⟨RX6, TX6, 11, tyX6, rfl, by decide, rfl, by decide, rfl, clw_6, tyX6_ok, nmX6, Or.inr ⟨"ShadowHeirs", (nw_1 (List.mem_of_getElem? (i := 112) (by decide +kernel)) rfl)⟩⟩
set_option maxRecDepth 100000 in
theorem cal_X6_wantSide : zCal yX6_wantSide cX6_wantSide 1 (some .boolean) 0 := ⟨(gw_3 (List.mem_of_getElem? (i := 166) rfl) rfl), (gw_1 (List.mem_of_getElem? (i := 2) (by decide +kernel)) rfl), by decide +kernel⟩
theorem calv_X6_wantSide : zCalV yX6_wantSide := ⟨(gw_3 (List.mem_of_getElem? (i := 164) (by decide +kernel)) rfl), (gw_3 (List.mem_of_getElem? (i := 165) (by decide +kernel)) rfl)⟩
theorem ml_X0_97 : zMl "ShadowHeirs$Book" 97 yX6_wantSide := Or.inl (gw_5 (List.mem_of_getElem? (i := 95) (by decide +kernel)) rfl)
theorem fl_X0_15 : zFl "ShadowHeirs$Book" 15 0 2 := ⟨RX0, TX0, 10, tyX0, rfl, by decide, rfl, by decide, rfl, clw_0, tyX0_ok, nmX0, Or.inl (gw_2 (List.mem_of_getElem? (i := 137) (by decide +kernel)) rfl)⟩
theorem zk_47 : zk 47 13 := by constructor <;> decide +kernel
theorem rf_45_2 : sRf 45 2 = 47 := by decide +kernel
theorem fl_X0_76 : zFl "ShadowHeirs$Book" 76 6 7 := ⟨RX6, TX6, 11, tyX6, rfl, by decide, rfl, by decide, rfl, clw_6, tyX6_ok, nmX6, Or.inr ⟨"ShadowHeirs", (nw_1 (List.mem_of_getElem? (i := 107) (by decide +kernel)) rfl)⟩⟩
theorem ml_X0_100 : zMl "ShadowHeirs$Book" 100 yX6_wantName := Or.inl (gw_5 (List.mem_of_getElem? (i := 100) (by decide +kernel)) rfl)
theorem ml_X0_103 : zMl "ShadowHeirs$Book" 103 yX5_houseNamed := Or.inl (gw_5 (List.mem_of_getElem? (i := 101) (by decide +kernel)) rfl)
theorem ml_X0_72 : zMl "ShadowHeirs$Book" 72 yX6_fail := Or.inl (gw_5 (List.mem_of_getElem? (i := 89) (by decide +kernel)) rfl)
theorem ml_X0_106 : zMl "ShadowHeirs$Book" 106 yX6_wantNumber := Or.inl (gw_5 (List.mem_of_getElem? (i := 106) (by decide +kernel)) rfl)
theorem fl_X0_149 : zFl "ShadowHeirs$Book" 149 3 0 := ⟨RX3, TX3, 3, tyX3, rfl, by decide, rfl, by decide, rfl, clw_3, tyX3_ok, nmX3, Or.inr ⟨"ShadowHeirs", (nw_2 (List.mem_of_getElem? (i := 75) (by decide +kernel)) rfl)⟩⟩
theorem fl_X0_114 : zFl "ShadowHeirs$Book" 114 3 1 := ⟨RX3, TX3, 3, tyX3, rfl, by decide, rfl, by decide, rfl, clw_3, tyX3_ok, nmX3, Or.inr ⟨"ShadowHeirs", (nw_2 (List.mem_of_getElem? (i := 81) (by decide +kernel)) rfl)⟩⟩
theorem fl_X0_120 : zFl "ShadowHeirs$Book" 120 7 5 := ⟨RX7, TX7, 9, tyX7, rfl, by decide, rfl, by decide, rfl, clw_7, tyX7_ok, nmX7, Or.inr ⟨"ShadowHeirs", (nw_2 (List.mem_of_getElem? (i := 12) (by decide +kernel)) rfl)⟩⟩
theorem ml_X0_145 : zMl "ShadowHeirs$Book" 145 yX3_whyNotStep := Or.inl (gw_5 (List.mem_of_getElem? (i := 118) (by decide +kernel)) rfl)
theorem ml_X0_153 : zMl "ShadowHeirs$Book" 153 yX5_hasCell := Or.inl (gw_5 (List.mem_of_getElem? (i := 119) (by decide +kernel)) rfl)
theorem ml_X0_156 : zMl "ShadowHeirs$Book" 156 yX3_whyNotLay := Or.inl (gw_5 (List.mem_of_getElem? (i := 120) (by decide +kernel)) rfl)
theorem ml_X0_159 : zMl "ShadowHeirs$Book" 159 yX3_whyNotTear := Or.inl (gw_5 (List.mem_of_getElem? (i := 121) (by decide +kernel)) rfl)
theorem ml_X0_162 : zMl "ShadowHeirs$Book" 162 yX3_whyNotBury := Or.inl (gw_5 (List.mem_of_getElem? (i := 122) (by decide +kernel)) rfl)
theorem fl_X1_33 : zFl "ShadowHeirs$Draws" 33 3 0 := ⟨RX3, TX3, 3, tyX3, rfl, by decide, rfl, by decide, rfl, clw_3, tyX3_ok, nmX3, Or.inr ⟨"ShadowHeirs", (nw_2 (List.mem_of_getElem? (i := 74) (by decide +kernel)) rfl)⟩⟩
theorem fl_X1_67 : zFl "ShadowHeirs$Draws" 67 5 0 := ⟨RX5, TX5, 11, tyX5, rfl, by decide, rfl, by decide, rfl, clw_5, tyX5_ok, nmX5, Or.inr ⟨"ShadowHeirs", (nw_1 (List.mem_of_getElem? (i := 151) (by decide +kernel)) rfl)⟩⟩
theorem fl_X1_70 : zFl "ShadowHeirs$Draws" 70 5 1 := ⟨RX5, TX5, 11, tyX5, rfl, by decide, rfl, by decide, rfl, clw_5, tyX5_ok, nmX5, Or.inr ⟨"ShadowHeirs", (nw_1 (List.mem_of_getElem? (i := 155) (by decide +kernel)) rfl)⟩⟩
set_option maxRecDepth 100000 in
theorem cal_X1_draw : zCal yX1_draw cX1_draw 2 (some .int) 1 := ⟨(gw_5 (List.mem_of_getElem? (i := 60) rfl) rfl), (gw_1 (List.mem_of_getElem? (i := 15) (by decide +kernel)) rfl), by decide +kernel⟩
theorem calv_X1_draw : zCalV yX1_draw := ⟨(gw_5 (List.mem_of_getElem? (i := 59) (by decide +kernel)) rfl), (gw_s (y := yX1_draw) (n := 1) (List.mem_of_getElem? (i := 24) (by decide +kernel)))⟩
theorem ml_X1_46 : zMl "ShadowHeirs$Draws" 46 yX1_draw := Or.inl (gw_5 (List.mem_of_getElem? (i := 57) (by decide +kernel)) rfl)
theorem ml_X1_73 : zMl "ShadowHeirs$Draws" 73 yX3_whyNotLay := Or.inl (gw_5 (List.mem_of_getElem? (i := 64) (by decide +kernel)) rfl)
theorem ml_X1_76 : zMl "ShadowHeirs$Draws" 76 yX3_layStone := Or.inl (gw_5 (List.mem_of_getElem? (i := 65) (by decide +kernel)) rfl)
theorem ml_X1_60 : zMl "ShadowHeirs$Draws" 60 yX3_whyNotStep := Or.inl (gw_5 (List.mem_of_getElem? (i := 62) (by decide +kernel)) rfl)
theorem ml_X1_63 : zMl "ShadowHeirs$Draws" 63 yX3_makeStep := Or.inl (gw_5 (List.mem_of_getElem? (i := 63) (by decide +kernel)) rfl)
set_option maxRecDepth 100000 in
theorem cal_X3_stonesToStop : zCal yX3_stonesToStop cX3_stonesToStop 5 (some .int) 3 := ⟨(gw_4 (List.mem_of_getElem? (i := 157) rfl) rfl), (gw_1 (List.mem_of_getElem? (i := 10) (by decide +kernel)) rfl), by decide +kernel⟩
theorem calv_X3_stonesToStop : zCalV yX3_stonesToStop := ⟨(gw_4 (List.mem_of_getElem? (i := 155) (by decide +kernel)) rfl), (gw_4 (List.mem_of_getElem? (i := 156) (by decide +kernel)) rfl)⟩
theorem ml_X3_102 : zMl "ShadowHeirs$Island" 102 yX3_stonesToStop := Or.inl (gw_4 (List.mem_of_getElem? (i := 154) (by decide +kernel)) rfl)
theorem ml_X3_105 : zMl "ShadowHeirs$Island" 105 yX3_whyNotLay := Or.inl (gw_4 (List.mem_of_getElem? (i := 158) (by decide +kernel)) rfl)
theorem zk_27 : zk 27 4 := by constructor <;> decide +kernel
theorem fl_X4_37 : zFl "ShadowHeirs$IslandText" 37 4 4 := ⟨RX4, TX4, 7, tyX4, rfl, by decide, rfl, by decide, rfl, clw_4, tyX4_ok, nmX4, Or.inl (gw_2 (List.mem_of_getElem? (i := 111) (by decide +kernel)) rfl)⟩
theorem fl_X4_41 : zFl "ShadowHeirs$IslandText" 41 4 5 := ⟨RX4, TX4, 7, tyX4, rfl, by decide, rfl, by decide, rfl, clw_4, tyX4_ok, nmX4, Or.inl (gw_2 (List.mem_of_getElem? (i := 112) (by decide +kernel)) rfl)⟩
theorem fl_X4_48 : zFl "ShadowHeirs$IslandText" 48 4 0 := ⟨RX4, TX4, 7, tyX4, rfl, by decide, rfl, by decide, rfl, clw_4, tyX4_ok, nmX4, Or.inl (gw_2 (List.mem_of_getElem? (i := 106) (by decide +kernel)) rfl)⟩
theorem rf_27_0 : sRf 27 0 = 1 := by decide +kernel
theorem fl_X4_12 : zFl "ShadowHeirs$IslandText" 12 4 1 := ⟨RX4, TX4, 7, tyX4, rfl, by decide, rfl, by decide, rfl, clw_4, tyX4_ok, nmX4, Or.inl (gw_2 (List.mem_of_getElem? (i := 107) (by decide +kernel)) rfl)⟩
theorem zk_28 : zk 28 5 := by constructor <;> decide +kernel
theorem rf_27_1 : sRf 27 1 = 28 := by decide +kernel
theorem fl_X4_102 : zFl "ShadowHeirs$IslandText" 102 6 7 := ⟨RX6, TX6, 11, tyX6, rfl, by decide, rfl, by decide, rfl, clw_6, tyX6_ok, nmX6, Or.inr ⟨"ShadowHeirs", (nw_1 (List.mem_of_getElem? (i := 108) (by decide +kernel)) rfl)⟩⟩
theorem fp_4_4 : zFp 4 4 .boolean := fun T N C h => by
  cases h
  exact ⟨rfl, by decide +kernel⟩
theorem ml_X4_98 : zMl "ShadowHeirs$IslandText" 98 yX6_wantNumber := Or.inl (gw_3 (List.mem_of_getElem? (i := 113) (by decide +kernel)) rfl)
theorem fl_X4_106 : zFl "ShadowHeirs$IslandText" 106 5 0 := ⟨RX5, TX5, 11, tyX5, rfl, by decide, rfl, by decide, rfl, clw_5, tyX5_ok, nmX5, Or.inr ⟨"ShadowHeirs", (nw_1 (List.mem_of_getElem? (i := 152) (by decide +kernel)) rfl)⟩⟩
theorem fl_X4_109 : zFl "ShadowHeirs$IslandText" 109 5 1 := ⟨RX5, TX5, 11, tyX5, rfl, by decide, rfl, by decide, rfl, clw_5, tyX5_ok, nmX5, Or.inr ⟨"ShadowHeirs", (nw_1 (List.mem_of_getElem? (i := 156) (by decide +kernel)) rfl)⟩⟩
theorem ml_X4_94 : zMl "ShadowHeirs$IslandText" 94 yX6_fail := Or.inl (gw_3 (List.mem_of_getElem? (i := 109) (by decide +kernel)) rfl)
theorem fl_X4_148 : zFl "ShadowHeirs$IslandText" 148 5 4 := ⟨RX5, TX5, 11, tyX5, rfl, by decide, rfl, by decide, rfl, clw_5, tyX5_ok, nmX5, Or.inr ⟨"ShadowHeirs", (nw_1 (List.mem_of_getElem? (i := 172) (by decide +kernel)) rfl)⟩⟩
theorem fl_X4_154 : zFl "ShadowHeirs$IslandText" 154 5 9 := ⟨RX5, TX5, 11, tyX5, rfl, by decide, rfl, by decide, rfl, clw_5, tyX5_ok, nmX5, Or.inr ⟨"ShadowHeirs", (nw_1 (List.mem_of_getElem? (i := 192) (by decide +kernel)) rfl)⟩⟩
theorem zk_33 : zk 33 13 := by constructor <;> decide +kernel
theorem rf_28_9 : sRf 28 9 = 33 := by decide +kernel
theorem fl_X4_76 : zFl "ShadowHeirs$IslandText" 76 6 8 := ⟨RX6, TX6, 11, tyX6, rfl, by decide, rfl, by decide, rfl, clw_6, tyX6_ok, nmX6, Or.inr ⟨"ShadowHeirs", (nw_1 (List.mem_of_getElem? (i := 111) (by decide +kernel)) rfl)⟩⟩
theorem fl_X4_157 : zFl "ShadowHeirs$IslandText" 157 5 10 := ⟨RX5, TX5, 11, tyX5, rfl, by decide, rfl, by decide, rfl, clw_5, tyX5_ok, nmX5, Or.inr ⟨"ShadowHeirs", (nw_1 (List.mem_of_getElem? (i := 195) (by decide +kernel)) rfl)⟩⟩
theorem zk_34 : zk 34 13 := by constructor <;> decide +kernel
theorem rf_28_10 : sRf 28 10 = 34 := by decide +kernel
theorem ml_X4_151 : zMl "ShadowHeirs$IslandText" 151 yX6_wantSide := Or.inl (gw_3 (List.mem_of_getElem? (i := 163) (by decide +kernel)) rfl)
theorem ml_X4_160 : zMl "ShadowHeirs$IslandText" 160 yX6_wantName := Or.inl (gw_3 (List.mem_of_getElem? (i := 143) (by decide +kernel)) rfl)
theorem ml_X4_163 : zMl "ShadowHeirs$IslandText" 163 yX5_houseNamed := Or.inl (gw_3 (List.mem_of_getElem? (i := 147) (by decide +kernel)) rfl)
set_option maxRecDepth 100000 in
theorem cal_X5_personNamed : zCal yX5_personNamed cX5_personNamed 4 (some .int) 1 := ⟨(gw_3 (List.mem_of_getElem? (i := 154) rfl) rfl), (gw_1 (List.mem_of_getElem? (i := 7) (by decide +kernel)) rfl), by decide +kernel⟩
theorem calv_X5_personNamed : zCalV yX5_personNamed := ⟨(gw_3 (List.mem_of_getElem? (i := 152) (by decide +kernel)) rfl), (gw_3 (List.mem_of_getElem? (i := 153) (by decide +kernel)) rfl)⟩
theorem ml_X4_167 : zMl "ShadowHeirs$IslandText" 167 yX5_personNamed := Or.inl (gw_3 (List.mem_of_getElem? (i := 151) (by decide +kernel)) rfl)
theorem fl_X4_33 : zFl "ShadowHeirs$IslandText" 33 4 3 := ⟨RX4, TX4, 7, tyX4, rfl, by decide, rfl, by decide, rfl, clw_4, tyX4_ok, nmX4, Or.inl (gw_2 (List.mem_of_getElem? (i := 109) (by decide +kernel)) rfl)⟩
theorem zk_40 : zk 40 3 := by constructor <;> decide +kernel
theorem rf_27_3 : sRf 27 3 = 40 := by decide +kernel
theorem fl_X4_44 : zFl "ShadowHeirs$IslandText" 44 4 6 := ⟨RX4, TX4, 7, tyX4, rfl, by decide, rfl, by decide, rfl, clw_4, tyX4_ok, nmX4, Or.inl (gw_2 (List.mem_of_getElem? (i := 113) (by decide +kernel)) rfl)⟩
theorem fp_4_5 : zFp 4 5 .boolean := fun T N C h => by
  cases h
  exact ⟨rfl, by decide +kernel⟩
theorem fp_4_6 : zFp 4 6 .int := fun T N C h => by
  cases h
  exact ⟨rfl, by decide +kernel⟩
theorem ml_X4_170 : zMl "ShadowHeirs$IslandText" 170 yX3_heightAt := Or.inl (gw_3 (List.mem_of_getElem? (i := 127) (by decide +kernel)) rfl)
theorem ml_X4_174 : zMl "ShadowHeirs$IslandText" 174 yX3_personsOn := Or.inl (gw_3 (List.mem_of_getElem? (i := 131) (by decide +kernel)) rfl)
theorem fl_X8_48 : zFl "ShadowHeirs$Sentence" 48 6 6 := ⟨RX6, TX6, 11, tyX6, rfl, by decide, rfl, by decide, rfl, clw_6, tyX6_ok, nmX6, Or.inr ⟨"ShadowHeirs", (nw_1 (List.mem_of_getElem? (i := 105) (by decide +kernel)) rfl)⟩⟩
set_option maxRecDepth 100000 in
theorem cal_X8_clear : zCal yX8_clear cX8_clear 1 none 0 := ⟨(gw_5 (List.mem_of_getElem? (i := 143) rfl) rfl), (gw_1 (List.mem_of_getElem? (i := 9) (by decide +kernel)) rfl), by decide +kernel⟩
theorem calv_X8_clear : zCalV yX8_clear := ⟨(gw_5 (List.mem_of_getElem? (i := 141) (by decide +kernel)) rfl), (gw_5 (List.mem_of_getElem? (i := 142) (by decide +kernel)) rfl)⟩
theorem ml_X8_32 : zMl "ShadowHeirs$Sentence" 32 yX8_clear := Or.inl (gw_5 (List.mem_of_getElem? (i := 140) (by decide +kernel)) rfl)
set_option maxRecDepth 100000 in
theorem cal_X6_beginText : zCal yX6_beginText cX6_beginText 2 none 1 := ⟨(gw_3 (List.mem_of_getElem? (i := 84) rfl) rfl), (gw_1 (List.mem_of_getElem? (i := 2) (by decide +kernel)) rfl), by decide +kernel⟩
theorem calv_X6_beginText : zCalV yX6_beginText := ⟨(gw_3 (List.mem_of_getElem? (i := 82) (by decide +kernel)) rfl), (gw_3 (List.mem_of_getElem? (i := 83) (by decide +kernel)) rfl)⟩
theorem ml_X8_35 : zMl "ShadowHeirs$Sentence" 35 yX6_beginText := Or.inl (gw_5 (List.mem_of_getElem? (i := 144) (by decide +kernel)) rfl)
theorem fl_X8_99 : zFl "ShadowHeirs$Sentence" 99 3 0 := ⟨RX3, TX3, 3, tyX3, rfl, by decide, rfl, by decide, rfl, clw_3, tyX3_ok, nmX3, Or.inr ⟨"ShadowHeirs", (nw_2 (List.mem_of_getElem? (i := 76) (by decide +kernel)) rfl)⟩⟩
theorem fl_X8_105 : zFl "ShadowHeirs$Sentence" 105 5 3 := ⟨RX5, TX5, 11, tyX5, rfl, by decide, rfl, by decide, rfl, clw_5, tyX5_ok, nmX5, Or.inr ⟨"ShadowHeirs", (nw_1 (List.mem_of_getElem? (i := 168) (by decide +kernel)) rfl)⟩⟩
set_option maxRecDepth 100000 in
theorem cal_X8_isSo : zCal yX8_isSo cX8_isSo 5 (some .boolean) 4 := ⟨(gw_5 (List.mem_of_getElem? (i := 191) rfl) rfl), (gw_1 (List.mem_of_getElem? (i := 9) (by decide +kernel)) rfl), by decide +kernel⟩
theorem sta_X8_isSo : Cond.static yX8_isSo ∈ gw_tbl := (gw_5 (List.mem_of_getElem? (i := 190) (by decide +kernel)) rfl)
theorem ml_X8_115 : zMl "ShadowHeirs$Sentence" 115 yX8_isSo := Or.inl (gw_5 (List.mem_of_getElem? (i := 189) (by decide +kernel)) rfl)
set_option maxRecDepth 100000 in
theorem cal_X8_numberOf : zCal yX8_numberOf cX8_numberOf 3 (some .int) 3 := ⟨(gw_5 (List.mem_of_getElem? (i := 185) rfl) rfl), (gw_1 (List.mem_of_getElem? (i := 9) (by decide +kernel)) rfl), by decide +kernel⟩
theorem sta_X8_numberOf : Cond.static yX8_numberOf ∈ gw_tbl := (gw_5 (List.mem_of_getElem? (i := 184) (by decide +kernel)) rfl)
theorem ml_X8_108 : zMl "ShadowHeirs$Sentence" 108 yX8_numberOf := Or.inl (gw_5 (List.mem_of_getElem? (i := 183) (by decide +kernel)) rfl)
set_option maxRecDepth 100000 in
theorem cal_X8_isCompared : zCal yX8_isCompared cX8_isCompared 3 (some .boolean) 3 := ⟨(gw_5 (List.mem_of_getElem? (i := 188) rfl) rfl), (gw_1 (List.mem_of_getElem? (i := 9) (by decide +kernel)) rfl), by decide +kernel⟩
theorem sta_X8_isCompared : Cond.static yX8_isCompared ∈ gw_tbl := (gw_5 (List.mem_of_getElem? (i := 187) (by decide +kernel)) rfl)
theorem ml_X8_111 : zMl "ShadowHeirs$Sentence" 111 yX8_isCompared := Or.inl (gw_5 (List.mem_of_getElem? (i := 186) (by decide +kernel)) rfl)
theorem fl_X10_76 : zFl "ShadowHeirs$Walk" 76 5 3 := ⟨RX5, TX5, 11, tyX5, rfl, by decide, rfl, by decide, rfl, clw_5, tyX5_ok, nmX5, Or.inr ⟨"ShadowHeirs", (nw_1 (List.mem_of_getElem? (i := 166) (by decide +kernel)) rfl)⟩⟩
theorem ml_X10_87 : zMl "ShadowHeirs$Walk" 87 yJ6_bitCount_0f7a4 := Or.inl (gw_4 (List.mem_of_getElem? (i := 193) (by decide +kernel)) rfl)
theorem mm_l_X10_92 : Cond.methodLink "ShadowHeirs$Walk" 92 Lib.Math.max.name ∈ gw_tbl := (gw_4 (List.mem_of_getElem? (i := 194) (by decide +kernel)) rfl)
set_option maxRecDepth 100000 in
theorem cal_X10_cellsWithin : zCal yX10_cellsWithin cX10_cellsWithin 9 (some .int) 4 := ⟨(gw_4 (List.mem_of_getElem? (i := 175) rfl) rfl), (gw_1 (List.mem_of_getElem? (i := 14) (by decide +kernel)) rfl), by decide +kernel⟩
theorem calv_X10_cellsWithin : zCalV yX10_cellsWithin := ⟨(gw_4 (List.mem_of_getElem? (i := 174) (by decide +kernel)) rfl), (gw_s (y := yX10_cellsWithin) (n := 4) (List.mem_of_getElem? (i := 11) (by decide +kernel)))⟩
theorem ml_X10_80 : zMl "ShadowHeirs$Walk" 80 yX10_cellsWithin := Or.inl (gw_4 (List.mem_of_getElem? (i := 172) (by decide +kernel)) rfl)
set_option maxRecDepth 100000 in
theorem cal_X10_takeOneMore : zCal yX10_takeOneMore cX10_takeOneMore 4 none 1 := ⟨(gw_4 (List.mem_of_getElem? (i := 192) rfl) rfl), (gw_1 (List.mem_of_getElem? (i := 14) (by decide +kernel)) rfl), by decide +kernel⟩
theorem calv_X10_takeOneMore : zCalV yX10_takeOneMore := ⟨(gw_4 (List.mem_of_getElem? (i := 191) (by decide +kernel)) rfl), (gw_s (y := yX10_takeOneMore) (n := 4) (List.mem_of_getElem? (i := 14) (by decide +kernel)))⟩
theorem ml_X10_84 : zMl "ShadowHeirs$Walk" 84 yX10_takeOneMore := Or.inl (gw_4 (List.mem_of_getElem? (i := 189) (by decide +kernel)) rfl)
theorem ml_X11_289 : zMl "ShadowHeirs" 289 yX5_stepsAlong := Or.inl (gw_4 (List.mem_of_getElem? (i := 149) (by decide +kernel)) rfl)
set_option maxRecDepth 100000 in
theorem cal_X3_spotThatSpares : zCal yX3_spotThatSpares cX3_spotThatSpares 9 (some .int) 3 := ⟨(gw_4 (List.mem_of_getElem? (i := 153) rfl) rfl), (gw_1 (List.mem_of_getElem? (i := 10) (by decide +kernel)) rfl), by decide +kernel⟩
theorem calv_X3_spotThatSpares : zCalV yX3_spotThatSpares := ⟨(gw_4 (List.mem_of_getElem? (i := 151) (by decide +kernel)) rfl), (gw_4 (List.mem_of_getElem? (i := 152) (by decide +kernel)) rfl)⟩
theorem ml_X11_292 : zMl "ShadowHeirs" 292 yX3_spotThatSpares := Or.inl (gw_4 (List.mem_of_getElem? (i := 150) (by decide +kernel)) rfl)
theorem fp_11_16 : zFp 11 16 .int := fun T N C h => by
  cases h
  exact ⟨rfl, by decide +kernel⟩
theorem ml_X11_295 : zMl "ShadowHeirs" 295 yX3_stonesToStop := Or.inl (gw_4 (List.mem_of_getElem? (i := 159) (by decide +kernel)) rfl)
set_option maxRecDepth 100000 in
theorem cal_X10_mostInShadow : zCal yX10_mostInShadow cX10_mostInShadow 6 (some .int) 3 := ⟨(gw_4 (List.mem_of_getElem? (i := 171) rfl) rfl), (gw_1 (List.mem_of_getElem? (i := 14) (by decide +kernel)) rfl), by decide +kernel⟩
theorem calv_X10_mostInShadow : zCalV yX10_mostInShadow := ⟨(gw_4 (List.mem_of_getElem? (i := 169) (by decide +kernel)) rfl), (gw_4 (List.mem_of_getElem? (i := 170) (by decide +kernel)) rfl)⟩
theorem ml_X11_298 : zMl "ShadowHeirs" 298 yX10_mostInShadow := Or.inl (gw_4 (List.mem_of_getElem? (i := 168) (by decide +kernel)) rfl)
theorem fl_X11_65 : zFl "ShadowHeirs" 65 11 8 := ⟨RX11, TX11, 20, tyX11, rfl, by decide, rfl, by decide, rfl, clw_11, tyX11_ok, nmX11, Or.inl (gw_3 (List.mem_of_getElem? (i := 4) (by decide +kernel)) rfl)⟩
theorem zk_49 : zk 49 8 := by constructor <;> decide +kernel
theorem rf_0_8 : sRf 0 8 = 49 := by decide +kernel
theorem fl_X11_141 : zFl "ShadowHeirs" 141 6 10 := ⟨RX6, TX6, 11, tyX6, rfl, by decide, rfl, by decide, rfl, clw_6, tyX6_ok, nmX6, Or.inr ⟨"ShadowHeirs", (nw_1 (List.mem_of_getElem? (i := 117) (by decide +kernel)) rfl)⟩⟩
theorem fl_X11_33 : zFl "ShadowHeirs" 33 11 3 := ⟨RX11, TX11, 20, tyX11, rfl, by decide, rfl, by decide, rfl, clw_11, tyX11_ok, nmX11, Or.inl (gw_2 (List.mem_of_getElem? (i := 239) (by decide +kernel)) rfl)⟩
theorem zk_16 : zk 16 8 := by constructor <;> decide +kernel
theorem rf_0_3 : sRf 0 3 = 16 := by decide +kernel
theorem fl_X11_358 : zFl "ShadowHeirs" 358 8 4 := ⟨RX8, TX8, 5, tyX8, rfl, by decide, rfl, by decide, rfl, clw_8, tyX8_ok, nmX8, Or.inr ⟨"ShadowHeirs", (nw_2 (List.mem_of_getElem? (i := 53) (by decide +kernel)) rfl)⟩⟩
set_option maxRecDepth 100000 in
theorem cal_X8_readText : zCal yX8_readText cX8_readText 3 none 2 := ⟨(gw_5 (List.mem_of_getElem? (i := 139) rfl) rfl), (gw_1 (List.mem_of_getElem? (i := 9) (by decide +kernel)) rfl), by decide +kernel⟩
theorem calv_X8_readText : zCalV yX8_readText := ⟨(gw_5 (List.mem_of_getElem? (i := 137) (by decide +kernel)) rfl), (gw_5 (List.mem_of_getElem? (i := 138) (by decide +kernel)) rfl)⟩
theorem ml_X11_351 : zMl "ShadowHeirs" 351 yX8_readText := Or.inl (gw_5 (List.mem_of_getElem? (i := 136) (by decide +kernel)) rfl)
set_option maxRecDepth 100000 in
theorem cal_X11_closeTape : zCal yX11_closeTape cX11_closeTape 1 (some .boolean) 0 := ⟨(gw_3 (List.mem_of_getElem? (i := 178) rfl) rfl), (gw_1 (List.mem_of_getElem? (i := 1) (by decide +kernel)) rfl), by decide +kernel⟩
theorem calv_X11_closeTape : zCalV yX11_closeTape := ⟨(gw_3 (List.mem_of_getElem? (i := 177) (by decide +kernel)) rfl), (gw_s (y := yX11_closeTape) (n := 20) (List.mem_of_getElem? (i := 10) (by decide +kernel)))⟩
theorem ml_X11_137 : zMl "ShadowHeirs" 137 yX11_closeTape := Or.inl (gw_3 (List.mem_of_getElem? (i := 175) (by decide +kernel)) rfl)
theorem ml_X11_355 : zMl "ShadowHeirs" 355 yX8_copyFrom := Or.inl (gw_5 (List.mem_of_getElem? (i := 171) (by decide +kernel)) rfl)
set_option maxRecDepth 100000 in
theorem cal_X11_isTapeSoAt : zCal yX11_isTapeSoAt cX11_isTapeSoAt 4 (some .boolean) 1 := ⟨(gw_4 (List.mem_of_getElem? (i := 224) rfl) rfl), (gw_1 (List.mem_of_getElem? (i := 1) (by decide +kernel)) rfl), by decide +kernel⟩
theorem calv_X11_isTapeSoAt : zCalV yX11_isTapeSoAt := ⟨(gw_4 (List.mem_of_getElem? (i := 223) (by decide +kernel)) rfl), (gw_s (y := yX11_isTapeSoAt) (n := 20) (List.mem_of_getElem? (i := 17) (by decide +kernel)))⟩
theorem ml_X11_388 : zMl "ShadowHeirs" 388 yX11_isTapeSoAt := Or.inl (gw_4 (List.mem_of_getElem? (i := 221) (by decide +kernel)) rfl)
set_option maxRecDepth 100000 in
theorem cal_X11_isTapeAsTold : zCal yX11_isTapeAsTold cX11_isTapeAsTold 3 (some .boolean) 0 := ⟨(gw_4 (List.mem_of_getElem? (i := 216) rfl) rfl), (gw_1 (List.mem_of_getElem? (i := 1) (by decide +kernel)) rfl), by decide +kernel⟩
theorem calv_X11_isTapeAsTold : zCalV yX11_isTapeAsTold := ⟨(gw_4 (List.mem_of_getElem? (i := 215) (by decide +kernel)) rfl), (gw_s (y := yX11_isTapeAsTold) (n := 20) (List.mem_of_getElem? (i := 16) (by decide +kernel)))⟩
theorem ml_X11_385 : zMl "ShadowHeirs" 385 yX11_isTapeAsTold := Or.inl (gw_4 (List.mem_of_getElem? (i := 213) (by decide +kernel)) rfl)
theorem fl_X0_54 : zFl "ShadowHeirs$Book" 54 6 6 := ⟨RX6, TX6, 11, tyX6, rfl, by decide, rfl, by decide, rfl, clw_6, tyX6_ok, nmX6, Or.inr ⟨"ShadowHeirs", (nw_1 (List.mem_of_getElem? (i := 103) (by decide +kernel)) rfl)⟩⟩
theorem fl_X0_11 : zFl "ShadowHeirs$Book" 11 0 1 := ⟨RX0, TX0, 10, tyX0, rfl, by decide, rfl, by decide, rfl, clw_0, tyX0_ok, nmX0, Or.inl (gw_2 (List.mem_of_getElem? (i := 136) (by decide +kernel)) rfl)⟩
theorem zk_46 : zk 46 13 := by constructor <;> decide +kernel
theorem rf_45_1 : sRf 45 1 = 46 := by decide +kernel
set_option maxRecDepth 100000 in
theorem cal_X0_actOf : zCal yX0_actOf cX0_actOf 1 (some .int) 1 := ⟨(gw_5 (List.mem_of_getElem? (i := 88) rfl) rfl), (gw_1 (List.mem_of_getElem? (i := 12) (by decide +kernel)) rfl), by decide +kernel⟩
theorem sta_X0_actOf : Cond.static yX0_actOf ∈ gw_tbl := (gw_5 (List.mem_of_getElem? (i := 87) (by decide +kernel)) rfl)
theorem ml_X0_68 : zMl "ShadowHeirs$Book" 68 yX0_actOf := Or.inl (gw_5 (List.mem_of_getElem? (i := 86) (by decide +kernel)) rfl)
theorem ml_X0_80 : zMl "ShadowHeirs$Book" 80 yX5_personNamed := Or.inl (gw_5 (List.mem_of_getElem? (i := 90) (by decide +kernel)) rfl)
set_option maxRecDepth 100000 in
theorem cal_X0_readSide : zCal yX0_readSide cX0_readSide 1 (some .boolean) 0 := ⟨(gw_5 (List.mem_of_getElem? (i := 94) rfl) rfl), (gw_1 (List.mem_of_getElem? (i := 12) (by decide +kernel)) rfl), by decide +kernel⟩
theorem calv_X0_readSide : zCalV yX0_readSide := ⟨(gw_5 (List.mem_of_getElem? (i := 93) (by decide +kernel)) rfl), (gw_s (y := yX0_readSide) (n := 10) (List.mem_of_getElem? (i := 26) (by decide +kernel)))⟩
theorem ml_X0_86 : zMl "ShadowHeirs$Book" 86 yX0_readSide := Or.inl (gw_5 (List.mem_of_getElem? (i := 91) (by decide +kernel)) rfl)
set_option maxRecDepth 100000 in
theorem cal_X0_readHouse : zCal yX0_readHouse cX0_readHouse 2 (some .boolean) 1 := ⟨(gw_5 (List.mem_of_getElem? (i := 99) rfl) rfl), (gw_1 (List.mem_of_getElem? (i := 12) (by decide +kernel)) rfl), by decide +kernel⟩
theorem calv_X0_readHouse : zCalV yX0_readHouse := ⟨(gw_5 (List.mem_of_getElem? (i := 98) (by decide +kernel)) rfl), (gw_s (y := yX0_readHouse) (n := 10) (List.mem_of_getElem? (i := 27) (by decide +kernel)))⟩
theorem ml_X0_90 : zMl "ShadowHeirs$Book" 90 yX0_readHouse := Or.inl (gw_5 (List.mem_of_getElem? (i := 96) (by decide +kernel)) rfl)
set_option maxRecDepth 100000 in
theorem cal_X0_readNumber : zCal yX0_readNumber cX0_readNumber 4 (some .boolean) 3 := ⟨(gw_5 (List.mem_of_getElem? (i := 105) rfl) rfl), (gw_1 (List.mem_of_getElem? (i := 12) (by decide +kernel)) rfl), by decide +kernel⟩
theorem calv_X0_readNumber : zCalV yX0_readNumber := ⟨(gw_5 (List.mem_of_getElem? (i := 104) (by decide +kernel)) rfl), (gw_s (y := yX0_readNumber) (n := 10) (List.mem_of_getElem? (i := 28) (by decide +kernel)))⟩
theorem ml_X0_93 : zMl "ShadowHeirs$Book" 93 yX0_readNumber := Or.inl (gw_5 (List.mem_of_getElem? (i := 102) (by decide +kernel)) rfl)
set_option maxRecDepth 100000 in
theorem cal_X0_whyNot : zCal yX0_whyNot cX0_whyNot 4 (some .int) 4 := ⟨(gw_5 (List.mem_of_getElem? (i := 117) rfl) rfl), (gw_1 (List.mem_of_getElem? (i := 12) (by decide +kernel)) rfl), by decide +kernel⟩
theorem sta_X0_whyNot : Cond.static yX0_whyNot ∈ gw_tbl := (gw_5 (List.mem_of_getElem? (i := 116) (by decide +kernel)) rfl)
theorem ml_X0_129 : zMl "ShadowHeirs$Book" 129 yX0_whyNot := Or.inl (gw_5 (List.mem_of_getElem? (i := 115) (by decide +kernel)) rfl)
theorem ml_X0_132 : zMl "ShadowHeirs$Book" 132 yX3_makeStep := Or.inl (gw_5 (List.mem_of_getElem? (i := 123) (by decide +kernel)) rfl)
theorem ml_X0_136 : zMl "ShadowHeirs$Book" 136 yX3_layStone := Or.inl (gw_5 (List.mem_of_getElem? (i := 124) (by decide +kernel)) rfl)
theorem ml_X0_139 : zMl "ShadowHeirs$Book" 139 yX3_tearStone := Or.inl (gw_5 (List.mem_of_getElem? (i := 125) (by decide +kernel)) rfl)
theorem ml_X0_142 : zMl "ShadowHeirs$Book" 142 yX3_buryHouse := Or.inl (gw_5 (List.mem_of_getElem? (i := 126) (by decide +kernel)) rfl)
theorem fl_X1_16 : zFl "ShadowHeirs$Draws" 16 3 1 := ⟨RX3, TX3, 3, tyX3, rfl, by decide, rfl, by decide, rfl, clw_3, tyX3_ok, nmX3, Or.inr ⟨"ShadowHeirs", (nw_2 (List.mem_of_getElem? (i := 80) (by decide +kernel)) rfl)⟩⟩
theorem fl_X1_22 : zFl "ShadowHeirs$Draws" 22 7 5 := ⟨RX7, TX7, 9, tyX7, rfl, by decide, rfl, by decide, rfl, clw_7, tyX7_ok, nmX7, Or.inr ⟨"ShadowHeirs", (nw_2 (List.mem_of_getElem? (i := 10) (by decide +kernel)) rfl)⟩⟩
theorem fl_X1_37 : zFl "ShadowHeirs$Draws" 37 5 3 := ⟨RX5, TX5, 11, tyX5, rfl, by decide, rfl, by decide, rfl, clw_5, tyX5_ok, nmX5, Or.inr ⟨"ShadowHeirs", (nw_1 (List.mem_of_getElem? (i := 164) (by decide +kernel)) rfl)⟩⟩
theorem fl_X1_50 : zFl "ShadowHeirs$Draws" 50 5 2 := ⟨RX5, TX5, 11, tyX5, rfl, by decide, rfl, by decide, rfl, clw_5, tyX5_ok, nmX5, Or.inr ⟨"ShadowHeirs", (nw_1 (List.mem_of_getElem? (i := 160) (by decide +kernel)) rfl)⟩⟩
theorem ml_X1_53 : zMl "ShadowHeirs$Draws" 53 yX3_whyNotBury := Or.inl (gw_5 (List.mem_of_getElem? (i := 66) (by decide +kernel)) rfl)
theorem ml_X1_56 : zMl "ShadowHeirs$Draws" 56 yX3_buryHouse := Or.inl (gw_5 (List.mem_of_getElem? (i := 67) (by decide +kernel)) rfl)
set_option maxRecDepth 100000 in
theorem cal_X1_livePerson : zCal yX1_livePerson cX1_livePerson 7 none 2 := ⟨(gw_5 (List.mem_of_getElem? (i := 56) rfl) rfl), (gw_1 (List.mem_of_getElem? (i := 15) (by decide +kernel)) rfl), by decide +kernel⟩
theorem calv_X1_livePerson : zCalV yX1_livePerson := ⟨(gw_5 (List.mem_of_getElem? (i := 55) (by decide +kernel)) rfl), (gw_s (y := yX1_livePerson) (n := 1) (List.mem_of_getElem? (i := 23) (by decide +kernel)))⟩
theorem ml_X1_42 : zMl "ShadowHeirs$Draws" 42 yX1_livePerson := Or.inl (gw_5 (List.mem_of_getElem? (i := 53) (by decide +kernel)) rfl)
theorem mm_l_X1_27 : Cond.methodLink "ShadowHeirs$Draws" 27 Lib.Math.min.name ∈ gw_tbl := (gw_5 (List.mem_of_getElem? (i := 52) (by decide +kernel)) rfl)
theorem fl_X4_21 : zFl "ShadowHeirs$IslandText" 21 4 2 := ⟨RX4, TX4, 7, tyX4, rfl, by decide, rfl, by decide, rfl, clw_4, tyX4_ok, nmX4, Or.inl (gw_2 (List.mem_of_getElem? (i := 108) (by decide +kernel)) rfl)⟩
theorem zk_35 : zk 35 7 := by constructor <;> decide +kernel
theorem rf_27_2 : sRf 27 2 = 35 := by decide +kernel
theorem fl_X4_116 : zFl "ShadowHeirs$IslandText" 116 7 0 := ⟨RX7, TX7, 9, tyX7, rfl, by decide, rfl, by decide, rfl, clw_7, tyX7_ok, nmX7, Or.inr ⟨"ShadowHeirs", (nw_1 (List.mem_of_getElem? (i := 227) (by decide +kernel)) rfl)⟩⟩
theorem zk_36 : zk 36 13 := by constructor <;> decide +kernel
theorem rf_35_0 : sRf 35 0 = 36 := by decide +kernel
set_option maxRecDepth 100000 in
theorem cal_X4_readSpot : zCal yX4_readSpot cX4_readSpot 3 (some .boolean) 1 := ⟨(gw_3 (List.mem_of_getElem? (i := 126) rfl) rfl), (gw_1 (List.mem_of_getElem? (i := 11) (by decide +kernel)) rfl), by decide +kernel⟩
theorem calv_X4_readSpot : zCalV yX4_readSpot := ⟨(gw_3 (List.mem_of_getElem? (i := 125) (by decide +kernel)) rfl), (gw_s (y := yX4_readSpot) (n := 7) (List.mem_of_getElem? (i := 5) (by decide +kernel)))⟩
theorem ml_X4_112 : zMl "ShadowHeirs$IslandText" 112 yX4_readSpot := Or.inl (gw_3 (List.mem_of_getElem? (i := 123) (by decide +kernel)) rfl)
theorem fl_X4_120 : zFl "ShadowHeirs$IslandText" 120 5 2 := ⟨RX5, TX5, 11, tyX5, rfl, by decide, rfl, by decide, rfl, clw_5, tyX5_ok, nmX5, Or.inr ⟨"ShadowHeirs", (nw_1 (List.mem_of_getElem? (i := 161) (by decide +kernel)) rfl)⟩⟩
theorem fl_X4_126 : zFl "ShadowHeirs$IslandText" 126 5 7 := ⟨RX5, TX5, 11, tyX5, rfl, by decide, rfl, by decide, rfl, clw_5, tyX5_ok, nmX5, Or.inr ⟨"ShadowHeirs", (nw_1 (List.mem_of_getElem? (i := 185) (by decide +kernel)) rfl)⟩⟩
theorem zk_31 : zk 31 14 := by constructor <;> decide +kernel
theorem rf_28_7 : sRf 28 7 = 31 := by decide +kernel
theorem fl_X4_130 : zFl "ShadowHeirs$IslandText" 130 5 5 := ⟨RX5, TX5, 11, tyX5, rfl, by decide, rfl, by decide, rfl, clw_5, tyX5_ok, nmX5, Or.inr ⟨"ShadowHeirs", (nw_1 (List.mem_of_getElem? (i := 177) (by decide +kernel)) rfl)⟩⟩
theorem zk_29 : zk 29 13 := by constructor <;> decide +kernel
theorem rf_28_5 : sRf 28 5 = 29 := by decide +kernel
theorem fl_X4_133 : zFl "ShadowHeirs$IslandText" 133 5 6 := ⟨RX5, TX5, 11, tyX5, rfl, by decide, rfl, by decide, rfl, clw_5, tyX5_ok, nmX5, Or.inr ⟨"ShadowHeirs", (nw_1 (List.mem_of_getElem? (i := 181) (by decide +kernel)) rfl)⟩⟩
theorem zk_30 : zk 30 13 := by constructor <;> decide +kernel
theorem rf_28_6 : sRf 28 6 = 30 := by decide +kernel
theorem fl_X4_136 : zFl "ShadowHeirs$IslandText" 136 7 3 := ⟨RX7, TX7, 9, tyX7, rfl, by decide, rfl, by decide, rfl, clw_7, tyX7_ok, nmX7, Or.inr ⟨"ShadowHeirs", (nw_2 (List.mem_of_getElem? (i := 1) (by decide +kernel)) rfl)⟩⟩
theorem zk_39 : zk 39 13 := by constructor <;> decide +kernel
theorem rf_35_3 : sRf 35 3 = 39 := by decide +kernel
set_option maxRecDepth 100000 in
theorem cal_X4_readNewName : zCal yX4_readNewName cX4_readNewName 2 (some .boolean) 0 := ⟨(gw_3 (List.mem_of_getElem? (i := 142) rfl) rfl), (gw_1 (List.mem_of_getElem? (i := 11) (by decide +kernel)) rfl), by decide +kernel⟩
theorem calv_X4_readNewName : zCalV yX4_readNewName := ⟨(gw_3 (List.mem_of_getElem? (i := 141) (by decide +kernel)) rfl), (gw_s (y := yX4_readNewName) (n := 7) (List.mem_of_getElem? (i := 7) (by decide +kernel)))⟩
theorem ml_X4_123 : zMl "ShadowHeirs$IslandText" 123 yX4_readNewName := Or.inl (gw_3 (List.mem_of_getElem? (i := 139) (by decide +kernel)) rfl)
theorem fl_X4_139 : zFl "ShadowHeirs$IslandText" 139 5 3 := ⟨RX5, TX5, 11, tyX5, rfl, by decide, rfl, by decide, rfl, clw_5, tyX5_ok, nmX5, Or.inr ⟨"ShadowHeirs", (nw_1 (List.mem_of_getElem? (i := 167) (by decide +kernel)) rfl)⟩⟩
theorem fl_X4_142 : zFl "ShadowHeirs$IslandText" 142 5 8 := ⟨RX5, TX5, 11, tyX5, rfl, by decide, rfl, by decide, rfl, clw_5, tyX5_ok, nmX5, Or.inr ⟨"ShadowHeirs", (nw_1 (List.mem_of_getElem? (i := 188) (by decide +kernel)) rfl)⟩⟩
theorem zk_32 : zk 32 14 := by constructor <;> decide +kernel
theorem rf_28_8 : sRf 28 8 = 32 := by decide +kernel
theorem fl_X4_145 : zFl "ShadowHeirs$IslandText" 145 7 1 := ⟨RX7, TX7, 9, tyX7, rfl, by decide, rfl, by decide, rfl, clw_7, tyX7_ok, nmX7, Or.inr ⟨"ShadowHeirs", (nw_1 (List.mem_of_getElem? (i := 232) (by decide +kernel)) rfl)⟩⟩
theorem zk_37 : zk 37 13 := by constructor <;> decide +kernel
theorem rf_35_1 : sRf 35 1 = 37 := by decide +kernel
theorem fl_X8_18 : zFl "ShadowHeirs$Sentence" 18 8 2 := ⟨RX8, TX8, 5, tyX8, rfl, by decide, rfl, by decide, rfl, clw_8, tyX8_ok, nmX8, Or.inl (gw_2 (List.mem_of_getElem? (i := 50) (by decide +kernel)) rfl)⟩
theorem zko_8_2 {t : Nat} (h : zk t 8) : zk (t + 3) 13 := (by decide +kernel : ∀ q, q < 157 → sK q = 8 → (q + 3 < 157 ∧ sK (q + 3) = 13)) t h.1 h.2
theorem rfo_8_2 {t : Nat} (h : zk t 8) : sRf t 2 = t + 3 := (by decide +kernel : ∀ q, q < 157 → sK q = 8 → sRf q 2 = q + 3) t h.1 h.2
theorem leno_8_2 {t : Nat} (h : zk t 8) : ((sLen (t + 3) : Nat) : Int) = 20 := (by decide +kernel : ∀ q, q < 157 → sK q = 8 → ((sLen (q + 3) : Nat) : Int) = 20) t h.1 h.2
set_option maxRecDepth 100000 in
theorem cal_X8_personsOf : zCal yX8_personsOf cX8_personsOf 6 (some .int) 3 := ⟨(gw_5 (List.mem_of_getElem? (i := 182) rfl) rfl), (gw_1 (List.mem_of_getElem? (i := 9) (by decide +kernel)) rfl), by decide +kernel⟩
theorem sta_X8_personsOf : Cond.static yX8_personsOf ∈ gw_tbl := (gw_5 (List.mem_of_getElem? (i := 181) (by decide +kernel)) rfl)
theorem ml_X8_95 : zMl "ShadowHeirs$Sentence" 95 yX8_personsOf := Or.inl (gw_5 (List.mem_of_getElem? (i := 180) (by decide +kernel)) rfl)
set_option maxRecDepth 100000 in
theorem cal_X11_hoursByTape : zCal yX11_hoursByTape cX11_hoursByTape 3 (some .int) 0 := ⟨(gw_4 (List.mem_of_getElem? (i := 212) rfl) rfl), (gw_1 (List.mem_of_getElem? (i := 1) (by decide +kernel)) rfl), by decide +kernel⟩
theorem calv_X11_hoursByTape : zCalV yX11_hoursByTape := ⟨(gw_4 (List.mem_of_getElem? (i := 211) (by decide +kernel)) rfl), (gw_s (y := yX11_hoursByTape) (n := 20) (List.mem_of_getElem? (i := 15) (by decide +kernel)))⟩
theorem ml_X11_304 : zMl "ShadowHeirs" 304 yX11_hoursByTape := Or.inl (gw_4 (List.mem_of_getElem? (i := 209) (by decide +kernel)) rfl)
set_option maxRecDepth 100000 in
theorem cal_X11_bestToAsk : zCal yX11_bestToAsk cX11_bestToAsk 8 (some .int) 2 := ⟨(gw_4 (List.mem_of_getElem? (i := 228) rfl) rfl), (gw_1 (List.mem_of_getElem? (i := 1) (by decide +kernel)) rfl), by decide +kernel⟩
theorem calv_X11_bestToAsk : zCalV yX11_bestToAsk := ⟨(gw_4 (List.mem_of_getElem? (i := 227) (by decide +kernel)) rfl), (gw_s (y := yX11_bestToAsk) (n := 20) (List.mem_of_getElem? (i := 18) (by decide +kernel)))⟩
theorem ml_X11_310 : zMl "ShadowHeirs" 310 yX11_bestToAsk := Or.inl (gw_4 (List.mem_of_getElem? (i := 225) (by decide +kernel)) rfl)
theorem fp_11_17 : zFp 11 17 .int := fun T N C h => by
  cases h
  exact ⟨rfl, by decide +kernel⟩
theorem fl_X11_46 : zFl "ShadowHeirs" 46 11 5 := ⟨RX11, TX11, 20, tyX11, rfl, by decide, rfl, by decide, rfl, clw_11, tyX11_ok, nmX11, Or.inl (gw_3 (List.mem_of_getElem? (i := 1) (by decide +kernel)) rfl)⟩
theorem zk_21 : zk 21 3 := by constructor <;> decide +kernel
theorem rf_0_5 : sRf 0 5 = 21 := by decide +kernel
theorem fl_X11_322 : zFl "ShadowHeirs" 322 3 1 := ⟨RX3, TX3, 3, tyX3, rfl, by decide, rfl, by decide, rfl, clw_3, tyX3_ok, nmX3, Or.inr ⟨"ShadowHeirs", (nw_2 (List.mem_of_getElem? (i := 83) (by decide +kernel)) rfl)⟩⟩
theorem zk_22 : zk 22 7 := by constructor <;> decide +kernel
theorem rf_21_1 : sRf 21 1 = 22 := by decide +kernel
theorem fl_X11_95 : zFl "ShadowHeirs" 95 11 13 := ⟨RX11, TX11, 20, tyX11, rfl, by decide, rfl, by decide, rfl, clw_11, tyX11_ok, nmX11, Or.inl (gw_3 (List.mem_of_getElem? (i := 9) (by decide +kernel)) rfl)⟩
theorem rf_0_13 : sRf 0 13 = 101 := by decide +kernel
theorem ml_X11_323 : zMl "ShadowHeirs" 323 yX7_copyFrom := Or.inl (gw_5 (List.mem_of_getElem? (i := 47) (by decide +kernel)) rfl)
set_option maxRecDepth 100000 in
theorem cal_X1_liveHours : zCal yX1_liveHours cX1_liveHours 7 (some .int) 3 := ⟨(gw_5 (List.mem_of_getElem? (i := 51) rfl) rfl), (gw_1 (List.mem_of_getElem? (i := 15) (by decide +kernel)) rfl), by decide +kernel⟩
theorem calv_X1_liveHours : zCalV yX1_liveHours := ⟨(gw_5 (List.mem_of_getElem? (i := 49) (by decide +kernel)) rfl), (gw_5 (List.mem_of_getElem? (i := 50) (by decide +kernel)) rfl)⟩
theorem ml_X11_325 : zMl "ShadowHeirs" 325 yX1_liveHours := Or.inl (gw_5 (List.mem_of_getElem? (i := 48) (by decide +kernel)) rfl)
theorem zk_25 : zk 25 13 := by constructor <;> decide +kernel
theorem rf_22_2 : sRf 22 2 = 25 := by decide +kernel
set_option maxRecDepth 100000 in
theorem cal_X8_personsMeant : zCal yX8_personsMeant cX8_personsMeant 5 (some .int) 1 := ⟨(gw_5 (List.mem_of_getElem? (i := 179) rfl) rfl), (gw_1 (List.mem_of_getElem? (i := 9) (by decide +kernel)) rfl), by decide +kernel⟩
theorem calv_X8_personsMeant : zCalV yX8_personsMeant := ⟨(gw_5 (List.mem_of_getElem? (i := 177) (by decide +kernel)) rfl), (gw_5 (List.mem_of_getElem? (i := 178) (by decide +kernel)) rfl)⟩
theorem ml_X11_361 : zMl "ShadowHeirs" 361 yX8_personsMeant := Or.inl (gw_5 (List.mem_of_getElem? (i := 176) (by decide +kernel)) rfl)
set_option maxRecDepth 100000 in
theorem cal_X11_placeOfBit : zCal yX11_placeOfBit cX11_placeOfBit 4 (some .int) 2 := ⟨(gw_5 (List.mem_of_getElem? (i := 195) rfl) rfl), (gw_1 (List.mem_of_getElem? (i := 1) (by decide +kernel)) rfl), by decide +kernel⟩
theorem sta_X11_placeOfBit : Cond.static yX11_placeOfBit ∈ gw_tbl := (gw_5 (List.mem_of_getElem? (i := 194) (by decide +kernel)) rfl)
theorem ml_X11_370 : zMl "ShadowHeirs" 370 yX11_placeOfBit := Or.inl (gw_5 (List.mem_of_getElem? (i := 193) (by decide +kernel)) rfl)
theorem ml_X0_51 : zMl "ShadowHeirs$Book" 51 yX6_step := Or.inl (gw_5 (List.mem_of_getElem? (i := 81) (by decide +kernel)) rfl)
set_option maxRecDepth 100000 in
theorem cal_X0_readLine : zCal yX0_readLine cX0_readLine 4 (some .boolean) 1 := ⟨(gw_5 (List.mem_of_getElem? (i := 85) rfl) rfl), (gw_1 (List.mem_of_getElem? (i := 12) (by decide +kernel)) rfl), by decide +kernel⟩
theorem calv_X0_readLine : zCalV yX0_readLine := ⟨(gw_5 (List.mem_of_getElem? (i := 84) (by decide +kernel)) rfl), (gw_s (y := yX0_readLine) (n := 10) (List.mem_of_getElem? (i := 25) (by decide +kernel)))⟩
theorem ml_X0_57 : zMl "ShadowHeirs$Book" 57 yX0_readLine := Or.inl (gw_5 (List.mem_of_getElem? (i := 82) (by decide +kernel)) rfl)
set_option maxRecDepth 100000 in
theorem cal_X6_wantSign : zCal yX6_wantSign cX6_wantSign 2 (some .boolean) 1 := ⟨(gw_3 (List.mem_of_getElem? (i := 170) rfl) rfl), (gw_1 (List.mem_of_getElem? (i := 2) (by decide +kernel)) rfl), by decide +kernel⟩
theorem calv_X6_wantSign : zCalV yX6_wantSign := ⟨(gw_3 (List.mem_of_getElem? (i := 168) (by decide +kernel)) rfl), (gw_3 (List.mem_of_getElem? (i := 169) (by decide +kernel)) rfl)⟩
theorem ml_X0_61 : zMl "ShadowHeirs$Book" 61 yX6_wantSign := Or.inl (gw_5 (List.mem_of_getElem? (i := 107) (by decide +kernel)) rfl)
theorem fp_0_4 : zFp 0 4 .int := fun T N C h => by
  cases h
  exact ⟨rfl, by decide +kernel⟩
theorem ml_X0_45 : zMl "ShadowHeirs$Book" 45 yX6_beginText := Or.inl (gw_5 (List.mem_of_getElem? (i := 80) (by decide +kernel)) rfl)
theorem fl_X0_29 : zFl "ShadowHeirs$Book" 29 0 6 := ⟨RX0, TX0, 10, tyX0, rfl, by decide, rfl, by decide, rfl, clw_0, tyX0_ok, nmX0, Or.inl (gw_2 (List.mem_of_getElem? (i := 142) (by decide +kernel)) rfl)⟩
theorem fl_X0_32 : zFl "ShadowHeirs$Book" 32 0 7 := ⟨RX0, TX0, 10, tyX0, rfl, by decide, rfl, by decide, rfl, clw_0, tyX0_ok, nmX0, Or.inl (gw_2 (List.mem_of_getElem? (i := 144) (by decide +kernel)) rfl)⟩
theorem fl_X0_35 : zFl "ShadowHeirs$Book" 35 0 8 := ⟨RX0, TX0, 10, tyX0, rfl, by decide, rfl, by decide, rfl, clw_0, tyX0_ok, nmX0, Or.inl (gw_2 (List.mem_of_getElem? (i := 146) (by decide +kernel)) rfl)⟩
theorem fp_0_8 : zFp 0 8 .int := fun T N C h => by
  cases h
  exact ⟨rfl, by decide +kernel⟩
theorem ml_X0_125 : zMl "ShadowHeirs$Book" 125 yX7_allWealth := Or.inl (gw_5 (List.mem_of_getElem? (i := 127) (by decide +kernel)) rfl)
theorem fl_X0_38 : zFl "ShadowHeirs$Book" 38 0 9 := ⟨RX0, TX0, 10, tyX0, rfl, by decide, rfl, by decide, rfl, clw_0, tyX0_ok, nmX0, Or.inl (gw_2 (List.mem_of_getElem? (i := 148) (by decide +kernel)) rfl)⟩
theorem fp_0_9 : zFp 0 9 .int := fun T N C h => by
  cases h
  exact ⟨rfl, by decide +kernel⟩
set_option maxRecDepth 100000 in
theorem cal_X0_liveLine : zCal yX0_liveLine cX0_liveLine 5 (some .int) 4 := ⟨(gw_5 (List.mem_of_getElem? (i := 114) rfl) rfl), (gw_1 (List.mem_of_getElem? (i := 12) (by decide +kernel)) rfl), by decide +kernel⟩
theorem sta_X0_liveLine : Cond.static yX0_liveLine ∈ gw_tbl := (gw_5 (List.mem_of_getElem? (i := 113) (by decide +kernel)) rfl)
theorem ml_X0_110 : zMl "ShadowHeirs$Book" 110 yX0_liveLine := Or.inl (gw_5 (List.mem_of_getElem? (i := 112) (by decide +kernel)) rfl)
theorem fp_0_6 : zFp 0 6 .int := fun T N C h => by
  cases h
  exact ⟨rfl, by decide +kernel⟩
theorem fp_0_7 : zFp 0 7 .int := fun T N C h => by
  cases h
  exact ⟨rfl, by decide +kernel⟩
theorem fl_X0_25 : zFl "ShadowHeirs$Book" 25 0 5 := ⟨RX0, TX0, 10, tyX0, rfl, by decide, rfl, by decide, rfl, clw_0, tyX0_ok, nmX0, Or.inl (gw_2 (List.mem_of_getElem? (i := 140) (by decide +kernel)) rfl)⟩
theorem fp_0_5 : zFp 0 5 .boolean := fun T N C h => by
  cases h
  exact ⟨rfl, by decide +kernel⟩
set_option maxRecDepth 100000 in
theorem cal_X4_readGround : zCal yX4_readGround cX4_readGround 1 (some .boolean) 0 := ⟨(gw_3 (List.mem_of_getElem? (i := 108) rfl) rfl), (gw_1 (List.mem_of_getElem? (i := 11) (by decide +kernel)) rfl), by decide +kernel⟩
theorem calv_X4_readGround : zCalV yX4_readGround := ⟨(gw_3 (List.mem_of_getElem? (i := 107) (by decide +kernel)) rfl), (gw_s (y := yX4_readGround) (n := 7) (List.mem_of_getElem? (i := 3) (by decide +kernel)))⟩
theorem ml_X4_79 : zMl "ShadowHeirs$IslandText" 79 yX4_readGround := Or.inl (gw_3 (List.mem_of_getElem? (i := 105) (by decide +kernel)) rfl)
set_option maxRecDepth 100000 in
theorem cal_X4_readStones : zCal yX4_readStones cX4_readStones 1 (some .boolean) 0 := ⟨(gw_3 (List.mem_of_getElem? (i := 122) rfl) rfl), (gw_1 (List.mem_of_getElem? (i := 11) (by decide +kernel)) rfl), by decide +kernel⟩
theorem calv_X4_readStones : zCalV yX4_readStones := ⟨(gw_3 (List.mem_of_getElem? (i := 121) (by decide +kernel)) rfl), (gw_s (y := yX4_readStones) (n := 7) (List.mem_of_getElem? (i := 4) (by decide +kernel)))⟩
theorem ml_X4_82 : zMl "ShadowHeirs$IslandText" 82 yX4_readStones := Or.inl (gw_3 (List.mem_of_getElem? (i := 119) (by decide +kernel)) rfl)
set_option maxRecDepth 100000 in
theorem cal_X4_readHouse : zCal yX4_readHouse cX4_readHouse 2 (some .boolean) 0 := ⟨(gw_3 (List.mem_of_getElem? (i := 138) rfl) rfl), (gw_1 (List.mem_of_getElem? (i := 11) (by decide +kernel)) rfl), by decide +kernel⟩
theorem calv_X4_readHouse : zCalV yX4_readHouse := ⟨(gw_3 (List.mem_of_getElem? (i := 137) (by decide +kernel)) rfl), (gw_s (y := yX4_readHouse) (n := 7) (List.mem_of_getElem? (i := 6) (by decide +kernel)))⟩
theorem ml_X4_85 : zMl "ShadowHeirs$IslandText" 85 yX4_readHouse := Or.inl (gw_3 (List.mem_of_getElem? (i := 135) (by decide +kernel)) rfl)
set_option maxRecDepth 100000 in
theorem cal_X4_readPerson : zCal yX4_readPerson cX4_readPerson 2 (some .boolean) 0 := ⟨(gw_3 (List.mem_of_getElem? (i := 158) rfl) rfl), (gw_1 (List.mem_of_getElem? (i := 11) (by decide +kernel)) rfl), by decide +kernel⟩
theorem calv_X4_readPerson : zCalV yX4_readPerson := ⟨(gw_3 (List.mem_of_getElem? (i := 157) (by decide +kernel)) rfl), (gw_s (y := yX4_readPerson) (n := 7) (List.mem_of_getElem? (i := 8) (by decide +kernel)))⟩
theorem ml_X4_88 : zMl "ShadowHeirs$IslandText" 88 yX4_readPerson := Or.inl (gw_3 (List.mem_of_getElem? (i := 155) (by decide +kernel)) rfl)
set_option maxRecDepth 100000 in
theorem cal_X4_readSun : zCal yX4_readSun cX4_readSun 2 (some .boolean) 0 := ⟨(gw_3 (List.mem_of_getElem? (i := 162) rfl) rfl), (gw_1 (List.mem_of_getElem? (i := 11) (by decide +kernel)) rfl), by decide +kernel⟩
theorem calv_X4_readSun : zCalV yX4_readSun := ⟨(gw_3 (List.mem_of_getElem? (i := 161) (by decide +kernel)) rfl), (gw_s (y := yX4_readSun) (n := 7) (List.mem_of_getElem? (i := 9) (by decide +kernel)))⟩
theorem ml_X4_91 : zMl "ShadowHeirs$IslandText" 91 yX4_readSun := Or.inl (gw_3 (List.mem_of_getElem? (i := 159) (by decide +kernel)) rfl)
set_option maxRecDepth 100000 in
theorem cal_X0_readLines : zCal yX0_readLines cX0_readLines 3 none 1 := ⟨(gw_5 (List.mem_of_getElem? (i := 79) rfl) rfl), (gw_1 (List.mem_of_getElem? (i := 12) (by decide +kernel)) rfl), by decide +kernel⟩
theorem calv_X0_readLines : zCalV yX0_readLines := ⟨(gw_5 (List.mem_of_getElem? (i := 77) (by decide +kernel)) rfl), (gw_5 (List.mem_of_getElem? (i := 78) (by decide +kernel)) rfl)⟩
theorem ml_X11_329 : zMl "ShadowHeirs" 329 yX0_readLines := Or.inl (gw_5 (List.mem_of_getElem? (i := 76) (by decide +kernel)) rfl)
set_option maxRecDepth 100000 in
theorem cal_X0_liveOn : zCal yX0_liveOn cX0_liveOn 3 none 1 := ⟨(gw_5 (List.mem_of_getElem? (i := 111) rfl) rfl), (gw_1 (List.mem_of_getElem? (i := 12) (by decide +kernel)) rfl), by decide +kernel⟩
theorem calv_X0_liveOn : zCalV yX0_liveOn := ⟨(gw_5 (List.mem_of_getElem? (i := 109) (by decide +kernel)) rfl), (gw_5 (List.mem_of_getElem? (i := 110) (by decide +kernel)) rfl)⟩
theorem ml_X11_332 : zMl "ShadowHeirs" 332 yX0_liveOn := Or.inl (gw_5 (List.mem_of_getElem? (i := 108) (by decide +kernel)) rfl)
theorem fl_X4_65 : zFl "ShadowHeirs$IslandText" 65 6 6 := ⟨RX6, TX6, 11, tyX6, rfl, by decide, rfl, by decide, rfl, clw_6, tyX6_ok, nmX6, Or.inr ⟨"ShadowHeirs", (nw_1 (List.mem_of_getElem? (i := 104) (by decide +kernel)) rfl)⟩⟩
theorem ml_X4_62 : zMl "ShadowHeirs$IslandText" 62 yX6_step := Or.inl (gw_3 (List.mem_of_getElem? (i := 93) (by decide +kernel)) rfl)
set_option maxRecDepth 100000 in
theorem cal_X4_readLine : zCal yX4_readLine cX4_readLine 1 (some .boolean) 0 := ⟨(gw_3 (List.mem_of_getElem? (i := 104) rfl) rfl), (gw_1 (List.mem_of_getElem? (i := 11) (by decide +kernel)) rfl), by decide +kernel⟩
theorem calv_X4_readLine : zCalV yX4_readLine := ⟨(gw_3 (List.mem_of_getElem? (i := 103) (by decide +kernel)) rfl), (gw_s (y := yX4_readLine) (n := 7) (List.mem_of_getElem? (i := 2) (by decide +kernel)))⟩
theorem ml_X4_68 : zMl "ShadowHeirs$IslandText" 68 yX4_readLine := Or.inl (gw_3 (List.mem_of_getElem? (i := 101) (by decide +kernel)) rfl)
theorem ml_X4_72 : zMl "ShadowHeirs$IslandText" 72 yX6_wantSign := Or.inl (gw_3 (List.mem_of_getElem? (i := 167) (by decide +kernel)) rfl)
theorem ml_X4_52 : zMl "ShadowHeirs$IslandText" 52 yX6_beginText := Or.inl (gw_3 (List.mem_of_getElem? (i := 81) (by decide +kernel)) rfl)
set_option maxRecDepth 100000 in
theorem cal_X5_clear : zCal yX5_clear cX5_clear 1 none 0 := ⟨(gw_3 (List.mem_of_getElem? (i := 88) rfl) rfl), (gw_1 (List.mem_of_getElem? (i := 7) (by decide +kernel)) rfl), by decide +kernel⟩
theorem calv_X5_clear : zCalV yX5_clear := ⟨(gw_3 (List.mem_of_getElem? (i := 86) (by decide +kernel)) rfl), (gw_3 (List.mem_of_getElem? (i := 87) (by decide +kernel)) rfl)⟩
theorem ml_X4_58 : zMl "ShadowHeirs$IslandText" 58 yX5_clear := Or.inl (gw_3 (List.mem_of_getElem? (i := 85) (by decide +kernel)) rfl)
set_option maxRecDepth 100000 in
theorem cal_X7_clear : zCal yX7_clear cX7_clear 2 none 0 := ⟨(gw_3 (List.mem_of_getElem? (i := 92) rfl) rfl), (gw_1 (List.mem_of_getElem? (i := 8) (by decide +kernel)) rfl), by decide +kernel⟩
theorem calv_X7_clear : zCalV yX7_clear := ⟨(gw_3 (List.mem_of_getElem? (i := 90) (by decide +kernel)) rfl), (gw_3 (List.mem_of_getElem? (i := 91) (by decide +kernel)) rfl)⟩
theorem ml_X4_61 : zMl "ShadowHeirs$IslandText" 61 yX7_clear := Or.inl (gw_3 (List.mem_of_getElem? (i := 89) (by decide +kernel)) rfl)
theorem fl_X11_54 : zFl "ShadowHeirs" 54 11 6 := ⟨RX11, TX11, 20, tyX11, rfl, by decide, rfl, by decide, rfl, clw_11, tyX11_ok, nmX11, Or.inl (gw_3 (List.mem_of_getElem? (i := 2) (by decide +kernel)) rfl)⟩
theorem rf_0_6 : sRf 0 6 = 27 := by decide +kernel
theorem fl_X11_144 : zFl "ShadowHeirs" 144 4 3 := ⟨RX4, TX4, 7, tyX4, rfl, by decide, rfl, by decide, rfl, clw_4, tyX4_ok, nmX4, Or.inr ⟨"ShadowHeirs", (nw_2 (List.mem_of_getElem? (i := 110) (by decide +kernel)) rfl)⟩⟩
set_option maxRecDepth 100000 in
theorem cal_X4_readLines : zCal yX4_readLines cX4_readLines 2 (some .int) 0 := ⟨(gw_3 (List.mem_of_getElem? (i := 80) rfl) rfl), (gw_1 (List.mem_of_getElem? (i := 11) (by decide +kernel)) rfl), by decide +kernel⟩
theorem calv_X4_readLines : zCalV yX4_readLines := ⟨(gw_3 (List.mem_of_getElem? (i := 78) (by decide +kernel)) rfl), (gw_3 (List.mem_of_getElem? (i := 79) (by decide +kernel)) rfl)⟩
theorem ml_X11_133 : zMl "ShadowHeirs" 133 yX4_readLines := Or.inl (gw_3 (List.mem_of_getElem? (i := 77) (by decide +kernel)) rfl)
