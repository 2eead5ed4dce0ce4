theorem m1_0 : (Cond.initialized R_LW : Cond) ∈ gw := gw_1 (k := 0) rfl rfl
theorem m1_1 : (Cond.initialized R_BL : Cond) ∈ gw := gw_1 (k := 1) rfl rfl
theorem m1_2 : (Cond.initialized R_TX : Cond) ∈ gw := gw_1 (k := 2) rfl rfl
theorem m1_3 : (Cond.initialized R_PR : Cond) ∈ gw := gw_1 (k := 3) rfl rfl
theorem m1_4 : (Cond.initialized R_RS : Cond) ∈ gw := gw_1 (k := 4) rfl rfl
theorem m1_5 : (Cond.initialized R_IS : Cond) ∈ gw := gw_1 (k := 5) rfl rfl
theorem m1_6 : (Cond.initialized R_EX : Cond) ∈ gw := gw_1 (k := 6) rfl rfl
theorem m1_7 : (Cond.initialized R_RU : Cond) ∈ gw := gw_1 (k := 7) rfl rfl
theorem m1_8 : (Cond.initialized R_SQ : Cond) ∈ gw := gw_1 (k := 8) rfl rfl
theorem m1_9 : (Cond.initialized R_WK : Cond) ∈ gw := gw_1 (k := 9) rfl rfl
theorem m1_10 : (Cond.initialized R_BR : Cond) ∈ gw := gw_1 (k := 10) rfl rfl
theorem m1_11 : (Cond.initialized R_LN : Cond) ∈ gw := gw_1 (k := 11) rfl rfl
theorem m1_12 : (Cond.initialized R_MD : Cond) ∈ gw := gw_1 (k := 12) rfl rfl
theorem m1_13 : (Cond.initialized "java/lang/Throwable" : Cond) ∈ gw := gw_1 (k := 13) rfl rfl
theorem m1_14 : (Cond.initialized "java/lang/Exception" : Cond) ∈ gw := gw_1 (k := 14) rfl rfl
theorem m1_15 : (Cond.initialized "java/lang/RuntimeException" : Cond) ∈ gw := gw_1 (k := 15) rfl rfl
theorem m1_16 : (Cond.initialized "java/lang/IllegalArgumentException" : Cond) ∈ gw := gw_1 (k := 16) rfl rfl
theorem m1_17 : (Cond.initialized "java/lang/IllegalStateException" : Cond) ∈ gw := gw_1 (k := 17) rfl rfl
theorem m1_18 : (Cond.initialized "java/lang/Math" : Cond) ∈ gw := gw_1 (k := 18) rfl rfl
theorem m1_19 : (Cond.initialized "java/lang/IndexOutOfBoundsException" : Cond) ∈ gw := gw_1 (k := 19) rfl rfl
theorem m1_20 : (Cond.classLink R_LW 8 R_BL : Cond) ∈ gw := gw_1 (k := 20) rfl rfl
theorem m1_21 : (Cond.instantiable R_BL 7 : Cond) ∈ gw := gw_1 (k := 21) rfl rfl
theorem m1_22 : (Cond.methodLink R_LW 56 y_BL_init : Cond) ∈ gw := gw_1 (k := 22) rfl rfl
theorem m1_23 : (Cond.instanceMethod y_BL_init : Cond) ∈ gw := gw_1 (k := 23) rfl rfl
theorem m1_24 : (Cond.code y_BL_init prog_1_method_1_code 1 none : Cond) ∈ gw := gw_1 (k := 24) rfl rfl
theorem m1_25 : (Cond.methodLink R_BL 3 objectInit : Cond) ∈ gw := gw_1 (k := 25) rfl rfl
theorem m1_26 : (Cond.instanceMethod objectInit : Cond) ∈ gw := gw_1 (k := 26) rfl rfl
theorem m1_27 : (Cond.code objectInit object_method_1_code 1 none : Cond) ∈ gw := gw_1 (k := 27) rfl rfl
theorem m1_28 : (Cond.classLink R_BL 9 R_TX : Cond) ∈ gw := gw_1 (k := 28) rfl rfl
theorem m1_29 : (Cond.instantiable R_TX 10 : Cond) ∈ gw := gw_1 (k := 29) rfl rfl
theorem m1_31 : (Cond.instanceMethod y_TX_init : Cond) ∈ gw := gw_1 (k := 31) rfl rfl
theorem m1_32 : (Cond.code y_TX_init prog_10_method_1_code 1 none : Cond) ∈ gw := gw_1 (k := 32) rfl rfl
theorem m1_33 : (Cond.methodLink R_TX 3 objectInit : Cond) ∈ gw := gw_1 (k := 33) rfl rfl
theorem m1_34 : (Cond.fieldLink R_TX 9 R_TX "characters" "[I" : Cond) ∈ gw := gw_1 (k := 34) rfl rfl
theorem m1_35 : (Cond.fieldLink R_BR 52 R_TX "characters" "[I" : Cond) ∈ gw := gw_1 (k := 35) rfl rfl
theorem m1_36 : (Cond.fieldLink R_BL 187 R_TX "characters" "[I" : Cond) ∈ gw := gw_1 (k := 36) rfl rfl
theorem m1_37 : (Cond.fieldLink R_TX 15 R_TX "firsts" "[I" : Cond) ∈ gw := gw_1 (k := 37) rfl rfl
theorem m1_38 : (Cond.fieldLink R_IS 24 R_TX "firsts" "[I" : Cond) ∈ gw := gw_1 (k := 38) rfl rfl
theorem m1_39 : (Cond.fieldLink R_EX 47 R_TX "firsts" "[I" : Cond) ∈ gw := gw_1 (k := 39) rfl rfl
theorem m1_40 : (Cond.fieldLink R_RS 112 R_TX "firsts" "[I" : Cond) ∈ gw := gw_1 (k := 40) rfl rfl
theorem m1_41 : (Cond.fieldLink R_LN 46 R_TX "firsts" "[I" : Cond) ∈ gw := gw_1 (k := 41) rfl rfl
theorem m1_42 : (Cond.fieldLink R_RU 44 R_TX "firsts" "[I" : Cond) ∈ gw := gw_1 (k := 42) rfl rfl
theorem m1_43 : (Cond.fieldLink R_WK 57 R_TX "firsts" "[I" : Cond) ∈ gw := gw_1 (k := 43) rfl rfl
theorem m1_44 : (Cond.fieldLink R_TX 18 R_TX "kinds" "[I" : Cond) ∈ gw := gw_1 (k := 44) rfl rfl
theorem m1_45 : (Cond.fieldLink R_SQ 39 R_TX "kinds" "[I" : Cond) ∈ gw := gw_1 (k := 45) rfl rfl
theorem m1_46 : (Cond.fieldLink R_EX 87 R_TX "kinds" "[I" : Cond) ∈ gw := gw_1 (k := 46) rfl rfl
theorem m1_47 : (Cond.fieldLink R_RS 137 R_TX "kinds" "[I" : Cond) ∈ gw := gw_1 (k := 47) rfl rfl
theorem m1_48 : (Cond.fieldLink R_BL 132 R_TX "kinds" "[I" : Cond) ∈ gw := gw_1 (k := 48) rfl rfl
theorem m1_49 : (Cond.fieldLink R_TX 21 R_TX "levels" "[I" : Cond) ∈ gw := gw_1 (k := 49) rfl rfl
theorem m1_50 : (Cond.fieldLink R_RU 35 R_TX "levels" "[I" : Cond) ∈ gw := gw_1 (k := 50) rfl rfl
theorem m1_51 : (Cond.fieldLink R_LN 43 R_TX "levels" "[I" : Cond) ∈ gw := gw_1 (k := 51) rfl rfl
theorem m1_52 : (Cond.fieldLink R_EX 84 R_TX "levels" "[I" : Cond) ∈ gw := gw_1 (k := 52) rfl rfl
theorem m1_53 : (Cond.fieldLink R_RS 134 R_TX "levels" "[I" : Cond) ∈ gw := gw_1 (k := 53) rfl rfl
theorem m1_54 : (Cond.fieldLink R_BL 129 R_TX "levels" "[I" : Cond) ∈ gw := gw_1 (k := 54) rfl rfl
theorem m1_55 : (Cond.fieldLink R_TX 24 R_TX "matches" "[I" : Cond) ∈ gw := gw_1 (k := 55) rfl rfl
theorem m1_56 : (Cond.fieldLink R_IS 19 R_TX "matches" "[I" : Cond) ∈ gw := gw_1 (k := 56) rfl rfl
theorem m1_57 : (Cond.fieldLink R_RU 47 R_TX "matches" "[I" : Cond) ∈ gw := gw_1 (k := 57) rfl rfl
theorem m1_58 : (Cond.fieldLink R_BL 135 R_TX "matches" "[I" : Cond) ∈ gw := gw_1 (k := 58) rfl rfl
theorem m1_59 : (Cond.fieldLink R_TX 27 R_TX "count" "I" : Cond) ∈ gw := gw_1 (k := 59) rfl rfl
theorem m1_60 : (Cond.fieldLink R_RS 107 R_TX "count" "I" : Cond) ∈ gw := gw_1 (k := 60) rfl rfl
theorem m1_61 : (Cond.fieldLink R_BL 86 R_TX "count" "I" : Cond) ∈ gw := gw_1 (k := 61) rfl rfl
theorem m1_62 : (Cond.fieldLink R_LN 72 R_TX "count" "I" : Cond) ∈ gw := gw_1 (k := 62) rfl rfl
theorem m1_63 : (Cond.fieldLink R_TX 31 R_TX "rangeFirsts" "[I" : Cond) ∈ gw := gw_1 (k := 63) rfl rfl
theorem m1_64 : (Cond.fieldLink R_TX 34 R_TX "rangeLasts" "[I" : Cond) ∈ gw := gw_1 (k := 64) rfl rfl
theorem m1_65 : (Cond.fieldLink R_TX 37 R_TX "rangeKinds" "[I" : Cond) ∈ gw := gw_1 (k := 65) rfl rfl
theorem m1_66 : (Cond.fieldLink R_TX 40 R_TX "rangeCount" "I" : Cond) ∈ gw := gw_1 (k := 66) rfl rfl
theorem m1_67 : (Cond.fieldLink R_BL 64 R_TX "rangeCount" "I" : Cond) ∈ gw := gw_1 (k := 67) rfl rfl
theorem m1_68 : (Cond.laysFinal R_TX R_TX "characters" "[I" : Cond) ∈ gw := gw_1 (k := 68) rfl rfl
theorem m1_70 : (Cond.laysFinal R_TX R_TX "firsts" "[I" : Cond) ∈ gw := gw_1 (k := 70) rfl rfl
theorem m1_72 : (Cond.laysFinal R_TX R_TX "kinds" "[I" : Cond) ∈ gw := gw_1 (k := 72) rfl rfl
theorem m1_74 : (Cond.laysFinal R_TX R_TX "levels" "[I" : Cond) ∈ gw := gw_1 (k := 74) rfl rfl
theorem m1_76 : (Cond.laysFinal R_TX R_TX "matches" "[I" : Cond) ∈ gw := gw_1 (k := 76) rfl rfl
theorem m1_78 : (Cond.lays R_TX R_TX "count" "I" : Cond) ∈ gw := gw_1 (k := 78) rfl rfl
theorem m1_80 : (Cond.laysFinal R_TX R_TX "rangeFirsts" "[I" : Cond) ∈ gw := gw_1 (k := 80) rfl rfl
theorem m1_82 : (Cond.laysFinal R_TX R_TX "rangeLasts" "[I" : Cond) ∈ gw := gw_1 (k := 82) rfl rfl
theorem m1_84 : (Cond.laysFinal R_TX R_TX "rangeKinds" "[I" : Cond) ∈ gw := gw_1 (k := 84) rfl rfl
theorem m1_86 : (Cond.lays R_TX R_TX "rangeCount" "I" : Cond) ∈ gw := gw_1 (k := 86) rfl rfl
theorem m1_89 : (Cond.arrayClass FieldType.int : Cond) ∈ gw := gw_1 (k := 89) rfl rfl
theorem m1_90 : (Cond.classLink R_BL 16 R_PR : Cond) ∈ gw := gw_1 (k := 90) rfl rfl
theorem m1_91 : (Cond.instantiable R_PR 3 : Cond) ∈ gw := gw_1 (k := 91) rfl rfl
theorem m1_93 : (Cond.instanceMethod y_PR_init : Cond) ∈ gw := gw_1 (k := 93) rfl rfl
theorem m1_94 : (Cond.code y_PR_init prog_6_method_1_code 1 none : Cond) ∈ gw := gw_1 (k := 94) rfl rfl
theorem m1_95 : (Cond.methodLink R_PR 3 objectInit : Cond) ∈ gw := gw_1 (k := 95) rfl rfl
theorem m1_96 : (Cond.fieldLink R_PR 9 R_PR "ones" "[I" : Cond) ∈ gw := gw_1 (k := 96) rfl rfl
theorem m1_97 : (Cond.fieldLink R_PR 15 R_PR "others" "[I" : Cond) ∈ gw := gw_1 (k := 97) rfl rfl
theorem m1_98 : (Cond.fieldLink R_PR 18 R_PR "count" "I" : Cond) ∈ gw := gw_1 (k := 98) rfl rfl
theorem m1_99 : (Cond.fieldLink R_BL 174 R_PR "count" "I" : Cond) ∈ gw := gw_1 (k := 99) rfl rfl
theorem m1_100 : (Cond.laysFinal R_PR R_PR "ones" "[I" : Cond) ∈ gw := gw_1 (k := 100) rfl rfl
theorem m1_102 : (Cond.laysFinal R_PR R_PR "others" "[I" : Cond) ∈ gw := gw_1 (k := 102) rfl rfl
theorem m1_104 : (Cond.lays R_PR R_PR "count" "I" : Cond) ∈ gw := gw_1 (k := 104) rfl rfl
theorem m1_107 : (Cond.classLink R_BL 26 R_RS : Cond) ∈ gw := gw_1 (k := 107) rfl rfl
theorem m1_108 : (Cond.instantiable R_RS 12 : Cond) ∈ gw := gw_1 (k := 108) rfl rfl
theorem m1_109 : (Cond.methodLink R_BL 28 y_RS_init : Cond) ∈ gw := gw_1 (k := 109) rfl rfl
theorem m1_110 : (Cond.instanceMethod y_RS_init : Cond) ∈ gw := gw_1 (k := 110) rfl rfl
theorem m1_111 : (Cond.code y_RS_init prog_7_method_1_code 3 none : Cond) ∈ gw := gw_1 (k := 111) rfl rfl
theorem m1_112 : (Cond.methodLink R_RS 3 objectInit : Cond) ∈ gw := gw_1 (k := 112) rfl rfl
theorem m1_113 : (Cond.classLink R_RS 32 R_IS : Cond) ∈ gw := gw_1 (k := 113) rfl rfl
theorem m1_114 : (Cond.instantiable R_IS 2 : Cond) ∈ gw := gw_1 (k := 114) rfl rfl
theorem m1_115 : (Cond.methodLink R_RS 34 y_IS_init : Cond) ∈ gw := gw_1 (k := 115) rfl rfl
theorem m1_116 : (Cond.instanceMethod y_IS_init : Cond) ∈ gw := gw_1 (k := 116) rfl rfl
theorem m1_117 : (Cond.code y_IS_init prog_4_method_1_code 2 none : Cond) ∈ gw := gw_1 (k := 117) rfl rfl
theorem m1_118 : (Cond.methodLink R_IS 3 objectInit : Cond) ∈ gw := gw_1 (k := 118) rfl rfl
theorem m1_119 : (Cond.fieldLink R_IS 15 R_IS "text" "LBidiLevels$Text;" : Cond) ∈ gw := gw_1 (k := 119) rfl rfl
theorem m1_120 : (Cond.fieldLink R_IS 9 R_IS "waiting" "[I" : Cond) ∈ gw := gw_1 (k := 120) rfl rfl
theorem m1_121 : (Cond.laysFinal R_IS R_IS "text" "LBidiLevels$Text;" : Cond) ∈ gw := gw_1 (k := 121) rfl rfl
theorem m1_123 : (Cond.laysFinal R_IS R_IS "waiting" "[I" : Cond) ∈ gw := gw_1 (k := 123) rfl rfl
theorem m1_126 : (Cond.classLink R_RS 41 R_EX : Cond) ∈ gw := gw_1 (k := 126) rfl rfl
theorem m1_127 : (Cond.instantiable R_EX 9 : Cond) ∈ gw := gw_1 (k := 127) rfl rfl
theorem m1_128 : (Cond.methodLink R_RS 43 y_EX_init : Cond) ∈ gw := gw_1 (k := 128) rfl rfl
theorem m1_129 : (Cond.instanceMethod y_EX_init : Cond) ∈ gw := gw_1 (k := 129) rfl rfl
theorem m1_130 : (Cond.code y_EX_init prog_3_method_1_code 3 none : Cond) ∈ gw := gw_1 (k := 130) rfl rfl
theorem m1_131 : (Cond.methodLink R_EX 3 objectInit : Cond) ∈ gw := gw_1 (k := 131) rfl rfl
theorem m1_132 : (Cond.fieldLink R_EX 35 R_EX "text" "LBidiLevels$Text;" : Cond) ∈ gw := gw_1 (k := 132) rfl rfl
theorem m1_133 : (Cond.fieldLink R_EX 39 R_EX "isolates" "LBidiLevels$Isolates;" : Cond) ∈ gw := gw_1 (k := 133) rfl rfl
theorem m1_134 : (Cond.fieldLink R_EX 9 R_EX "entryLevels" "[I" : Cond) ∈ gw := gw_1 (k := 134) rfl rfl
theorem m1_135 : (Cond.fieldLink R_EX 15 R_EX "entryOverrides" "[I" : Cond) ∈ gw := gw_1 (k := 135) rfl rfl
theorem m1_136 : (Cond.fieldLink R_EX 18 R_EX "entryIsolates" "[Z" : Cond) ∈ gw := gw_1 (k := 136) rfl rfl
theorem m1_137 : (Cond.fieldLink R_EX 22 R_EX "top" "I" : Cond) ∈ gw := gw_1 (k := 137) rfl rfl
theorem m1_138 : (Cond.fieldLink R_EX 26 R_EX "lostIsolates" "I" : Cond) ∈ gw := gw_1 (k := 138) rfl rfl
theorem m1_139 : (Cond.fieldLink R_EX 29 R_EX "lostEmbeddings" "I" : Cond) ∈ gw := gw_1 (k := 139) rfl rfl
theorem m1_140 : (Cond.fieldLink R_EX 32 R_EX "openIsolates" "I" : Cond) ∈ gw := gw_1 (k := 140) rfl rfl
theorem m1_141 : (Cond.laysFinal R_EX R_EX "text" "LBidiLevels$Text;" : Cond) ∈ gw := gw_1 (k := 141) rfl rfl
theorem m1_143 : (Cond.laysFinal R_EX R_EX "isolates" "LBidiLevels$Isolates;" : Cond) ∈ gw := gw_1 (k := 143) rfl rfl
theorem m1_145 : (Cond.laysFinal R_EX R_EX "entryLevels" "[I" : Cond) ∈ gw := gw_1 (k := 145) rfl rfl
theorem m1_147 : (Cond.laysFinal R_EX R_EX "entryOverrides" "[I" : Cond) ∈ gw := gw_1 (k := 147) rfl rfl
theorem m1_149 : (Cond.laysFinal R_EX R_EX "entryIsolates" "[Z" : Cond) ∈ gw := gw_1 (k := 149) rfl rfl
theorem m1_151 : (Cond.lays R_EX R_EX "top" "I" : Cond) ∈ gw := gw_1 (k := 151) rfl rfl
theorem m1_153 : (Cond.lays R_EX R_EX "lostIsolates" "I" : Cond) ∈ gw := gw_1 (k := 153) rfl rfl
theorem m1_155 : (Cond.lays R_EX R_EX "lostEmbeddings" "I" : Cond) ∈ gw := gw_1 (k := 155) rfl rfl
theorem m1_157 : (Cond.lays R_EX R_EX "openIsolates" "I" : Cond) ∈ gw := gw_1 (k := 157) rfl rfl
theorem m1_160 : (Cond.arrayClass FieldType.boolean : Cond) ∈ gw := gw_1 (k := 160) rfl rfl
theorem m1_161 : (Cond.classLink R_RS 50 R_RU : Cond) ∈ gw := gw_1 (k := 161) rfl rfl
theorem m1_162 : (Cond.instantiable R_RU 7 : Cond) ∈ gw := gw_1 (k := 162) rfl rfl
theorem m1_163 : (Cond.methodLink R_RS 52 y_RU_init : Cond) ∈ gw := gw_1 (k := 163) rfl rfl
theorem m1_164 : (Cond.instanceMethod y_RU_init : Cond) ∈ gw := gw_1 (k := 164) rfl rfl
theorem m1_165 : (Cond.code y_RU_init prog_8_method_1_code 2 none : Cond) ∈ gw := gw_1 (k := 165) rfl rfl
theorem m1_166 : (Cond.methodLink R_RU 3 objectInit : Cond) ∈ gw := gw_1 (k := 166) rfl rfl
theorem m1_167 : (Cond.fieldLink R_RU 31 R_RU "text" "LBidiLevels$Text;" : Cond) ∈ gw := gw_1 (k := 167) rfl rfl
theorem m1_168 : (Cond.fieldLink R_RU 9 R_RU "left" "[I" : Cond) ∈ gw := gw_1 (k := 168) rfl rfl
theorem m1_169 : (Cond.fieldLink R_RU 15 R_RU "leftCount" "I" : Cond) ∈ gw := gw_1 (k := 169) rfl rfl
theorem m1_170 : (Cond.fieldLink R_RU 19 R_RU "runBegins" "[I" : Cond) ∈ gw := gw_1 (k := 170) rfl rfl
theorem m1_171 : (Cond.fieldLink R_RU 22 R_RU "runEnds" "[I" : Cond) ∈ gw := gw_1 (k := 171) rfl rfl
theorem m1_172 : (Cond.fieldLink R_RU 25 R_RU "runOf" "[I" : Cond) ∈ gw := gw_1 (k := 172) rfl rfl
theorem m1_173 : (Cond.fieldLink R_RU 28 R_RU "count" "I" : Cond) ∈ gw := gw_1 (k := 173) rfl rfl
theorem m1_174 : (Cond.fieldLink R_RS 115 R_RU "count" "I" : Cond) ∈ gw := gw_1 (k := 174) rfl rfl
theorem m1_175 : (Cond.laysFinal R_RU R_RU "text" "LBidiLevels$Text;" : Cond) ∈ gw := gw_1 (k := 175) rfl rfl
theorem m1_177 : (Cond.laysFinal R_RU R_RU "left" "[I" : Cond) ∈ gw := gw_1 (k := 177) rfl rfl
theorem m1_179 : (Cond.lays R_RU R_RU "leftCount" "I" : Cond) ∈ gw := gw_1 (k := 179) rfl rfl
theorem m1_181 : (Cond.laysFinal R_RU R_RU "runBegins" "[I" : Cond) ∈ gw := gw_1 (k := 181) rfl rfl
theorem m1_183 : (Cond.laysFinal R_RU R_RU "runEnds" "[I" : Cond) ∈ gw := gw_1 (k := 183) rfl rfl
theorem m1_185 : (Cond.laysFinal R_RU R_RU "runOf" "[I" : Cond) ∈ gw := gw_1 (k := 185) rfl rfl
theorem m1_187 : (Cond.lays R_RU R_RU "count" "I" : Cond) ∈ gw := gw_1 (k := 187) rfl rfl
theorem m1_190 : (Cond.classLink R_RS 57 R_SQ : Cond) ∈ gw := gw_1 (k := 190) rfl rfl
theorem m1_191 : (Cond.instantiable R_SQ 7 : Cond) ∈ gw := gw_1 (k := 191) rfl rfl
theorem m1_192 : (Cond.methodLink R_RS 59 y_SQ_init : Cond) ∈ gw := gw_1 (k := 192) rfl rfl
theorem m1_193 : (Cond.instanceMethod y_SQ_init : Cond) ∈ gw := gw_1 (k := 193) rfl rfl
theorem m1_194 : (Cond.code y_SQ_init prog_9_method_1_code 2 none : Cond) ∈ gw := gw_1 (k := 194) rfl rfl
theorem m1_195 : (Cond.methodLink R_SQ 3 objectInit : Cond) ∈ gw := gw_1 (k := 195) rfl rfl
theorem m1_196 : (Cond.fieldLink R_SQ 31 R_SQ "text" "LBidiLevels$Text;" : Cond) ∈ gw := gw_1 (k := 196) rfl rfl
theorem m1_197 : (Cond.fieldLink R_SQ 9 R_SQ "positions" "[I" : Cond) ∈ gw := gw_1 (k := 197) rfl rfl
theorem m1_198 : (Cond.fieldLink R_BR 57 R_SQ "positions" "[I" : Cond) ∈ gw := gw_1 (k := 198) rfl rfl
theorem m1_199 : (Cond.fieldLink R_WK 62 R_SQ "positions" "[I" : Cond) ∈ gw := gw_1 (k := 199) rfl rfl
theorem m1_200 : (Cond.fieldLink R_SQ 15 R_SQ "now" "[I" : Cond) ∈ gw := gw_1 (k := 200) rfl rfl
theorem m1_201 : (Cond.fieldLink R_WK 46 R_SQ "now" "[I" : Cond) ∈ gw := gw_1 (k := 201) rfl rfl
theorem m1_202 : (Cond.fieldLink R_BR 49 R_SQ "now" "[I" : Cond) ∈ gw := gw_1 (k := 202) rfl rfl
theorem m1_203 : (Cond.fieldLink R_SQ 18 R_SQ "length" "I" : Cond) ∈ gw := gw_1 (k := 203) rfl rfl
theorem m1_204 : (Cond.fieldLink R_BR 40 R_SQ "length" "I" : Cond) ∈ gw := gw_1 (k := 204) rfl rfl
theorem m1_205 : (Cond.fieldLink R_WK 40 R_SQ "length" "I" : Cond) ∈ gw := gw_1 (k := 205) rfl rfl
theorem m1_206 : (Cond.fieldLink R_SQ 22 R_SQ "direction" "I" : Cond) ∈ gw := gw_1 (k := 206) rfl rfl
theorem m1_207 : (Cond.fieldLink R_BR 73 R_SQ "direction" "I" : Cond) ∈ gw := gw_1 (k := 207) rfl rfl
theorem m1_208 : (Cond.fieldLink R_SQ 25 R_SQ "before" "I" : Cond) ∈ gw := gw_1 (k := 208) rfl rfl
theorem m1_209 : (Cond.fieldLink R_WK 54 R_SQ "before" "I" : Cond) ∈ gw := gw_1 (k := 209) rfl rfl
theorem m1_210 : (Cond.fieldLink R_RU 71 R_SQ "before" "I" : Cond) ∈ gw := gw_1 (k := 210) rfl rfl
theorem m1_211 : (Cond.fieldLink R_BR 85 R_SQ "before" "I" : Cond) ∈ gw := gw_1 (k := 211) rfl rfl
theorem m1_212 : (Cond.fieldLink R_SQ 28 R_SQ "behind" "I" : Cond) ∈ gw := gw_1 (k := 212) rfl rfl
theorem m1_213 : (Cond.fieldLink R_RU 77 R_SQ "behind" "I" : Cond) ∈ gw := gw_1 (k := 213) rfl rfl
theorem m1_214 : (Cond.laysFinal R_SQ R_SQ "text" "LBidiLevels$Text;" : Cond) ∈ gw := gw_1 (k := 214) rfl rfl
theorem m1_216 : (Cond.laysFinal R_SQ R_SQ "positions" "[I" : Cond) ∈ gw := gw_1 (k := 216) rfl rfl
theorem m1_218 : (Cond.laysFinal R_SQ R_SQ "now" "[I" : Cond) ∈ gw := gw_1 (k := 218) rfl rfl
theorem m1_220 : (Cond.lays R_SQ R_SQ "length" "I" : Cond) ∈ gw := gw_1 (k := 220) rfl rfl
theorem m1_222 : (Cond.lays R_SQ R_SQ "direction" "I" : Cond) ∈ gw := gw_1 (k := 222) rfl rfl
theorem m1_224 : (Cond.lays R_SQ R_SQ "before" "I" : Cond) ∈ gw := gw_1 (k := 224) rfl rfl
theorem m1_226 : (Cond.lays R_SQ R_SQ "behind" "I" : Cond) ∈ gw := gw_1 (k := 226) rfl rfl
theorem m1_229 : (Cond.classLink R_RS 64 R_WK : Cond) ∈ gw := gw_1 (k := 229) rfl rfl
theorem m1_230 : (Cond.instantiable R_WK 2 : Cond) ∈ gw := gw_1 (k := 230) rfl rfl
theorem m1_231 : (Cond.methodLink R_RS 66 y_WK_init : Cond) ∈ gw := gw_1 (k := 231) rfl rfl
theorem m1_232 : (Cond.instanceMethod y_WK_init : Cond) ∈ gw := gw_1 (k := 232) rfl rfl
theorem m1_233 : (Cond.code y_WK_init prog_11_method_1_code 3 none : Cond) ∈ gw := gw_1 (k := 233) rfl rfl
theorem m1_234 : (Cond.methodLink R_WK 3 objectInit : Cond) ∈ gw := gw_1 (k := 234) rfl rfl
theorem m1_235 : (Cond.fieldLink R_WK 9 R_WK "text" "LBidiLevels$Text;" : Cond) ∈ gw := gw_1 (k := 235) rfl rfl
theorem m1_236 : (Cond.fieldLink R_WK 15 R_WK "row" "LBidiLevels$Sequence;" : Cond) ∈ gw := gw_1 (k := 236) rfl rfl
theorem m1_237 : (Cond.laysFinal R_WK R_WK "text" "LBidiLevels$Text;" : Cond) ∈ gw := gw_1 (k := 237) rfl rfl
theorem m1_239 : (Cond.laysFinal R_WK R_WK "row" "LBidiLevels$Sequence;" : Cond) ∈ gw := gw_1 (k := 239) rfl rfl
theorem m2_2 : (Cond.classLink R_RS 73 R_BR : Cond) ∈ gw := gw_2 (k := 2) rfl rfl
theorem m2_3 : (Cond.instantiable R_BR 7 : Cond) ∈ gw := gw_2 (k := 3) rfl rfl
theorem m2_4 : (Cond.methodLink R_RS 75 y_BR_init : Cond) ∈ gw := gw_2 (k := 4) rfl rfl
theorem m2_5 : (Cond.instanceMethod y_BR_init : Cond) ∈ gw := gw_2 (k := 5) rfl rfl
theorem m2_6 : (Cond.code y_BR_init prog_2_method_1_code 4 none : Cond) ∈ gw := gw_2 (k := 6) rfl rfl
theorem m2_7 : (Cond.methodLink R_BR 3 objectInit : Cond) ∈ gw := gw_2 (k := 7) rfl rfl
theorem m2_8 : (Cond.fieldLink R_BR 25 R_BR "text" "LBidiLevels$Text;" : Cond) ∈ gw := gw_2 (k := 8) rfl rfl
theorem m2_9 : (Cond.fieldLink R_BR 29 R_BR "row" "LBidiLevels$Sequence;" : Cond) ∈ gw := gw_2 (k := 9) rfl rfl
theorem m2_10 : (Cond.fieldLink R_BR 33 R_BR "brackets" "LBidiLevels$Pairs;" : Cond) ∈ gw := gw_2 (k := 10) rfl rfl
theorem m2_11 : (Cond.fieldLink R_BR 9 R_BR "openings" "[I" : Cond) ∈ gw := gw_2 (k := 11) rfl rfl
theorem m2_12 : (Cond.fieldLink R_BR 15 R_BR "wanted" "[I" : Cond) ∈ gw := gw_2 (k := 12) rfl rfl
theorem m2_13 : (Cond.fieldLink R_BR 18 R_BR "open" "I" : Cond) ∈ gw := gw_2 (k := 13) rfl rfl
theorem m2_14 : (Cond.fieldLink R_BR 22 R_BR "closings" "[I" : Cond) ∈ gw := gw_2 (k := 14) rfl rfl
theorem m2_15 : (Cond.laysFinal R_BR R_BR "text" "LBidiLevels$Text;" : Cond) ∈ gw := gw_2 (k := 15) rfl rfl
theorem m2_17 : (Cond.laysFinal R_BR R_BR "row" "LBidiLevels$Sequence;" : Cond) ∈ gw := gw_2 (k := 17) rfl rfl
theorem m2_19 : (Cond.laysFinal R_BR R_BR "brackets" "LBidiLevels$Pairs;" : Cond) ∈ gw := gw_2 (k := 19) rfl rfl
theorem m2_21 : (Cond.laysFinal R_BR R_BR "openings" "[I" : Cond) ∈ gw := gw_2 (k := 21) rfl rfl
theorem m2_23 : (Cond.laysFinal R_BR R_BR "wanted" "[I" : Cond) ∈ gw := gw_2 (k := 23) rfl rfl
theorem m2_25 : (Cond.lays R_BR R_BR "open" "I" : Cond) ∈ gw := gw_2 (k := 25) rfl rfl
theorem m2_27 : (Cond.laysFinal R_BR R_BR "closings" "[I" : Cond) ∈ gw := gw_2 (k := 27) rfl rfl
theorem m2_30 : (Cond.fieldLink R_RS 9 R_RS "begins" "[I" : Cond) ∈ gw := gw_2 (k := 30) rfl rfl
theorem m2_31 : (Cond.fieldLink R_BL 111 R_RS "begins" "[I" : Cond) ∈ gw := gw_2 (k := 31) rfl rfl
theorem m2_32 : (Cond.fieldLink R_RS 15 R_RS "ends" "[I" : Cond) ∈ gw := gw_2 (k := 32) rfl rfl
theorem m2_33 : (Cond.fieldLink R_BL 115 R_RS "ends" "[I" : Cond) ∈ gw := gw_2 (k := 33) rfl rfl
theorem m2_34 : (Cond.fieldLink R_RS 18 R_RS "bases" "[I" : Cond) ∈ gw := gw_2 (k := 34) rfl rfl
theorem m2_35 : (Cond.fieldLink R_BL 118 R_RS "bases" "[I" : Cond) ∈ gw := gw_2 (k := 35) rfl rfl
theorem m2_36 : (Cond.fieldLink R_RS 21 R_RS "sequences" "[I" : Cond) ∈ gw := gw_2 (k := 36) rfl rfl
theorem m2_37 : (Cond.fieldLink R_BL 121 R_RS "sequences" "[I" : Cond) ∈ gw := gw_2 (k := 37) rfl rfl
theorem m2_38 : (Cond.fieldLink R_RS 24 R_RS "paragraphs" "I" : Cond) ∈ gw := gw_2 (k := 38) rfl rfl
theorem m2_39 : (Cond.fieldLink R_BL 100 R_RS "paragraphs" "I" : Cond) ∈ gw := gw_2 (k := 39) rfl rfl
theorem m2_40 : (Cond.fieldLink R_RS 28 R_RS "text" "LBidiLevels$Text;" : Cond) ∈ gw := gw_2 (k := 40) rfl rfl
theorem m2_41 : (Cond.fieldLink R_RS 37 R_RS "isolates" "LBidiLevels$Isolates;" : Cond) ∈ gw := gw_2 (k := 41) rfl rfl
theorem m2_42 : (Cond.fieldLink R_RS 46 R_RS "explicit" "LBidiLevels$Explicit;" : Cond) ∈ gw := gw_2 (k := 42) rfl rfl
theorem m2_43 : (Cond.fieldLink R_RS 53 R_RS "runs" "LBidiLevels$Runs;" : Cond) ∈ gw := gw_2 (k := 43) rfl rfl
theorem m2_44 : (Cond.fieldLink R_RS 60 R_RS "sequence" "LBidiLevels$Sequence;" : Cond) ∈ gw := gw_2 (k := 44) rfl rfl
theorem m2_45 : (Cond.fieldLink R_RS 69 R_RS "weakRules" "LBidiLevels$WeakRules;" : Cond) ∈ gw := gw_2 (k := 45) rfl rfl
theorem m2_46 : (Cond.fieldLink R_RS 78 R_RS "bracketRule" "LBidiLevels$BracketRule;" : Cond) ∈ gw := gw_2 (k := 46) rfl rfl
theorem m2_47 : (Cond.laysFinal R_RS R_RS "begins" "[I" : Cond) ∈ gw := gw_2 (k := 47) rfl rfl
theorem m2_49 : (Cond.laysFinal R_RS R_RS "ends" "[I" : Cond) ∈ gw := gw_2 (k := 49) rfl rfl
theorem m2_51 : (Cond.laysFinal R_RS R_RS "bases" "[I" : Cond) ∈ gw := gw_2 (k := 51) rfl rfl
theorem m2_53 : (Cond.laysFinal R_RS R_RS "sequences" "[I" : Cond) ∈ gw := gw_2 (k := 53) rfl rfl
theorem m2_55 : (Cond.lays R_RS R_RS "paragraphs" "I" : Cond) ∈ gw := gw_2 (k := 55) rfl rfl
theorem m2_57 : (Cond.laysFinal R_RS R_RS "text" "LBidiLevels$Text;" : Cond) ∈ gw := gw_2 (k := 57) rfl rfl
theorem m2_59 : (Cond.laysFinal R_RS R_RS "isolates" "LBidiLevels$Isolates;" : Cond) ∈ gw := gw_2 (k := 59) rfl rfl
theorem m2_61 : (Cond.laysFinal R_RS R_RS "explicit" "LBidiLevels$Explicit;" : Cond) ∈ gw := gw_2 (k := 61) rfl rfl
theorem m2_63 : (Cond.laysFinal R_RS R_RS "runs" "LBidiLevels$Runs;" : Cond) ∈ gw := gw_2 (k := 63) rfl rfl
theorem m2_65 : (Cond.laysFinal R_RS R_RS "sequence" "LBidiLevels$Sequence;" : Cond) ∈ gw := gw_2 (k := 65) rfl rfl
theorem m2_67 : (Cond.laysFinal R_RS R_RS "weakRules" "LBidiLevels$WeakRules;" : Cond) ∈ gw := gw_2 (k := 67) rfl rfl
theorem m2_69 : (Cond.laysFinal R_RS R_RS "bracketRule" "LBidiLevels$BracketRule;" : Cond) ∈ gw := gw_2 (k := 69) rfl rfl
theorem m2_72 : (Cond.classLink R_BL 35 R_LN : Cond) ∈ gw := gw_2 (k := 72) rfl rfl
theorem m2_73 : (Cond.instantiable R_LN 5 : Cond) ∈ gw := gw_2 (k := 73) rfl rfl
theorem m2_74 : (Cond.methodLink R_BL 37 y_LN_init : Cond) ∈ gw := gw_2 (k := 74) rfl rfl
theorem m2_75 : (Cond.instanceMethod y_LN_init : Cond) ∈ gw := gw_2 (k := 75) rfl rfl
theorem m2_76 : (Cond.code y_LN_init prog_5_method_1_code 2 none : Cond) ∈ gw := gw_2 (k := 76) rfl rfl
theorem m2_77 : (Cond.methodLink R_LN 3 objectInit : Cond) ∈ gw := gw_2 (k := 77) rfl rfl
theorem m2_78 : (Cond.fieldLink R_LN 25 R_LN "text" "LBidiLevels$Text;" : Cond) ∈ gw := gw_2 (k := 78) rfl rfl
theorem m2_79 : (Cond.fieldLink R_LN 9 R_LN "order" "[I" : Cond) ∈ gw := gw_2 (k := 79) rfl rfl
theorem m2_80 : (Cond.fieldLink R_BL 157 R_LN "order" "[I" : Cond) ∈ gw := gw_2 (k := 80) rfl rfl
theorem m2_81 : (Cond.fieldLink R_LN 15 R_LN "levels" "[I" : Cond) ∈ gw := gw_2 (k := 81) rfl rfl
theorem m2_82 : (Cond.fieldLink R_BL 160 R_LN "levels" "[I" : Cond) ∈ gw := gw_2 (k := 82) rfl rfl
theorem m2_83 : (Cond.fieldLink R_LN 18 R_LN "places" "[I" : Cond) ∈ gw := gw_2 (k := 83) rfl rfl
theorem m2_84 : (Cond.fieldLink R_BL 164 R_LN "places" "[I" : Cond) ∈ gw := gw_2 (k := 84) rfl rfl
theorem m2_85 : (Cond.fieldLink R_LN 21 R_LN "count" "I" : Cond) ∈ gw := gw_2 (k := 85) rfl rfl
theorem m2_86 : (Cond.fieldLink R_BL 151 R_LN "count" "I" : Cond) ∈ gw := gw_2 (k := 86) rfl rfl
theorem m2_87 : (Cond.laysFinal R_LN R_LN "text" "LBidiLevels$Text;" : Cond) ∈ gw := gw_2 (k := 87) rfl rfl
theorem m2_89 : (Cond.laysFinal R_LN R_LN "order" "[I" : Cond) ∈ gw := gw_2 (k := 89) rfl rfl
theorem m2_91 : (Cond.laysFinal R_LN R_LN "levels" "[I" : Cond) ∈ gw := gw_2 (k := 91) rfl rfl
theorem m2_93 : (Cond.laysFinal R_LN R_LN "places" "[I" : Cond) ∈ gw := gw_2 (k := 93) rfl rfl
theorem m2_95 : (Cond.lays R_LN R_LN "count" "I" : Cond) ∈ gw := gw_2 (k := 95) rfl rfl
theorem m2_98 : (Cond.fieldLink R_BL 12 R_BL "text" "LBidiLevels$Text;" : Cond) ∈ gw := gw_2 (k := 98) rfl rfl
theorem m2_99 : (Cond.fieldLink R_BL 19 R_BL "brackets" "LBidiLevels$Pairs;" : Cond) ∈ gw := gw_2 (k := 99) rfl rfl
theorem m2_100 : (Cond.fieldLink R_BL 23 R_BL "mirrors" "LBidiLevels$Pairs;" : Cond) ∈ gw := gw_2 (k := 100) rfl rfl
theorem m2_101 : (Cond.fieldLink R_BL 31 R_BL "resolver" "LBidiLevels$Resolver;" : Cond) ∈ gw := gw_2 (k := 101) rfl rfl
theorem m2_102 : (Cond.fieldLink R_BL 40 R_BL "shown" "LBidiLevels$Line;" : Cond) ∈ gw := gw_2 (k := 102) rfl rfl
theorem m2_103 : (Cond.fieldLink R_BL 44 R_BL "resolved" "Z" : Cond) ∈ gw := gw_2 (k := 103) rfl rfl
theorem m2_104 : (Cond.fieldLink R_BL 48 R_BL "lined" "Z" : Cond) ∈ gw := gw_2 (k := 104) rfl rfl
theorem m2_105 : (Cond.laysFinal R_BL R_BL "text" "LBidiLevels$Text;" : Cond) ∈ gw := gw_2 (k := 105) rfl rfl
theorem m2_107 : (Cond.laysFinal R_BL R_BL "brackets" "LBidiLevels$Pairs;" : Cond) ∈ gw := gw_2 (k := 107) rfl rfl
theorem m2_109 : (Cond.laysFinal R_BL R_BL "mirrors" "LBidiLevels$Pairs;" : Cond) ∈ gw := gw_2 (k := 109) rfl rfl
theorem m2_111 : (Cond.laysFinal R_BL R_BL "resolver" "LBidiLevels$Resolver;" : Cond) ∈ gw := gw_2 (k := 111) rfl rfl
theorem m2_113 : (Cond.laysFinal R_BL R_BL "shown" "LBidiLevels$Line;" : Cond) ∈ gw := gw_2 (k := 113) rfl rfl
theorem m2_115 : (Cond.lays R_BL R_BL "resolved" "Z" : Cond) ∈ gw := gw_2 (k := 115) rfl rfl
theorem m2_117 : (Cond.lays R_BL R_BL "lined" "Z" : Cond) ∈ gw := gw_2 (k := 117) rfl rfl
theorem m2_120 : (Cond.methodLink R_LW 81 y_BL_clear : Cond) ∈ gw := gw_2 (k := 120) rfl rfl
theorem m2_121 : (Cond.instanceMethod y_BL_clear : Cond) ∈ gw := gw_2 (k := 121) rfl rfl
theorem m2_122 : (Cond.selects R_BL y_BL_clear y_BL_clear : Cond) ∈ gw := gw_2 (k := 122) rfl rfl
theorem m2_123 : (Cond.code y_BL_clear prog_1_method_6_code 2 (some .int) : Cond) ∈ gw := gw_2 (k := 123) rfl rfl
theorem m2_124 : (Cond.methodLink R_BL 77 y_BL_forgetLevels : Cond) ∈ gw := gw_2 (k := 124) rfl rfl
theorem m2_126 : (Cond.instanceMethod y_BL_forgetLevels : Cond) ∈ gw := gw_2 (k := 126) rfl rfl
theorem m2_127 : (Cond.code y_BL_forgetLevels prog_1_method_16_code 1 none : Cond) ∈ gw := gw_2 (k := 127) rfl rfl
theorem m2_128 : (Cond.methodLink R_LW 60 y_LW_property : Cond) ∈ gw := gw_2 (k := 128) rfl rfl
theorem m2_129 : (Cond.static y_LW_property : Cond) ∈ gw := gw_2 (k := 129) rfl rfl
theorem m2_130 : (Cond.codeWith y_LW_property method_3_code 5 (some .int) [(0, 7, 10, 13), (0, 7, 14, 15)] : Cond) ∈ gw := gw_2 (k := 130) rfl rfl
theorem m2_131 : (Cond.classLink R_LW 13 "java/lang/IllegalArgumentException" : Cond) ∈ gw := gw_2 (k := 131) rfl rfl
theorem m2_132 : (Cond.classLink R_LW 15 "java/lang/IllegalStateException" : Cond) ∈ gw := gw_2 (k := 132) rfl rfl
theorem m2_133 : (Cond.methodLink R_LW 7 y_BL_property : Cond) ∈ gw := gw_2 (k := 133) rfl rfl
theorem m2_134 : (Cond.instanceMethod y_BL_property : Cond) ∈ gw := gw_2 (k := 134) rfl rfl
theorem m2_135 : (Cond.selects R_BL y_BL_property y_BL_property : Cond) ∈ gw := gw_2 (k := 135) rfl rfl
theorem m2_136 : (Cond.code y_BL_property prog_1_method_2_code 4 none : Cond) ∈ gw := gw_2 (k := 136) rfl rfl
theorem m2_137 : (Cond.methodLink R_BL 51 y_BL_isCharacter : Cond) ∈ gw := gw_2 (k := 137) rfl rfl
theorem m2_138 : (Cond.static y_BL_isCharacter : Cond) ∈ gw := gw_2 (k := 138) rfl rfl
theorem m2_139 : (Cond.code y_BL_isCharacter prog_1_method_21_code 1 (some .boolean) : Cond) ∈ gw := gw_2 (k := 139) rfl rfl
theorem m2_140 : (Cond.constant R_BL 196 (1114111 : Int32) : Cond) ∈ gw := gw_2 (k := 140) rfl rfl
theorem m2_141 : (Cond.classLink R_BL 55 "java/lang/IllegalArgumentException" : Cond) ∈ gw := gw_2 (k := 141) rfl rfl
theorem m2_142 : (Cond.instantiable "java/lang/IllegalArgumentException" 6 : Cond) ∈ gw := gw_2 (k := 142) rfl rfl
theorem m2_150 : (Cond.selects "java/lang/IllegalArgumentException" (⟨"java/lang/Throwable", "fillInStackTrace", "(I)Ljava/lang/Throwable;"⟩ : MethodName) (⟨"java/lang/Throwable", "fillInStackTrace", "(I)Ljava/lang/Throwable;"⟩ : MethodName) : Cond) ∈ gw := gw_2 (k := 150) rfl rfl
theorem m2_151 : (Cond.selects "java/lang/IllegalArgumentException" (⟨"java/lang/Throwable", "fillInStackTrace", "()Ljava/lang/Throwable;"⟩ : MethodName) (⟨"java/lang/Throwable", "fillInStackTrace", "()Ljava/lang/Throwable;"⟩ : MethodName) : Cond) ∈ gw := gw_2 (k := 151) rfl rfl
theorem m2_152 : (Cond.lays "java/lang/IllegalArgumentException" "java/lang/Throwable" "cause" "Ljava/lang/Throwable;" : Cond) ∈ gw := gw_2 (k := 152) rfl rfl
theorem m2_153 : (Cond.lays "java/lang/Throwable" "java/lang/Throwable" "cause" "Ljava/lang/Throwable;" : Cond) ∈ gw := gw_2 (k := 153) rfl rfl
theorem m2_154 : (Cond.lays "java/lang/IllegalArgumentException" "java/lang/Throwable" "stackTrace" "[Ljava/lang/StackTraceElement;" : Cond) ∈ gw := gw_2 (k := 154) rfl rfl
theorem m2_155 : (Cond.lays "java/lang/Throwable" "java/lang/Throwable" "stackTrace" "[Ljava/lang/StackTraceElement;" : Cond) ∈ gw := gw_2 (k := 155) rfl rfl
theorem m2_156 : (Cond.lays "java/lang/IllegalArgumentException" "java/lang/Throwable" "suppressedExceptions" "Ljava/util/List;" : Cond) ∈ gw := gw_2 (k := 156) rfl rfl
theorem m2_157 : (Cond.lays "java/lang/Throwable" "java/lang/Throwable" "suppressedExceptions" "Ljava/util/List;" : Cond) ∈ gw := gw_2 (k := 157) rfl rfl
theorem m2_158 : (Cond.lays "java/lang/IllegalArgumentException" "java/lang/Throwable" "detailMessage" "Ljava/lang/String;" : Cond) ∈ gw := gw_2 (k := 158) rfl rfl
theorem m2_159 : (Cond.lays "java/lang/Throwable" "java/lang/Throwable" "detailMessage" "Ljava/lang/String;" : Cond) ∈ gw := gw_2 (k := 159) rfl rfl
theorem m2_160 : (Cond.lays "java/lang/IllegalArgumentException" "java/lang/Throwable" "backtrace" "Ljava/lang/Object;" : Cond) ∈ gw := gw_2 (k := 160) rfl rfl
theorem m2_161 : (Cond.lays "java/lang/Throwable" "java/lang/Throwable" "backtrace" "Ljava/lang/Object;" : Cond) ∈ gw := gw_2 (k := 161) rfl rfl
theorem m2_162 : (Cond.fieldLink "java/lang/Throwable" 198 "java/lang/Throwable" "backtrace" "Ljava/lang/Object;" : Cond) ∈ gw := gw_2 (k := 162) rfl rfl
theorem m2_164 : (Cond.instanceMethod (⟨"java/lang/Throwable", "<init>", "()V"⟩ : MethodName) : Cond) ∈ gw := gw_2 (k := 164) rfl rfl
theorem m2_165 : (Cond.code (⟨"java/lang/Throwable", "<init>", "()V"⟩ : MethodName) prog_21_method_1_code 1 none : Cond) ∈ gw := gw_2 (k := 165) rfl rfl
theorem m2_166 : (Cond.methodLink "java/lang/Throwable" 1 objectInit : Cond) ∈ gw := gw_2 (k := 166) rfl rfl
theorem m2_167 : (Cond.fieldLink "java/lang/Throwable" 13 "java/lang/Throwable" "UNASSIGNED_STACK" "[Ljava/lang/StackTraceElement;" : Cond) ∈ gw := gw_2 (k := 167) rfl rfl
theorem m2_169 : (Cond.fieldLink "java/lang/Throwable" 20 "java/lang/Throwable" "SUPPRESSED_SENTINEL" "Ljava/util/List;" : Cond) ∈ gw := gw_2 (k := 169) rfl rfl
theorem m2_171 : (Cond.methodLink "java/lang/Throwable" 27 (⟨"java/lang/Throwable", "fillInStackTrace", "()Ljava/lang/Throwable;"⟩ : MethodName) : Cond) ∈ gw := gw_2 (k := 171) rfl rfl
theorem m2_172 : (Cond.instanceMethod (⟨"java/lang/Throwable", "fillInStackTrace", "()Ljava/lang/Throwable;"⟩ : MethodName) : Cond) ∈ gw := gw_2 (k := 172) rfl rfl
theorem m2_174 : (Cond.selects "java/lang/IllegalStateException" (⟨"java/lang/Throwable", "fillInStackTrace", "()Ljava/lang/Throwable;"⟩ : MethodName) (⟨"java/lang/Throwable", "fillInStackTrace", "()Ljava/lang/Throwable;"⟩ : MethodName) : Cond) ∈ gw := gw_2 (k := 174) rfl rfl
theorem m2_175 : (Cond.selects "java/lang/IndexOutOfBoundsException" (⟨"java/lang/Throwable", "fillInStackTrace", "()Ljava/lang/Throwable;"⟩ : MethodName) (⟨"java/lang/Throwable", "fillInStackTrace", "()Ljava/lang/Throwable;"⟩ : MethodName) : Cond) ∈ gw := gw_2 (k := 175) rfl rfl
theorem m2_177 : (Cond.methodLink "java/lang/Throwable" 202 (⟨"java/lang/Throwable", "fillInStackTrace", "(I)Ljava/lang/Throwable;"⟩ : MethodName) : Cond) ∈ gw := gw_2 (k := 177) rfl rfl
theorem m2_179 : (Cond.instanceMethod (⟨"java/lang/Throwable", "fillInStackTrace", "(I)Ljava/lang/Throwable;"⟩ : MethodName) : Cond) ∈ gw := gw_2 (k := 179) rfl rfl
theorem m2_180 : (Cond.instantiable "java/lang/Throwable" 6 : Cond) ∈ gw := gw_2 (k := 180) rfl rfl
theorem m2_183 : (Cond.methodLink R_BL 59 (⟨"java/lang/IllegalArgumentException", "<init>", "(Ljava/lang/String;)V"⟩ : MethodName) : Cond) ∈ gw := gw_2 (k := 183) rfl rfl
theorem m2_184 : (Cond.instanceMethod (⟨"java/lang/IllegalArgumentException", "<init>", "(Ljava/lang/String;)V"⟩ : MethodName) : Cond) ∈ gw := gw_2 (k := 184) rfl rfl
theorem m2_185 : (Cond.code (⟨"java/lang/IllegalArgumentException", "<init>", "(Ljava/lang/String;)V"⟩ : MethodName) prog_15_method_2_code 2 none : Cond) ∈ gw := gw_2 (k := 185) rfl rfl
theorem m2_186 : (Cond.methodLink "java/lang/IllegalArgumentException" 7 (⟨"java/lang/RuntimeException", "<init>", "(Ljava/lang/String;)V"⟩ : MethodName) : Cond) ∈ gw := gw_2 (k := 186) rfl rfl
theorem m2_187 : (Cond.instanceMethod (⟨"java/lang/RuntimeException", "<init>", "(Ljava/lang/String;)V"⟩ : MethodName) : Cond) ∈ gw := gw_2 (k := 187) rfl rfl
theorem m2_188 : (Cond.code (⟨"java/lang/RuntimeException", "<init>", "(Ljava/lang/String;)V"⟩ : MethodName) prog_19_method_2_code 2 none : Cond) ∈ gw := gw_2 (k := 188) rfl rfl
theorem m2_189 : (Cond.methodLink "java/lang/RuntimeException" 7 (⟨"java/lang/Exception", "<init>", "(Ljava/lang/String;)V"⟩ : MethodName) : Cond) ∈ gw := gw_2 (k := 189) rfl rfl
theorem m2_190 : (Cond.instanceMethod (⟨"java/lang/Exception", "<init>", "(Ljava/lang/String;)V"⟩ : MethodName) : Cond) ∈ gw := gw_2 (k := 190) rfl rfl
theorem m2_191 : (Cond.code (⟨"java/lang/Exception", "<init>", "(Ljava/lang/String;)V"⟩ : MethodName) prog_14_method_2_code 2 none : Cond) ∈ gw := gw_2 (k := 191) rfl rfl
theorem m2_192 : (Cond.methodLink "java/lang/Exception" 7 (⟨"java/lang/Throwable", "<init>", "(Ljava/lang/String;)V"⟩ : MethodName) : Cond) ∈ gw := gw_2 (k := 192) rfl rfl
theorem m2_193 : (Cond.instanceMethod (⟨"java/lang/Throwable", "<init>", "(Ljava/lang/String;)V"⟩ : MethodName) : Cond) ∈ gw := gw_2 (k := 193) rfl rfl
theorem m2_194 : (Cond.code (⟨"java/lang/Throwable", "<init>", "(Ljava/lang/String;)V"⟩ : MethodName) prog_21_method_2_code 2 none : Cond) ∈ gw := gw_2 (k := 194) rfl rfl
theorem m2_196 : (Cond.fieldLink "java/lang/Throwable" 31 "java/lang/Throwable" "detailMessage" "Ljava/lang/String;" : Cond) ∈ gw := gw_2 (k := 196) rfl rfl
theorem m2_197 : (Cond.fieldLink "java/lang/Throwable" 7 "java/lang/Throwable" "cause" "Ljava/lang/Throwable;" : Cond) ∈ gw := gw_2 (k := 197) rfl rfl
theorem m2_198 : (Cond.fieldLink "java/lang/Throwable" 17 "java/lang/Throwable" "stackTrace" "[Ljava/lang/StackTraceElement;" : Cond) ∈ gw := gw_2 (k := 198) rfl rfl
theorem m2_199 : (Cond.fieldLink "java/lang/Throwable" 24 "java/lang/Throwable" "suppressedExceptions" "Ljava/util/List;" : Cond) ∈ gw := gw_2 (k := 199) rfl rfl
theorem m2_204 : (Cond.lays "java/lang/IllegalArgumentException" "java/lang/Throwable" "depth" "I" : Cond) ∈ gw := gw_2 (k := 204) rfl rfl
theorem m2_208 : (Cond.arrayClass FieldType.byte : Cond) ∈ gw := gw_2 (k := 208) rfl rfl
theorem m2_210 : (Cond.classLink R_BL 68 "java/lang/IllegalStateException" : Cond) ∈ gw := gw_2 (k := 210) rfl rfl
theorem m2_211 : (Cond.instantiable "java/lang/IllegalStateException" 6 : Cond) ∈ gw := gw_2 (k := 211) rfl rfl
theorem m2_213 : (Cond.selects "java/lang/IllegalStateException" (⟨"java/lang/Throwable", "fillInStackTrace", "(I)Ljava/lang/Throwable;"⟩ : MethodName) (⟨"java/lang/Throwable", "fillInStackTrace", "(I)Ljava/lang/Throwable;"⟩ : MethodName) : Cond) ∈ gw := gw_2 (k := 213) rfl rfl
theorem m2_214 : (Cond.lays "java/lang/IllegalStateException" "java/lang/Throwable" "cause" "Ljava/lang/Throwable;" : Cond) ∈ gw := gw_2 (k := 214) rfl rfl
theorem m2_215 : (Cond.lays "java/lang/IllegalStateException" "java/lang/Throwable" "stackTrace" "[Ljava/lang/StackTraceElement;" : Cond) ∈ gw := gw_2 (k := 215) rfl rfl
theorem m2_216 : (Cond.lays "java/lang/IllegalStateException" "java/lang/Throwable" "suppressedExceptions" "Ljava/util/List;" : Cond) ∈ gw := gw_2 (k := 216) rfl rfl
theorem m2_217 : (Cond.lays "java/lang/IllegalStateException" "java/lang/Throwable" "detailMessage" "Ljava/lang/String;" : Cond) ∈ gw := gw_2 (k := 217) rfl rfl
theorem m2_218 : (Cond.lays "java/lang/IllegalStateException" "java/lang/Throwable" "backtrace" "Ljava/lang/Object;" : Cond) ∈ gw := gw_2 (k := 218) rfl rfl
theorem m2_220 : (Cond.methodLink R_BL 72 (⟨"java/lang/IllegalStateException", "<init>", "(Ljava/lang/String;)V"⟩ : MethodName) : Cond) ∈ gw := gw_2 (k := 220) rfl rfl
theorem m2_221 : (Cond.instanceMethod (⟨"java/lang/IllegalStateException", "<init>", "(Ljava/lang/String;)V"⟩ : MethodName) : Cond) ∈ gw := gw_2 (k := 221) rfl rfl
theorem m2_222 : (Cond.code (⟨"java/lang/IllegalStateException", "<init>", "(Ljava/lang/String;)V"⟩ : MethodName) prog_16_method_2_code 2 none : Cond) ∈ gw := gw_2 (k := 222) rfl rfl
theorem m2_223 : (Cond.methodLink "java/lang/IllegalStateException" 7 (⟨"java/lang/RuntimeException", "<init>", "(Ljava/lang/String;)V"⟩ : MethodName) : Cond) ∈ gw := gw_2 (k := 223) rfl rfl
theorem m2_224 : (Cond.lays "java/lang/IllegalStateException" "java/lang/Throwable" "depth" "I" : Cond) ∈ gw := gw_2 (k := 224) rfl rfl
theorem m2_226 : (Cond.methodLink R_BL 73 y_TX_tellRange : Cond) ∈ gw := gw_2 (k := 226) rfl rfl
theorem m2_227 : (Cond.instanceMethod y_TX_tellRange : Cond) ∈ gw := gw_2 (k := 227) rfl rfl
theorem m2_228 : (Cond.selects R_TX y_TX_tellRange y_TX_tellRange : Cond) ∈ gw := gw_2 (k := 228) rfl rfl
theorem m2_229 : (Cond.code y_TX_tellRange prog_10_method_2_code 5 none : Cond) ∈ gw := gw_2 (k := 229) rfl rfl
theorem m2_230 : (Cond.methodLink R_LW 70 y_LW_bracket : Cond) ∈ gw := gw_2 (k := 230) rfl rfl
theorem m2_231 : (Cond.static y_LW_bracket : Cond) ∈ gw := gw_2 (k := 231) rfl rfl
theorem m2_232 : (Cond.codeWith y_LW_bracket method_4_code 4 (some .int) [(0, 6, 9, 13), (0, 6, 12, 15)] : Cond) ∈ gw := gw_2 (k := 232) rfl rfl
theorem m2_233 : (Cond.methodLink R_LW 17 y_BL_bracket : Cond) ∈ gw := gw_2 (k := 233) rfl rfl
theorem m2_234 : (Cond.instanceMethod y_BL_bracket : Cond) ∈ gw := gw_2 (k := 234) rfl rfl
theorem m2_235 : (Cond.selects R_BL y_BL_bracket y_BL_bracket : Cond) ∈ gw := gw_2 (k := 235) rfl rfl
theorem m2_236 : (Cond.code y_BL_bracket prog_1_method_3_code 3 none : Cond) ∈ gw := gw_2 (k := 236) rfl rfl
theorem m2_237 : (Cond.methodLink R_BL 80 y_BL_tellPair : Cond) ∈ gw := gw_2 (k := 237) rfl rfl
theorem m2_239 : (Cond.instanceMethod y_BL_tellPair : Cond) ∈ gw := gw_2 (k := 239) rfl rfl
theorem m3_0 : (Cond.code y_BL_tellPair prog_1_method_15_code 4 none : Cond) ∈ gw := gw_3 (k := 0) rfl rfl
theorem m3_2 : (Cond.methodLink R_BL 169 y_PR_has : Cond) ∈ gw := gw_3 (k := 2) rfl rfl
theorem m3_3 : (Cond.instanceMethod y_PR_has : Cond) ∈ gw := gw_3 (k := 3) rfl rfl
theorem m3_4 : (Cond.selects R_PR y_PR_has y_PR_has : Cond) ∈ gw := gw_3 (k := 4) rfl rfl
theorem m3_5 : (Cond.code y_PR_has prog_6_method_3_code 2 (some .boolean) : Cond) ∈ gw := gw_3 (k := 5) rfl rfl
theorem m3_6 : (Cond.methodLink R_PR 22 y_PR_partnerOf : Cond) ∈ gw := gw_3 (k := 6) rfl rfl
theorem m3_7 : (Cond.instanceMethod y_PR_partnerOf : Cond) ∈ gw := gw_3 (k := 7) rfl rfl
theorem m3_8 : (Cond.selects R_PR y_PR_partnerOf y_PR_partnerOf : Cond) ∈ gw := gw_3 (k := 8) rfl rfl
theorem m3_9 : (Cond.code y_PR_partnerOf prog_6_method_4_code 3 (some .int) : Cond) ∈ gw := gw_3 (k := 9) rfl rfl
theorem m3_10 : (Cond.methodLink R_PR 26 y_PR_otherOf : Cond) ∈ gw := gw_3 (k := 10) rfl rfl
theorem m3_11 : (Cond.instanceMethod y_PR_otherOf : Cond) ∈ gw := gw_3 (k := 11) rfl rfl
theorem m3_12 : (Cond.selects R_PR y_PR_otherOf y_PR_otherOf : Cond) ∈ gw := gw_3 (k := 12) rfl rfl
theorem m3_13 : (Cond.code y_PR_otherOf prog_6_method_5_code 3 (some .int) : Cond) ∈ gw := gw_3 (k := 13) rfl rfl
theorem m3_14 : (Cond.methodLink R_PR 29 y_PR_oneOf : Cond) ∈ gw := gw_3 (k := 14) rfl rfl
theorem m3_15 : (Cond.instanceMethod y_PR_oneOf : Cond) ∈ gw := gw_3 (k := 15) rfl rfl
theorem m3_16 : (Cond.selects R_PR y_PR_oneOf y_PR_oneOf : Cond) ∈ gw := gw_3 (k := 16) rfl rfl
theorem m3_17 : (Cond.code y_PR_oneOf prog_6_method_6_code 3 (some .int) : Cond) ∈ gw := gw_3 (k := 17) rfl rfl
theorem m3_20 : (Cond.methodLink R_BL 177 y_PR_tell : Cond) ∈ gw := gw_3 (k := 20) rfl rfl
theorem m3_21 : (Cond.instanceMethod y_PR_tell : Cond) ∈ gw := gw_3 (k := 21) rfl rfl
theorem m3_22 : (Cond.selects R_PR y_PR_tell y_PR_tell : Cond) ∈ gw := gw_3 (k := 22) rfl rfl
theorem m3_23 : (Cond.code y_PR_tell prog_6_method_2_code 3 none : Cond) ∈ gw := gw_3 (k := 23) rfl rfl
theorem m3_24 : (Cond.methodLink R_LW 74 y_LW_mirror : Cond) ∈ gw := gw_3 (k := 24) rfl rfl
theorem m3_25 : (Cond.static y_LW_mirror : Cond) ∈ gw := gw_3 (k := 25) rfl rfl
theorem m3_26 : (Cond.codeWith y_LW_mirror method_5_code 4 (some .int) [(0, 6, 9, 13), (0, 6, 12, 15)] : Cond) ∈ gw := gw_3 (k := 26) rfl rfl
theorem m3_27 : (Cond.methodLink R_LW 21 y_BL_mirror : Cond) ∈ gw := gw_3 (k := 27) rfl rfl
theorem m3_28 : (Cond.instanceMethod y_BL_mirror : Cond) ∈ gw := gw_3 (k := 28) rfl rfl
theorem m3_29 : (Cond.selects R_BL y_BL_mirror y_BL_mirror : Cond) ∈ gw := gw_3 (k := 29) rfl rfl
theorem m3_30 : (Cond.code y_BL_mirror prog_1_method_4_code 3 none : Cond) ∈ gw := gw_3 (k := 30) rfl rfl
theorem m3_31 : (Cond.methodLink R_LW 77 y_LW_add : Cond) ∈ gw := gw_3 (k := 31) rfl rfl
theorem m3_32 : (Cond.static y_LW_add : Cond) ∈ gw := gw_3 (k := 32) rfl rfl
theorem m3_33 : (Cond.codeWith y_LW_add method_6_code 8 (some .int) [(0, 16, 19, 13), (0, 16, 23, 15)] : Cond) ∈ gw := gw_3 (k := 33) rfl rfl
theorem m3_34 : (Cond.methodLink R_LW 24 y_BL_add : Cond) ∈ gw := gw_3 (k := 34) rfl rfl
theorem m3_35 : (Cond.instanceMethod y_BL_add : Cond) ∈ gw := gw_3 (k := 35) rfl rfl
theorem m3_36 : (Cond.selects R_BL y_BL_add y_BL_add : Cond) ∈ gw := gw_3 (k := 36) rfl rfl
theorem m3_37 : (Cond.code y_BL_add prog_1_method_5_code 9 (some .int) : Cond) ∈ gw := gw_3 (k := 37) rfl rfl
theorem m3_40 : (Cond.methodLink R_BL 91 y_TX_append : Cond) ∈ gw := gw_3 (k := 40) rfl rfl
theorem m3_41 : (Cond.instanceMethod y_TX_append : Cond) ∈ gw := gw_3 (k := 41) rfl rfl
theorem m3_42 : (Cond.selects R_TX y_TX_append y_TX_append : Cond) ∈ gw := gw_3 (k := 42) rfl rfl
theorem m3_43 : (Cond.code y_TX_append prog_10_method_3_code 2 none : Cond) ∈ gw := gw_3 (k := 43) rfl rfl
theorem m3_44 : (Cond.methodLink R_TX 43 y_TX_classOf : Cond) ∈ gw := gw_3 (k := 44) rfl rfl
theorem m3_46 : (Cond.instanceMethod y_TX_classOf : Cond) ∈ gw := gw_3 (k := 46) rfl rfl
theorem m3_47 : (Cond.code y_TX_classOf prog_10_method_4_code 3 (some .int) : Cond) ∈ gw := gw_3 (k := 47) rfl rfl
theorem m3_48 : (Cond.methodLink R_LW 85 y_LW_resolve : Cond) ∈ gw := gw_3 (k := 48) rfl rfl
theorem m3_49 : (Cond.static y_LW_resolve : Cond) ∈ gw := gw_3 (k := 49) rfl rfl
theorem m3_50 : (Cond.codeWith y_LW_resolve method_7_code 4 (some .int) [(0, 9, 12, 13)] : Cond) ∈ gw := gw_3 (k := 50) rfl rfl
theorem m3_51 : (Cond.methodLink R_LW 28 y_BL_resolve : Cond) ∈ gw := gw_3 (k := 51) rfl rfl
theorem m3_52 : (Cond.instanceMethod y_BL_resolve : Cond) ∈ gw := gw_3 (k := 52) rfl rfl
theorem m3_53 : (Cond.selects R_BL y_BL_resolve y_BL_resolve : Cond) ∈ gw := gw_3 (k := 53) rfl rfl
theorem m3_54 : (Cond.code y_BL_resolve prog_1_method_7_code 2 (some .int) : Cond) ∈ gw := gw_3 (k := 54) rfl rfl
theorem m3_56 : (Cond.methodLink R_BL 97 y_RS_resolveText : Cond) ∈ gw := gw_3 (k := 56) rfl rfl
theorem m3_57 : (Cond.instanceMethod y_RS_resolveText : Cond) ∈ gw := gw_3 (k := 57) rfl rfl
theorem m3_58 : (Cond.selects R_RS y_RS_resolveText y_RS_resolveText : Cond) ∈ gw := gw_3 (k := 58) rfl rfl
theorem m3_59 : (Cond.code y_RS_resolveText prog_7_method_2_code 5 none : Cond) ∈ gw := gw_3 (k := 59) rfl rfl
theorem m3_60 : (Cond.methodLink R_RS 82 y_RS_findParagraphs : Cond) ∈ gw := gw_3 (k := 60) rfl rfl
theorem m3_62 : (Cond.instanceMethod y_RS_findParagraphs : Cond) ∈ gw := gw_3 (k := 62) rfl rfl
theorem m3_63 : (Cond.code y_RS_findParagraphs prog_7_method_3_code 3 none : Cond) ∈ gw := gw_3 (k := 63) rfl rfl
theorem m3_64 : (Cond.methodLink R_RS 85 y_IS_findMatches : Cond) ∈ gw := gw_3 (k := 64) rfl rfl
theorem m3_65 : (Cond.instanceMethod y_IS_findMatches : Cond) ∈ gw := gw_3 (k := 65) rfl rfl
theorem m3_66 : (Cond.selects R_IS y_IS_findMatches y_IS_findMatches : Cond) ∈ gw := gw_3 (k := 66) rfl rfl
theorem m3_67 : (Cond.code y_IS_findMatches prog_4_method_2_code 5 none : Cond) ∈ gw := gw_3 (k := 67) rfl rfl
theorem m3_69 : (Cond.static y_BL_isIsolate : Cond) ∈ gw := gw_3 (k := 69) rfl rfl
theorem m3_70 : (Cond.code y_BL_isIsolate prog_1_method_23_code 1 (some .boolean) : Cond) ∈ gw := gw_3 (k := 70) rfl rfl
theorem m3_71 : (Cond.methodLink R_RS 89 y_IS_directionIn : Cond) ∈ gw := gw_3 (k := 71) rfl rfl
theorem m3_72 : (Cond.instanceMethod y_IS_directionIn : Cond) ∈ gw := gw_3 (k := 72) rfl rfl
theorem m3_73 : (Cond.selects R_IS y_IS_directionIn y_IS_directionIn : Cond) ∈ gw := gw_3 (k := 73) rfl rfl
theorem m3_74 : (Cond.code y_IS_directionIn prog_4_method_3_code 5 (some .int) : Cond) ∈ gw := gw_3 (k := 74) rfl rfl
theorem m3_75 : (Cond.methodLink R_IS 31 (⟨"java/lang/Math", "max", "(II)I"⟩ : MethodName) : Cond) ∈ gw := gw_3 (k := 75) rfl rfl
theorem m3_76 : (Cond.static (⟨"java/lang/Math", "max", "(II)I"⟩ : MethodName) : Cond) ∈ gw := gw_3 (k := 76) rfl rfl
theorem m3_77 : (Cond.code (⟨"java/lang/Math", "max", "(II)I"⟩ : MethodName) prog_18_method_65_code 2 (some .int) : Cond) ∈ gw := gw_3 (k := 77) rfl rfl
theorem m3_78 : (Cond.methodLink R_RS 93 y_EX_giveLevels : Cond) ∈ gw := gw_3 (k := 78) rfl rfl
theorem m3_79 : (Cond.instanceMethod y_EX_giveLevels : Cond) ∈ gw := gw_3 (k := 79) rfl rfl
theorem m3_80 : (Cond.selects R_EX y_EX_giveLevels y_EX_giveLevels : Cond) ∈ gw := gw_3 (k := 80) rfl rfl
theorem m3_81 : (Cond.code y_EX_giveLevels prog_3_method_2_code 5 none : Cond) ∈ gw := gw_3 (k := 81) rfl rfl
theorem m3_82 : (Cond.methodLink R_EX 43 y_EX_giveLevel : Cond) ∈ gw := gw_3 (k := 82) rfl rfl
theorem m3_84 : (Cond.instanceMethod y_EX_giveLevel : Cond) ∈ gw := gw_3 (k := 84) rfl rfl
theorem m3_85 : (Cond.code y_EX_giveLevel prog_3_method_3_code 5 none : Cond) ∈ gw := gw_3 (k := 85) rfl rfl
theorem m3_87 : (Cond.static y_BL_isEmbedding : Cond) ∈ gw := gw_3 (k := 87) rfl rfl
theorem m3_88 : (Cond.code y_BL_isEmbedding prog_1_method_22_code 1 (some .boolean) : Cond) ∈ gw := gw_3 (k := 88) rfl rfl
theorem m3_89 : (Cond.methodLink R_EX 56 y_EX_openEmbedding : Cond) ∈ gw := gw_3 (k := 89) rfl rfl
theorem m3_91 : (Cond.instanceMethod y_EX_openEmbedding : Cond) ∈ gw := gw_3 (k := 91) rfl rfl
theorem m3_92 : (Cond.code y_EX_openEmbedding prog_3_method_6_code 4 none : Cond) ∈ gw := gw_3 (k := 92) rfl rfl
theorem m3_93 : (Cond.methodLink R_EX 90 y_EX_nextLevel : Cond) ∈ gw := gw_3 (k := 93) rfl rfl
theorem m3_95 : (Cond.instanceMethod y_EX_nextLevel : Cond) ∈ gw := gw_3 (k := 95) rfl rfl
theorem m3_96 : (Cond.code y_EX_nextLevel prog_3_method_10_code 3 (some .int) : Cond) ∈ gw := gw_3 (k := 96) rfl rfl
theorem m3_98 : (Cond.static y_BL_directionOf : Cond) ∈ gw := gw_3 (k := 98) rfl rfl
theorem m3_99 : (Cond.code y_BL_directionOf prog_1_method_25_code 1 (some .int) : Cond) ∈ gw := gw_3 (k := 99) rfl rfl
theorem m3_100 : (Cond.methodLink R_EX 94 y_EX_canOpen : Cond) ∈ gw := gw_3 (k := 100) rfl rfl
theorem m3_102 : (Cond.instanceMethod y_EX_canOpen : Cond) ∈ gw := gw_3 (k := 102) rfl rfl
theorem m3_103 : (Cond.code y_EX_canOpen prog_3_method_11_code 2 (some .boolean) : Cond) ∈ gw := gw_3 (k := 103) rfl rfl
theorem m3_104 : (Cond.methodLink R_EX 97 y_EX_push : Cond) ∈ gw := gw_3 (k := 104) rfl rfl
theorem m3_106 : (Cond.instanceMethod y_EX_push : Cond) ∈ gw := gw_3 (k := 106) rfl rfl
theorem m3_107 : (Cond.code y_EX_push prog_3_method_12_code 4 none : Cond) ∈ gw := gw_3 (k := 107) rfl rfl
theorem m3_108 : (Cond.methodLink R_EX 60 y_EX_remove : Cond) ∈ gw := gw_3 (k := 108) rfl rfl
theorem m3_110 : (Cond.instanceMethod y_EX_remove : Cond) ∈ gw := gw_3 (k := 110) rfl rfl
theorem m3_111 : (Cond.code y_EX_remove prog_3_method_4_code 2 none : Cond) ∈ gw := gw_3 (k := 111) rfl rfl
theorem m3_113 : (Cond.methodLink R_EX 66 y_EX_takeTop : Cond) ∈ gw := gw_3 (k := 113) rfl rfl
theorem m3_115 : (Cond.instanceMethod y_EX_takeTop : Cond) ∈ gw := gw_3 (k := 115) rfl rfl
theorem m3_116 : (Cond.code y_EX_takeTop prog_3_method_5_code 3 none : Cond) ∈ gw := gw_3 (k := 116) rfl rfl
theorem m3_117 : (Cond.methodLink R_EX 69 y_IS_directionOfIsolate : Cond) ∈ gw := gw_3 (k := 117) rfl rfl
theorem m3_118 : (Cond.instanceMethod y_IS_directionOfIsolate : Cond) ∈ gw := gw_3 (k := 118) rfl rfl
theorem m3_119 : (Cond.selects R_IS y_IS_directionOfIsolate y_IS_directionOfIsolate : Cond) ∈ gw := gw_3 (k := 119) rfl rfl
theorem m3_120 : (Cond.code y_IS_directionOfIsolate prog_4_method_4_code 5 (some .int) : Cond) ∈ gw := gw_3 (k := 120) rfl rfl
theorem m3_121 : (Cond.methodLink R_IS 37 y_IS_directionIn : Cond) ∈ gw := gw_3 (k := 121) rfl rfl
theorem m3_122 : (Cond.methodLink R_EX 75 y_EX_openIsolate : Cond) ∈ gw := gw_3 (k := 122) rfl rfl
theorem m3_124 : (Cond.instanceMethod y_EX_openIsolate : Cond) ∈ gw := gw_3 (k := 124) rfl rfl
theorem m3_125 : (Cond.code y_EX_openIsolate prog_3_method_7_code 3 none : Cond) ∈ gw := gw_3 (k := 125) rfl rfl
theorem m3_126 : (Cond.methodLink R_EX 78 y_EX_closeIsolate : Cond) ∈ gw := gw_3 (k := 126) rfl rfl
theorem m3_128 : (Cond.instanceMethod y_EX_closeIsolate : Cond) ∈ gw := gw_3 (k := 128) rfl rfl
theorem m3_129 : (Cond.code y_EX_closeIsolate prog_3_method_8_code 1 none : Cond) ∈ gw := gw_3 (k := 129) rfl rfl
theorem m3_130 : (Cond.methodLink R_EX 101 (⟨"java/lang/Math", "max", "(II)I"⟩ : MethodName) : Cond) ∈ gw := gw_3 (k := 130) rfl rfl
theorem m3_131 : (Cond.methodLink R_EX 81 y_EX_closeEmbedding : Cond) ∈ gw := gw_3 (k := 131) rfl rfl
theorem m3_133 : (Cond.instanceMethod y_EX_closeEmbedding : Cond) ∈ gw := gw_3 (k := 133) rfl rfl
theorem m3_134 : (Cond.code y_EX_closeEmbedding prog_3_method_9_code 1 none : Cond) ∈ gw := gw_3 (k := 134) rfl rfl
theorem m3_135 : (Cond.methodLink R_RS 97 y_RU_findRuns : Cond) ∈ gw := gw_3 (k := 135) rfl rfl
theorem m3_136 : (Cond.instanceMethod y_RU_findRuns : Cond) ∈ gw := gw_3 (k := 136) rfl rfl
theorem m3_137 : (Cond.selects R_RU y_RU_findRuns y_RU_findRuns : Cond) ∈ gw := gw_3 (k := 137) rfl rfl
theorem m3_138 : (Cond.code y_RU_findRuns prog_8_method_2_code 4 none : Cond) ∈ gw := gw_3 (k := 138) rfl rfl
theorem m3_139 : (Cond.methodLink R_RU 40 y_RU_appendLeft : Cond) ∈ gw := gw_3 (k := 139) rfl rfl
theorem m3_141 : (Cond.instanceMethod y_RU_appendLeft : Cond) ∈ gw := gw_3 (k := 141) rfl rfl
theorem m3_142 : (Cond.code y_RU_appendLeft prog_8_method_3_code 2 none : Cond) ∈ gw := gw_3 (k := 142) rfl rfl
theorem m3_143 : (Cond.methodLink R_RS 100 y_RS_resolveSequences : Cond) ∈ gw := gw_3 (k := 143) rfl rfl
theorem m3_145 : (Cond.instanceMethod y_RS_resolveSequences : Cond) ∈ gw := gw_3 (k := 145) rfl rfl
theorem m3_146 : (Cond.code y_RS_resolveSequences prog_7_method_5_code 4 (some .int) : Cond) ∈ gw := gw_3 (k := 146) rfl rfl
theorem m3_147 : (Cond.methodLink R_RS 116 y_RU_beginsSequence : Cond) ∈ gw := gw_3 (k := 147) rfl rfl
theorem m3_148 : (Cond.instanceMethod y_RU_beginsSequence : Cond) ∈ gw := gw_3 (k := 148) rfl rfl
theorem m3_149 : (Cond.selects R_RU y_RU_beginsSequence y_RU_beginsSequence : Cond) ∈ gw := gw_3 (k := 149) rfl rfl
theorem m3_150 : (Cond.code y_RU_beginsSequence prog_8_method_4_code 3 (some .boolean) : Cond) ∈ gw := gw_3 (k := 150) rfl rfl
theorem m3_151 : (Cond.methodLink R_RS 120 y_RU_gather : Cond) ∈ gw := gw_3 (k := 151) rfl rfl
theorem m3_152 : (Cond.instanceMethod y_RU_gather : Cond) ∈ gw := gw_3 (k := 152) rfl rfl
theorem m3_153 : (Cond.selects R_RU y_RU_gather y_RU_gather : Cond) ∈ gw := gw_3 (k := 153) rfl rfl
theorem m3_154 : (Cond.code y_RU_gather prog_8_method_5_code 10 none : Cond) ∈ gw := gw_3 (k := 154) rfl rfl
theorem m3_155 : (Cond.methodLink R_RU 50 y_SQ_startAt : Cond) ∈ gw := gw_3 (k := 155) rfl rfl
theorem m3_156 : (Cond.instanceMethod y_SQ_startAt : Cond) ∈ gw := gw_3 (k := 156) rfl rfl
theorem m3_157 : (Cond.selects R_SQ y_SQ_startAt y_SQ_startAt : Cond) ∈ gw := gw_3 (k := 157) rfl rfl
theorem m3_158 : (Cond.code y_SQ_startAt prog_9_method_2_code 2 none : Cond) ∈ gw := gw_3 (k := 158) rfl rfl
theorem m3_160 : (Cond.methodLink R_RU 55 y_SQ_append : Cond) ∈ gw := gw_3 (k := 160) rfl rfl
theorem m3_161 : (Cond.instanceMethod y_SQ_append : Cond) ∈ gw := gw_3 (k := 161) rfl rfl
theorem m3_162 : (Cond.selects R_SQ y_SQ_append y_SQ_append : Cond) ∈ gw := gw_3 (k := 162) rfl rfl
theorem m3_163 : (Cond.code y_SQ_append prog_9_method_3_code 2 none : Cond) ∈ gw := gw_3 (k := 163) rfl rfl
theorem m3_164 : (Cond.methodLink R_RU 58 y_RU_runBehind : Cond) ∈ gw := gw_3 (k := 164) rfl rfl
theorem m3_166 : (Cond.instanceMethod y_RU_runBehind : Cond) ∈ gw := gw_3 (k := 166) rfl rfl
theorem m3_167 : (Cond.code y_RU_runBehind prog_8_method_6_code 4 (some .int) : Cond) ∈ gw := gw_3 (k := 167) rfl rfl
theorem m3_169 : (Cond.methodLink R_RU 62 (⟨"java/lang/Math", "max", "(II)I"⟩ : MethodName) : Cond) ∈ gw := gw_3 (k := 169) rfl rfl
theorem m3_171 : (Cond.methodLink R_RU 74 y_RU_levelBehind : Cond) ∈ gw := gw_3 (k := 171) rfl rfl
theorem m3_173 : (Cond.instanceMethod y_RU_levelBehind : Cond) ∈ gw := gw_3 (k := 173) rfl rfl
theorem m3_174 : (Cond.code y_RU_levelBehind prog_8_method_7_code 4 (some .int) : Cond) ∈ gw := gw_3 (k := 174) rfl rfl
theorem m3_175 : (Cond.methodLink R_RS 124 y_WK_apply : Cond) ∈ gw := gw_3 (k := 175) rfl rfl
theorem m3_176 : (Cond.instanceMethod y_WK_apply : Cond) ∈ gw := gw_3 (k := 176) rfl rfl
theorem m3_177 : (Cond.selects R_WK y_WK_apply y_WK_apply : Cond) ∈ gw := gw_3 (k := 177) rfl rfl
theorem m3_178 : (Cond.code y_WK_apply prog_11_method_2_code 1 none : Cond) ∈ gw := gw_3 (k := 178) rfl rfl
theorem m3_179 : (Cond.methodLink R_WK 19 y_WK_settleMarks : Cond) ∈ gw := gw_3 (k := 179) rfl rfl
theorem m3_181 : (Cond.instanceMethod y_WK_settleMarks : Cond) ∈ gw := gw_3 (k := 181) rfl rfl
theorem m3_182 : (Cond.code y_WK_settleMarks prog_11_method_3_code 2 none : Cond) ∈ gw := gw_3 (k := 182) rfl rfl
theorem m3_183 : (Cond.methodLink R_WK 50 y_WK_classForMark : Cond) ∈ gw := gw_3 (k := 183) rfl rfl
theorem m3_185 : (Cond.instanceMethod y_WK_classForMark : Cond) ∈ gw := gw_3 (k := 185) rfl rfl
theorem m3_186 : (Cond.code y_WK_classForMark prog_11_method_4_code 3 (some .int) : Cond) ∈ gw := gw_3 (k := 186) rfl rfl
theorem m3_188 : (Cond.methodLink R_WK 22 y_WK_arabicNumbers : Cond) ∈ gw := gw_3 (k := 188) rfl rfl
theorem m3_190 : (Cond.instanceMethod y_WK_arabicNumbers : Cond) ∈ gw := gw_3 (k := 190) rfl rfl
theorem m3_191 : (Cond.code y_WK_arabicNumbers prog_11_method_5_code 4 none : Cond) ∈ gw := gw_3 (k := 191) rfl rfl
theorem m3_192 : (Cond.methodLink R_WK 25 y_WK_arabicLetters : Cond) ∈ gw := gw_3 (k := 192) rfl rfl
theorem m3_194 : (Cond.instanceMethod y_WK_arabicLetters : Cond) ∈ gw := gw_3 (k := 194) rfl rfl
theorem m3_195 : (Cond.code y_WK_arabicLetters prog_11_method_6_code 2 none : Cond) ∈ gw := gw_3 (k := 195) rfl rfl
theorem m3_196 : (Cond.methodLink R_WK 28 y_WK_separators : Cond) ∈ gw := gw_3 (k := 196) rfl rfl
theorem m3_198 : (Cond.instanceMethod y_WK_separators : Cond) ∈ gw := gw_3 (k := 198) rfl rfl
theorem m3_199 : (Cond.code y_WK_separators prog_11_method_7_code 3 none : Cond) ∈ gw := gw_3 (k := 199) rfl rfl
theorem m3_200 : (Cond.methodLink R_WK 69 y_WK_isBetween : Cond) ∈ gw := gw_3 (k := 200) rfl rfl
theorem m3_202 : (Cond.instanceMethod y_WK_isBetween : Cond) ∈ gw := gw_3 (k := 202) rfl rfl
theorem m3_203 : (Cond.code y_WK_isBetween prog_11_method_8_code 3 (some .boolean) : Cond) ∈ gw := gw_3 (k := 203) rfl rfl
theorem m3_204 : (Cond.methodLink R_WK 73 y_SQ_isNow : Cond) ∈ gw := gw_3 (k := 204) rfl rfl
theorem m3_205 : (Cond.instanceMethod y_SQ_isNow : Cond) ∈ gw := gw_3 (k := 205) rfl rfl
theorem m3_206 : (Cond.selects R_SQ y_SQ_isNow y_SQ_isNow : Cond) ∈ gw := gw_3 (k := 206) rfl rfl
theorem m3_207 : (Cond.code y_SQ_isNow prog_9_method_5_code 3 (some .boolean) : Cond) ∈ gw := gw_3 (k := 207) rfl rfl
theorem m3_208 : (Cond.methodLink R_WK 31 y_WK_terminators : Cond) ∈ gw := gw_3 (k := 208) rfl rfl
theorem m3_210 : (Cond.instanceMethod y_WK_terminators : Cond) ∈ gw := gw_3 (k := 210) rfl rfl
theorem m3_211 : (Cond.code y_WK_terminators prog_11_method_9_code 4 none : Cond) ∈ gw := gw_3 (k := 211) rfl rfl
theorem m3_212 : (Cond.methodLink R_WK 34 y_WK_restToNeutral : Cond) ∈ gw := gw_3 (k := 212) rfl rfl
theorem m3_214 : (Cond.instanceMethod y_WK_restToNeutral : Cond) ∈ gw := gw_3 (k := 214) rfl rfl
theorem m3_215 : (Cond.code y_WK_restToNeutral prog_11_method_10_code 3 none : Cond) ∈ gw := gw_3 (k := 215) rfl rfl
theorem m3_216 : (Cond.methodLink R_WK 37 y_WK_latinNumbers : Cond) ∈ gw := gw_3 (k := 216) rfl rfl
theorem m3_218 : (Cond.instanceMethod y_WK_latinNumbers : Cond) ∈ gw := gw_3 (k := 218) rfl rfl
theorem m3_219 : (Cond.code y_WK_latinNumbers prog_11_method_11_code 4 none : Cond) ∈ gw := gw_3 (k := 219) rfl rfl
theorem m3_220 : (Cond.methodLink R_RS 127 y_BR_apply : Cond) ∈ gw := gw_3 (k := 220) rfl rfl
theorem m3_221 : (Cond.instanceMethod y_BR_apply : Cond) ∈ gw := gw_3 (k := 221) rfl rfl
theorem m3_222 : (Cond.selects R_BR y_BR_apply y_BR_apply : Cond) ∈ gw := gw_3 (k := 222) rfl rfl
theorem m3_223 : (Cond.code y_BR_apply prog_2_method_2_code 2 none : Cond) ∈ gw := gw_3 (k := 223) rfl rfl
theorem m3_224 : (Cond.methodLink R_BR 37 y_BR_findPairs : Cond) ∈ gw := gw_3 (k := 224) rfl rfl
theorem m3_226 : (Cond.instanceMethod y_BR_findPairs : Cond) ∈ gw := gw_3 (k := 226) rfl rfl
theorem m3_227 : (Cond.code y_BR_findPairs prog_2_method_3_code 4 none : Cond) ∈ gw := gw_3 (k := 227) rfl rfl
theorem m3_228 : (Cond.methodLink R_BR 60 y_PR_otherOf : Cond) ∈ gw := gw_3 (k := 228) rfl rfl
theorem m3_229 : (Cond.methodLink R_BR 66 y_BR_closeOne : Cond) ∈ gw := gw_3 (k := 229) rfl rfl
theorem m3_231 : (Cond.instanceMethod y_BR_closeOne : Cond) ∈ gw := gw_3 (k := 231) rfl rfl
theorem m3_232 : (Cond.code y_BR_closeOne prog_2_method_4_code 4 none : Cond) ∈ gw := gw_3 (k := 232) rfl rfl
theorem m3_233 : (Cond.methodLink R_BR 45 y_BR_settlePair : Cond) ∈ gw := gw_3 (k := 233) rfl rfl
theorem m3_235 : (Cond.instanceMethod y_BR_settlePair : Cond) ∈ gw := gw_3 (k := 235) rfl rfl
theorem m3_236 : (Cond.code y_BR_settlePair prog_2_method_5_code 5 none : Cond) ∈ gw := gw_3 (k := 236) rfl rfl
theorem m3_237 : (Cond.methodLink R_BR 69 y_BR_sideInside : Cond) ∈ gw := gw_3 (k := 237) rfl rfl
theorem m3_239 : (Cond.instanceMethod y_BR_sideInside : Cond) ∈ gw := gw_3 (k := 239) rfl rfl
theorem m4_0 : (Cond.code y_BR_sideInside prog_2_method_6_code 6 (some .int) : Cond) ∈ gw := gw_4 (k := 0) rfl rfl
theorem m4_1 : (Cond.methodLink R_BR 82 y_SQ_sideAt : Cond) ∈ gw := gw_4 (k := 1) rfl rfl
theorem m4_2 : (Cond.instanceMethod y_SQ_sideAt : Cond) ∈ gw := gw_4 (k := 2) rfl rfl
theorem m4_3 : (Cond.selects R_SQ y_SQ_sideAt y_SQ_sideAt : Cond) ∈ gw := gw_4 (k := 3) rfl rfl
theorem m4_4 : (Cond.code y_SQ_sideAt prog_9_method_7_code 2 (some .int) : Cond) ∈ gw := gw_4 (k := 4) rfl rfl
theorem m4_5 : (Cond.methodLink R_BR 76 y_BR_sideBefore : Cond) ∈ gw := gw_4 (k := 5) rfl rfl
theorem m4_7 : (Cond.instanceMethod y_BR_sideBefore : Cond) ∈ gw := gw_4 (k := 7) rfl rfl
theorem m4_8 : (Cond.code y_BR_sideBefore prog_2_method_7_code 4 (some .int) : Cond) ∈ gw := gw_4 (k := 8) rfl rfl
theorem m4_9 : (Cond.methodLink R_BR 79 y_BR_give : Cond) ∈ gw := gw_4 (k := 9) rfl rfl
theorem m4_11 : (Cond.instanceMethod y_BR_give : Cond) ∈ gw := gw_4 (k := 11) rfl rfl
theorem m4_12 : (Cond.code y_BR_give prog_2_method_8_code 4 none : Cond) ∈ gw := gw_4 (k := 12) rfl rfl
theorem m4_13 : (Cond.methodLink R_BR 88 y_SQ_wasMark : Cond) ∈ gw := gw_4 (k := 13) rfl rfl
theorem m4_14 : (Cond.instanceMethod y_SQ_wasMark : Cond) ∈ gw := gw_4 (k := 14) rfl rfl
theorem m4_15 : (Cond.selects R_SQ y_SQ_wasMark y_SQ_wasMark : Cond) ∈ gw := gw_4 (k := 15) rfl rfl
theorem m4_16 : (Cond.code y_SQ_wasMark prog_9_method_6_code 2 (some .boolean) : Cond) ∈ gw := gw_4 (k := 16) rfl rfl
theorem m4_17 : (Cond.methodLink R_RS 128 y_SQ_settleNeutrals : Cond) ∈ gw := gw_4 (k := 17) rfl rfl
theorem m4_18 : (Cond.instanceMethod y_SQ_settleNeutrals : Cond) ∈ gw := gw_4 (k := 18) rfl rfl
theorem m4_19 : (Cond.selects R_SQ y_SQ_settleNeutrals y_SQ_settleNeutrals : Cond) ∈ gw := gw_4 (k := 19) rfl rfl
theorem m4_20 : (Cond.code y_SQ_settleNeutrals prog_9_method_8_code 6 none : Cond) ∈ gw := gw_4 (k := 20) rfl rfl
theorem m4_21 : (Cond.methodLink R_SQ 44 y_SQ_sideAt : Cond) ∈ gw := gw_4 (k := 21) rfl rfl
theorem m4_22 : (Cond.methodLink R_RS 131 y_SQ_writeKinds : Cond) ∈ gw := gw_4 (k := 22) rfl rfl
theorem m4_23 : (Cond.instanceMethod y_SQ_writeKinds : Cond) ∈ gw := gw_4 (k := 23) rfl rfl
theorem m4_24 : (Cond.selects R_SQ y_SQ_writeKinds y_SQ_writeKinds : Cond) ∈ gw := gw_4 (k := 24) rfl rfl
theorem m4_25 : (Cond.code y_SQ_writeKinds prog_9_method_4_code 2 none : Cond) ∈ gw := gw_4 (k := 25) rfl rfl
theorem m4_26 : (Cond.methodLink R_RS 104 y_RS_raiseLevels : Cond) ∈ gw := gw_4 (k := 26) rfl rfl
theorem m4_28 : (Cond.instanceMethod y_RS_raiseLevels : Cond) ∈ gw := gw_4 (k := 28) rfl rfl
theorem m4_29 : (Cond.code y_RS_raiseLevels prog_7_method_6_code 4 none : Cond) ∈ gw := gw_4 (k := 29) rfl rfl
theorem m4_30 : (Cond.methodLink R_RS 140 y_RS_raiseOf : Cond) ∈ gw := gw_4 (k := 30) rfl rfl
theorem m4_31 : (Cond.static y_RS_raiseOf : Cond) ∈ gw := gw_4 (k := 31) rfl rfl
theorem m4_32 : (Cond.code y_RS_raiseOf prog_7_method_7_code 3 (some .int) : Cond) ∈ gw := gw_4 (k := 32) rfl rfl
theorem m4_34 : (Cond.static y_BL_isOdd : Cond) ∈ gw := gw_4 (k := 34) rfl rfl
theorem m4_35 : (Cond.code y_BL_isOdd prog_1_method_24_code 1 (some .boolean) : Cond) ∈ gw := gw_4 (k := 35) rfl rfl
theorem m4_36 : (Cond.methodLink R_LW 89 y_LW_paragraph : Cond) ∈ gw := gw_4 (k := 36) rfl rfl
theorem m4_37 : (Cond.static y_LW_paragraph : Cond) ∈ gw := gw_4 (k := 37) rfl rfl
theorem m4_38 : (Cond.codeWith y_LW_paragraph method_8_code 5 (some .int) [(0, 10, 13, 15), (0, 10, 17, 36)] : Cond) ∈ gw := gw_4 (k := 38) rfl rfl
theorem m4_39 : (Cond.classLink R_LW 36 "java/lang/IndexOutOfBoundsException" : Cond) ∈ gw := gw_4 (k := 39) rfl rfl
theorem m4_40 : (Cond.methodLink R_LW 32 y_BL_paragraph : Cond) ∈ gw := gw_4 (k := 40) rfl rfl
theorem m4_41 : (Cond.instanceMethod y_BL_paragraph : Cond) ∈ gw := gw_4 (k := 41) rfl rfl
theorem m4_42 : (Cond.selects R_BL y_BL_paragraph y_BL_paragraph : Cond) ∈ gw := gw_4 (k := 42) rfl rfl
theorem m4_43 : (Cond.code y_BL_paragraph prog_1_method_8_code 3 (some .int) : Cond) ∈ gw := gw_4 (k := 43) rfl rfl
theorem m4_44 : (Cond.methodLink R_BL 103 y_BL_needLevels : Cond) ∈ gw := gw_4 (k := 44) rfl rfl
theorem m4_46 : (Cond.instanceMethod y_BL_needLevels : Cond) ∈ gw := gw_4 (k := 46) rfl rfl
theorem m4_47 : (Cond.code y_BL_needLevels prog_1_method_17_code 1 none : Cond) ∈ gw := gw_4 (k := 47) rfl rfl
theorem m4_49 : (Cond.classLink R_BL 106 "java/lang/IndexOutOfBoundsException" : Cond) ∈ gw := gw_4 (k := 49) rfl rfl
theorem m4_50 : (Cond.instantiable "java/lang/IndexOutOfBoundsException" 6 : Cond) ∈ gw := gw_4 (k := 50) rfl rfl
theorem m4_52 : (Cond.selects "java/lang/IndexOutOfBoundsException" (⟨"java/lang/Throwable", "fillInStackTrace", "(I)Ljava/lang/Throwable;"⟩ : MethodName) (⟨"java/lang/Throwable", "fillInStackTrace", "(I)Ljava/lang/Throwable;"⟩ : MethodName) : Cond) ∈ gw := gw_4 (k := 52) rfl rfl
theorem m4_53 : (Cond.lays "java/lang/IndexOutOfBoundsException" "java/lang/Throwable" "cause" "Ljava/lang/Throwable;" : Cond) ∈ gw := gw_4 (k := 53) rfl rfl
theorem m4_54 : (Cond.lays "java/lang/IndexOutOfBoundsException" "java/lang/Throwable" "stackTrace" "[Ljava/lang/StackTraceElement;" : Cond) ∈ gw := gw_4 (k := 54) rfl rfl
theorem m4_55 : (Cond.lays "java/lang/IndexOutOfBoundsException" "java/lang/Throwable" "suppressedExceptions" "Ljava/util/List;" : Cond) ∈ gw := gw_4 (k := 55) rfl rfl
theorem m4_56 : (Cond.lays "java/lang/IndexOutOfBoundsException" "java/lang/Throwable" "detailMessage" "Ljava/lang/String;" : Cond) ∈ gw := gw_4 (k := 56) rfl rfl
theorem m4_57 : (Cond.lays "java/lang/IndexOutOfBoundsException" "java/lang/Throwable" "backtrace" "Ljava/lang/Object;" : Cond) ∈ gw := gw_4 (k := 57) rfl rfl
theorem m4_59 : (Cond.methodLink R_BL 110 (⟨"java/lang/IndexOutOfBoundsException", "<init>", "(Ljava/lang/String;)V"⟩ : MethodName) : Cond) ∈ gw := gw_4 (k := 59) rfl rfl
theorem m4_60 : (Cond.instanceMethod (⟨"java/lang/IndexOutOfBoundsException", "<init>", "(Ljava/lang/String;)V"⟩ : MethodName) : Cond) ∈ gw := gw_4 (k := 60) rfl rfl
theorem m4_61 : (Cond.code (⟨"java/lang/IndexOutOfBoundsException", "<init>", "(Ljava/lang/String;)V"⟩ : MethodName) prog_17_method_2_code 2 none : Cond) ∈ gw := gw_4 (k := 61) rfl rfl
theorem m4_62 : (Cond.methodLink "java/lang/IndexOutOfBoundsException" 7 (⟨"java/lang/RuntimeException", "<init>", "(Ljava/lang/String;)V"⟩ : MethodName) : Cond) ∈ gw := gw_4 (k := 62) rfl rfl
theorem m4_63 : (Cond.lays "java/lang/IndexOutOfBoundsException" "java/lang/Throwable" "depth" "I" : Cond) ∈ gw := gw_4 (k := 63) rfl rfl
theorem m4_66 : (Cond.methodLink R_LW 93 y_LW_level : Cond) ∈ gw := gw_4 (k := 66) rfl rfl
theorem m4_67 : (Cond.static y_LW_level : Cond) ∈ gw := gw_4 (k := 67) rfl rfl
theorem m4_68 : (Cond.codeWith y_LW_level method_9_code 4 (some .int) [(0, 9, 12, 15), (0, 9, 15, 36)] : Cond) ∈ gw := gw_4 (k := 68) rfl rfl
theorem m4_69 : (Cond.methodLink R_LW 38 y_BL_level : Cond) ∈ gw := gw_4 (k := 69) rfl rfl
theorem m4_70 : (Cond.instanceMethod y_BL_level : Cond) ∈ gw := gw_4 (k := 70) rfl rfl
theorem m4_71 : (Cond.selects R_BL y_BL_level y_BL_level : Cond) ∈ gw := gw_4 (k := 71) rfl rfl
theorem m4_72 : (Cond.code y_BL_level prog_1_method_9_code 2 (some .int) : Cond) ∈ gw := gw_4 (k := 72) rfl rfl
theorem m4_73 : (Cond.methodLink R_BL 126 y_BL_needPosition : Cond) ∈ gw := gw_4 (k := 73) rfl rfl
theorem m4_75 : (Cond.instanceMethod y_BL_needPosition : Cond) ∈ gw := gw_4 (k := 75) rfl rfl
theorem m4_76 : (Cond.code y_BL_needPosition prog_1_method_19_code 2 none : Cond) ∈ gw := gw_4 (k := 76) rfl rfl
theorem m4_78 : (Cond.methodLink R_LW 96 y_LW_kind : Cond) ∈ gw := gw_4 (k := 78) rfl rfl
theorem m4_79 : (Cond.static y_LW_kind : Cond) ∈ gw := gw_4 (k := 79) rfl rfl
theorem m4_80 : (Cond.codeWith y_LW_kind method_10_code 4 (some .int) [(0, 9, 12, 15), (0, 9, 15, 36)] : Cond) ∈ gw := gw_4 (k := 80) rfl rfl
theorem m4_81 : (Cond.methodLink R_LW 41 y_BL_kind : Cond) ∈ gw := gw_4 (k := 81) rfl rfl
theorem m4_82 : (Cond.instanceMethod y_BL_kind : Cond) ∈ gw := gw_4 (k := 82) rfl rfl
theorem m4_83 : (Cond.selects R_BL y_BL_kind y_BL_kind : Cond) ∈ gw := gw_4 (k := 83) rfl rfl
theorem m4_84 : (Cond.code y_BL_kind prog_1_method_10_code 2 (some .int) : Cond) ∈ gw := gw_4 (k := 84) rfl rfl
theorem m4_85 : (Cond.methodLink R_LW 99 y_LW_match : Cond) ∈ gw := gw_4 (k := 85) rfl rfl
theorem m4_86 : (Cond.static y_LW_match : Cond) ∈ gw := gw_4 (k := 86) rfl rfl
theorem m4_87 : (Cond.codeWith y_LW_match method_11_code 4 (some .int) [(0, 9, 12, 15), (0, 9, 15, 36)] : Cond) ∈ gw := gw_4 (k := 87) rfl rfl
theorem m4_88 : (Cond.methodLink R_LW 44 y_BL_match : Cond) ∈ gw := gw_4 (k := 88) rfl rfl
theorem m4_89 : (Cond.instanceMethod y_BL_match : Cond) ∈ gw := gw_4 (k := 89) rfl rfl
theorem m4_90 : (Cond.selects R_BL y_BL_match y_BL_match : Cond) ∈ gw := gw_4 (k := 90) rfl rfl
theorem m4_91 : (Cond.code y_BL_match prog_1_method_11_code 2 (some .int) : Cond) ∈ gw := gw_4 (k := 91) rfl rfl
theorem m4_92 : (Cond.methodLink R_LW 102 y_LW_line : Cond) ∈ gw := gw_4 (k := 92) rfl rfl
theorem m4_93 : (Cond.static y_LW_line : Cond) ∈ gw := gw_4 (k := 93) rfl rfl
theorem m4_94 : (Cond.codeWith y_LW_line method_12_code 5 (some .int) [(0, 10, 13, 15), (0, 10, 17, 36), (0, 10, 21, 13)] : Cond) ∈ gw := gw_4 (k := 94) rfl rfl
theorem m4_95 : (Cond.methodLink R_LW 47 y_BL_line : Cond) ∈ gw := gw_4 (k := 95) rfl rfl
theorem m4_96 : (Cond.instanceMethod y_BL_line : Cond) ∈ gw := gw_4 (k := 96) rfl rfl
theorem m4_97 : (Cond.selects R_BL y_BL_line y_BL_line : Cond) ∈ gw := gw_4 (k := 97) rfl rfl
theorem m4_98 : (Cond.code y_BL_line prog_1_method_12_code 4 (some .int) : Cond) ∈ gw := gw_4 (k := 98) rfl rfl
theorem m4_101 : (Cond.methodLink R_BL 142 y_RS_paragraphWith : Cond) ∈ gw := gw_4 (k := 101) rfl rfl
theorem m4_102 : (Cond.instanceMethod y_RS_paragraphWith : Cond) ∈ gw := gw_4 (k := 102) rfl rfl
theorem m4_103 : (Cond.selects R_RS y_RS_paragraphWith y_RS_paragraphWith : Cond) ∈ gw := gw_4 (k := 103) rfl rfl
theorem m4_104 : (Cond.code y_RS_paragraphWith prog_7_method_4_code 3 (some .int) : Cond) ∈ gw := gw_4 (k := 104) rfl rfl
theorem m4_106 : (Cond.methodLink R_BL 148 y_LN_show : Cond) ∈ gw := gw_4 (k := 106) rfl rfl
theorem m4_107 : (Cond.instanceMethod y_LN_show : Cond) ∈ gw := gw_4 (k := 107) rfl rfl
theorem m4_108 : (Cond.selects R_LN y_LN_show y_LN_show : Cond) ∈ gw := gw_4 (k := 108) rfl rfl
theorem m4_109 : (Cond.code y_LN_show prog_5_method_2_code 4 none : Cond) ∈ gw := gw_4 (k := 109) rfl rfl
theorem m4_110 : (Cond.methodLink R_LN 29 y_LN_setLevels : Cond) ∈ gw := gw_4 (k := 110) rfl rfl
theorem m4_112 : (Cond.instanceMethod y_LN_setLevels : Cond) ∈ gw := gw_4 (k := 112) rfl rfl
theorem m4_113 : (Cond.code y_LN_setLevels prog_5_method_3_code 9 none : Cond) ∈ gw := gw_4 (k := 113) rfl rfl
theorem m4_115 : (Cond.methodLink R_LN 33 y_LN_setOrder : Cond) ∈ gw := gw_4 (k := 115) rfl rfl
theorem m4_117 : (Cond.instanceMethod y_LN_setOrder : Cond) ∈ gw := gw_4 (k := 117) rfl rfl
theorem m4_118 : (Cond.code y_LN_setOrder prog_5_method_4_code 4 none : Cond) ∈ gw := gw_4 (k := 118) rfl rfl
theorem m4_119 : (Cond.methodLink R_LN 37 y_LN_turnRows : Cond) ∈ gw := gw_4 (k := 119) rfl rfl
theorem m4_121 : (Cond.instanceMethod y_LN_turnRows : Cond) ∈ gw := gw_4 (k := 121) rfl rfl
theorem m4_122 : (Cond.code y_LN_turnRows prog_5_method_5_code 5 none : Cond) ∈ gw := gw_4 (k := 122) rfl rfl
theorem m4_123 : (Cond.methodLink R_LN 53 (⟨"java/lang/Math", "max", "(II)I"⟩ : MethodName) : Cond) ∈ gw := gw_4 (k := 123) rfl rfl
theorem m4_125 : (Cond.methodLink R_LN 62 (⟨"java/lang/Math", "min", "(II)I"⟩ : MethodName) : Cond) ∈ gw := gw_4 (k := 125) rfl rfl
theorem m4_126 : (Cond.static (⟨"java/lang/Math", "min", "(II)I"⟩ : MethodName) : Cond) ∈ gw := gw_4 (k := 126) rfl rfl
theorem m4_127 : (Cond.code (⟨"java/lang/Math", "min", "(II)I"⟩ : MethodName) prog_18_method_69_code 2 (some .int) : Cond) ∈ gw := gw_4 (k := 127) rfl rfl
theorem m4_128 : (Cond.methodLink R_LN 65 y_LN_turnRowsFrom : Cond) ∈ gw := gw_4 (k := 128) rfl rfl
theorem m4_130 : (Cond.instanceMethod y_LN_turnRowsFrom : Cond) ∈ gw := gw_4 (k := 130) rfl rfl
theorem m4_131 : (Cond.code y_LN_turnRowsFrom prog_5_method_6_code 4 none : Cond) ∈ gw := gw_4 (k := 131) rfl rfl
theorem m4_132 : (Cond.methodLink R_LN 69 y_LN_turn : Cond) ∈ gw := gw_4 (k := 132) rfl rfl
theorem m4_134 : (Cond.instanceMethod y_LN_turn : Cond) ∈ gw := gw_4 (k := 134) rfl rfl
theorem m4_135 : (Cond.code y_LN_turn prog_5_method_7_code 6 none : Cond) ∈ gw := gw_4 (k := 135) rfl rfl
theorem m4_136 : (Cond.methodLink R_LN 40 y_LN_setPlaces : Cond) ∈ gw := gw_4 (k := 136) rfl rfl
theorem m4_138 : (Cond.instanceMethod y_LN_setPlaces : Cond) ∈ gw := gw_4 (k := 138) rfl rfl
theorem m4_139 : (Cond.code y_LN_setPlaces prog_5_method_8_code 2 none : Cond) ∈ gw := gw_4 (k := 139) rfl rfl
theorem m4_140 : (Cond.methodLink R_LW 105 y_LW_seen : Cond) ∈ gw := gw_4 (k := 140) rfl rfl
theorem m4_141 : (Cond.static y_LW_seen : Cond) ∈ gw := gw_4 (k := 141) rfl rfl
theorem m4_142 : (Cond.codeWith y_LW_seen method_13_code 5 (some .int) [(0, 10, 13, 15), (0, 10, 17, 36)] : Cond) ∈ gw := gw_4 (k := 142) rfl rfl
theorem m4_143 : (Cond.methodLink R_LW 50 y_BL_seen : Cond) ∈ gw := gw_4 (k := 143) rfl rfl
theorem m4_144 : (Cond.instanceMethod y_BL_seen : Cond) ∈ gw := gw_4 (k := 144) rfl rfl
theorem m4_145 : (Cond.selects R_BL y_BL_seen y_BL_seen : Cond) ∈ gw := gw_4 (k := 145) rfl rfl
theorem m4_146 : (Cond.code y_BL_seen prog_1_method_13_code 4 (some .int) : Cond) ∈ gw := gw_4 (k := 146) rfl rfl
theorem m4_147 : (Cond.methodLink R_BL 152 y_BL_needLine : Cond) ∈ gw := gw_4 (k := 147) rfl rfl
theorem m4_149 : (Cond.instanceMethod y_BL_needLine : Cond) ∈ gw := gw_4 (k := 149) rfl rfl
theorem m4_150 : (Cond.code y_BL_needLine prog_1_method_18_code 1 none : Cond) ∈ gw := gw_4 (k := 150) rfl rfl
theorem m4_153 : (Cond.methodLink R_BL 161 y_BL_asSeen : Cond) ∈ gw := gw_4 (k := 153) rfl rfl
theorem m4_155 : (Cond.instanceMethod y_BL_asSeen : Cond) ∈ gw := gw_4 (k := 155) rfl rfl
theorem m4_156 : (Cond.code y_BL_asSeen prog_1_method_20_code 4 (some .int) : Cond) ∈ gw := gw_4 (k := 156) rfl rfl
theorem m4_157 : (Cond.methodLink R_BL 190 y_PR_partnerOf : Cond) ∈ gw := gw_4 (k := 157) rfl rfl
theorem m4_158 : (Cond.methodLink R_BL 193 y_BL_isOdd : Cond) ∈ gw := gw_4 (k := 158) rfl rfl
theorem m4_159 : (Cond.methodLink R_LW 108 y_LW_place : Cond) ∈ gw := gw_4 (k := 159) rfl rfl
theorem m4_160 : (Cond.static y_LW_place : Cond) ∈ gw := gw_4 (k := 160) rfl rfl
theorem m4_161 : (Cond.codeWith y_LW_place method_14_code 4 (some .int) [(0, 9, 12, 15), (0, 9, 15, 36)] : Cond) ∈ gw := gw_4 (k := 161) rfl rfl
theorem m4_162 : (Cond.methodLink R_LW 53 y_BL_place : Cond) ∈ gw := gw_4 (k := 162) rfl rfl
theorem m4_163 : (Cond.instanceMethod y_BL_place : Cond) ∈ gw := gw_4 (k := 163) rfl rfl
theorem m4_164 : (Cond.selects R_BL y_BL_place y_BL_place : Cond) ∈ gw := gw_4 (k := 164) rfl rfl
theorem m4_165 : (Cond.code y_BL_place prog_1_method_14_code 2 (some .int) : Cond) ∈ gw := gw_4 (k := 165) rfl rfl
theorem m4_166 : (Cond.classLink R_LW 57 R_MD : Cond) ∈ gw := gw_4 (k := 166) rfl rfl
theorem m4_167 : (Cond.instantiable R_MD 37 : Cond) ∈ gw := gw_4 (k := 167) rfl rfl
theorem m4_168 : (Cond.methodLink R_LW 59 y_MD_init : Cond) ∈ gw := gw_4 (k := 168) rfl rfl
theorem m4_169 : (Cond.instanceMethod y_MD_init : Cond) ∈ gw := gw_4 (k := 169) rfl rfl
theorem m4_170 : (Cond.code y_MD_init prog_13_method_1_code 1 none : Cond) ∈ gw := gw_4 (k := 170) rfl rfl
theorem m4_171 : (Cond.methodLink R_MD 1 objectInit : Cond) ∈ gw := gw_4 (k := 171) rfl rfl
theorem m4_172 : (Cond.fieldLink R_MD 77 R_MD "fault" "I" : Cond) ∈ gw := gw_4 (k := 172) rfl rfl
theorem m4_173 : (Cond.fieldLink R_MD 119 R_MD "size" "I" : Cond) ∈ gw := gw_4 (k := 173) rfl rfl
theorem m4_174 : (Cond.fieldLink R_MD 7 R_MD "text" "[I" : Cond) ∈ gw := gw_4 (k := 174) rfl rfl
theorem m4_175 : (Cond.fieldLink R_MD 86 R_MD "ranges" "I" : Cond) ∈ gw := gw_4 (k := 175) rfl rfl
theorem m4_176 : (Cond.fieldLink R_MD 13 R_MD "firsts" "[I" : Cond) ∈ gw := gw_4 (k := 176) rfl rfl
theorem m4_177 : (Cond.fieldLink R_MD 16 R_MD "lasts" "[I" : Cond) ∈ gw := gw_4 (k := 177) rfl rfl
theorem m4_178 : (Cond.fieldLink R_MD 19 R_MD "kinds" "[I" : Cond) ∈ gw := gw_4 (k := 178) rfl rfl
theorem m4_179 : (Cond.fieldLink R_MD 103 R_MD "brackets" "I" : Cond) ∈ gw := gw_4 (k := 179) rfl rfl
theorem m4_180 : (Cond.fieldLink R_MD 22 R_MD "openings" "[I" : Cond) ∈ gw := gw_4 (k := 180) rfl rfl
theorem m4_181 : (Cond.fieldLink R_MD 25 R_MD "closings" "[I" : Cond) ∈ gw := gw_4 (k := 181) rfl rfl
theorem m4_182 : (Cond.fieldLink R_MD 109 R_MD "mirrors" "I" : Cond) ∈ gw := gw_4 (k := 182) rfl rfl
theorem m4_183 : (Cond.fieldLink R_MD 28 R_MD "ones" "[I" : Cond) ∈ gw := gw_4 (k := 183) rfl rfl
theorem m4_184 : (Cond.fieldLink R_MD 31 R_MD "others" "[I" : Cond) ∈ gw := gw_4 (k := 184) rfl rfl
theorem m4_185 : (Cond.fieldLink R_MD 92 R_MD "isResolved" "Z" : Cond) ∈ gw := gw_4 (k := 185) rfl rfl
theorem m4_186 : (Cond.fieldLink R_MD 34 R_MD "first" "[I" : Cond) ∈ gw := gw_4 (k := 186) rfl rfl
theorem m4_187 : (Cond.fieldLink R_MD 37 R_MD "now" "[I" : Cond) ∈ gw := gw_4 (k := 187) rfl rfl
theorem m4_188 : (Cond.fieldLink R_MD 40 R_MD "before" "[I" : Cond) ∈ gw := gw_4 (k := 188) rfl rfl
theorem m4_189 : (Cond.fieldLink R_MD 43 R_MD "level" "[I" : Cond) ∈ gw := gw_4 (k := 189) rfl rfl
theorem m4_190 : (Cond.fieldLink R_MD 46 R_MD "match" "[I" : Cond) ∈ gw := gw_4 (k := 190) rfl rfl
theorem m4_191 : (Cond.fieldLink R_MD 236 R_MD "paragraphs" "I" : Cond) ∈ gw := gw_4 (k := 191) rfl rfl
theorem m4_192 : (Cond.fieldLink R_MD 49 R_MD "parts" "[I" : Cond) ∈ gw := gw_4 (k := 192) rfl rfl
theorem m4_193 : (Cond.fieldLink R_MD 129 R_MD "depth" "I" : Cond) ∈ gw := gw_4 (k := 193) rfl rfl
theorem m4_194 : (Cond.fieldLink R_MD 52 R_MD "stackLevel" "[I" : Cond) ∈ gw := gw_4 (k := 194) rfl rfl
theorem m4_195 : (Cond.fieldLink R_MD 55 R_MD "stackOverride" "[I" : Cond) ∈ gw := gw_4 (k := 195) rfl rfl
theorem m4_196 : (Cond.fieldLink R_MD 58 R_MD "stackIsolate" "[Z" : Cond) ∈ gw := gw_4 (k := 196) rfl rfl
theorem m4_197 : (Cond.fieldLink R_MD 155 R_MD "length" "I" : Cond) ∈ gw := gw_4 (k := 197) rfl rfl
theorem m4_198 : (Cond.fieldLink R_MD 62 R_MD "places" "[I" : Cond) ∈ gw := gw_4 (k := 198) rfl rfl
theorem m4_199 : (Cond.fieldLink R_MD 171 R_MD "head" "I" : Cond) ∈ gw := gw_4 (k := 199) rfl rfl
theorem m4_200 : (Cond.fieldLink R_MD 174 R_MD "tail" "I" : Cond) ∈ gw := gw_4 (k := 200) rfl rfl
theorem m4_201 : (Cond.fieldLink R_MD 165 R_MD "sequenceLevel" "I" : Cond) ∈ gw := gw_4 (k := 201) rfl rfl
theorem m4_202 : (Cond.fieldLink R_MD 193 R_MD "waiting" "I" : Cond) ∈ gw := gw_4 (k := 202) rfl rfl
theorem m4_203 : (Cond.fieldLink R_MD 65 R_MD "waits" "[I" : Cond) ∈ gw := gw_4 (k := 203) rfl rfl
theorem m4_204 : (Cond.fieldLink R_MD 68 R_MD "pair" "[I" : Cond) ∈ gw := gw_4 (k := 204) rfl rfl
theorem m4_205 : (Cond.fieldLink R_MD 245 R_MD "isLine" "Z" : Cond) ∈ gw := gw_4 (k := 205) rfl rfl
theorem m4_206 : (Cond.fieldLink R_MD 251 R_MD "lineSize" "I" : Cond) ∈ gw := gw_4 (k := 206) rfl rfl
theorem m4_207 : (Cond.fieldLink R_MD 71 R_MD "lineFrom" "[I" : Cond) ∈ gw := gw_4 (k := 207) rfl rfl
theorem m4_208 : (Cond.fieldLink R_MD 74 R_MD "lineLevel" "[I" : Cond) ∈ gw := gw_4 (k := 208) rfl rfl
theorem m4_209 : (Cond.lays R_MD R_MD "fault" "I" : Cond) ∈ gw := gw_4 (k := 209) rfl rfl
theorem m4_211 : (Cond.lays R_MD R_MD "size" "I" : Cond) ∈ gw := gw_4 (k := 211) rfl rfl
theorem m4_213 : (Cond.laysFinal R_MD R_MD "text" "[I" : Cond) ∈ gw := gw_4 (k := 213) rfl rfl
theorem m4_215 : (Cond.lays R_MD R_MD "ranges" "I" : Cond) ∈ gw := gw_4 (k := 215) rfl rfl
theorem m4_217 : (Cond.laysFinal R_MD R_MD "firsts" "[I" : Cond) ∈ gw := gw_4 (k := 217) rfl rfl
theorem m4_219 : (Cond.laysFinal R_MD R_MD "lasts" "[I" : Cond) ∈ gw := gw_4 (k := 219) rfl rfl
theorem m4_221 : (Cond.laysFinal R_MD R_MD "kinds" "[I" : Cond) ∈ gw := gw_4 (k := 221) rfl rfl
theorem m4_223 : (Cond.lays R_MD R_MD "brackets" "I" : Cond) ∈ gw := gw_4 (k := 223) rfl rfl
theorem m4_225 : (Cond.laysFinal R_MD R_MD "openings" "[I" : Cond) ∈ gw := gw_4 (k := 225) rfl rfl
theorem m4_227 : (Cond.laysFinal R_MD R_MD "closings" "[I" : Cond) ∈ gw := gw_4 (k := 227) rfl rfl
theorem m4_229 : (Cond.lays R_MD R_MD "mirrors" "I" : Cond) ∈ gw := gw_4 (k := 229) rfl rfl
theorem m4_231 : (Cond.laysFinal R_MD R_MD "ones" "[I" : Cond) ∈ gw := gw_4 (k := 231) rfl rfl
theorem m4_233 : (Cond.laysFinal R_MD R_MD "others" "[I" : Cond) ∈ gw := gw_4 (k := 233) rfl rfl
theorem m4_235 : (Cond.lays R_MD R_MD "isResolved" "Z" : Cond) ∈ gw := gw_4 (k := 235) rfl rfl
theorem m4_237 : (Cond.laysFinal R_MD R_MD "first" "[I" : Cond) ∈ gw := gw_4 (k := 237) rfl rfl
theorem m4_239 : (Cond.laysFinal R_MD R_MD "now" "[I" : Cond) ∈ gw := gw_4 (k := 239) rfl rfl
theorem m5_1 : (Cond.laysFinal R_MD R_MD "before" "[I" : Cond) ∈ gw := gw_5 (k := 1) rfl rfl
theorem m5_3 : (Cond.laysFinal R_MD R_MD "level" "[I" : Cond) ∈ gw := gw_5 (k := 3) rfl rfl
theorem m5_5 : (Cond.laysFinal R_MD R_MD "match" "[I" : Cond) ∈ gw := gw_5 (k := 5) rfl rfl
theorem m5_7 : (Cond.lays R_MD R_MD "paragraphs" "I" : Cond) ∈ gw := gw_5 (k := 7) rfl rfl
theorem m5_9 : (Cond.laysFinal R_MD R_MD "parts" "[I" : Cond) ∈ gw := gw_5 (k := 9) rfl rfl
theorem m5_11 : (Cond.lays R_MD R_MD "depth" "I" : Cond) ∈ gw := gw_5 (k := 11) rfl rfl
theorem m5_13 : (Cond.laysFinal R_MD R_MD "stackLevel" "[I" : Cond) ∈ gw := gw_5 (k := 13) rfl rfl
theorem m5_15 : (Cond.laysFinal R_MD R_MD "stackOverride" "[I" : Cond) ∈ gw := gw_5 (k := 15) rfl rfl
theorem m5_17 : (Cond.laysFinal R_MD R_MD "stackIsolate" "[Z" : Cond) ∈ gw := gw_5 (k := 17) rfl rfl
theorem m5_19 : (Cond.lays R_MD R_MD "length" "I" : Cond) ∈ gw := gw_5 (k := 19) rfl rfl
theorem m5_21 : (Cond.laysFinal R_MD R_MD "places" "[I" : Cond) ∈ gw := gw_5 (k := 21) rfl rfl
theorem m5_23 : (Cond.lays R_MD R_MD "head" "I" : Cond) ∈ gw := gw_5 (k := 23) rfl rfl
theorem m5_25 : (Cond.lays R_MD R_MD "tail" "I" : Cond) ∈ gw := gw_5 (k := 25) rfl rfl
theorem m5_27 : (Cond.lays R_MD R_MD "sequenceLevel" "I" : Cond) ∈ gw := gw_5 (k := 27) rfl rfl
theorem m5_29 : (Cond.lays R_MD R_MD "waiting" "I" : Cond) ∈ gw := gw_5 (k := 29) rfl rfl
theorem m5_31 : (Cond.laysFinal R_MD R_MD "waits" "[I" : Cond) ∈ gw := gw_5 (k := 31) rfl rfl
theorem m5_33 : (Cond.laysFinal R_MD R_MD "pair" "[I" : Cond) ∈ gw := gw_5 (k := 33) rfl rfl
theorem m5_35 : (Cond.lays R_MD R_MD "isLine" "Z" : Cond) ∈ gw := gw_5 (k := 35) rfl rfl
theorem m5_37 : (Cond.lays R_MD R_MD "lineSize" "I" : Cond) ∈ gw := gw_5 (k := 37) rfl rfl
theorem m5_39 : (Cond.laysFinal R_MD R_MD "lineFrom" "[I" : Cond) ∈ gw := gw_5 (k := 39) rfl rfl
theorem m5_41 : (Cond.laysFinal R_MD R_MD "lineLevel" "[I" : Cond) ∈ gw := gw_5 (k := 41) rfl rfl
theorem m5_44 : (Cond.methodLink R_LW 66 y_MD_thrown : Cond) ∈ gw := gw_5 (k := 44) rfl rfl
theorem m5_45 : (Cond.instanceMethod y_MD_thrown : Cond) ∈ gw := gw_5 (k := 45) rfl rfl
theorem m5_46 : (Cond.selects R_MD y_MD_thrown y_MD_thrown : Cond) ∈ gw := gw_5 (k := 46) rfl rfl
theorem m5_47 : (Cond.code y_MD_thrown prog_13_method_2_code 1 (some .int) : Cond) ∈ gw := gw_5 (k := 47) rfl rfl
theorem m5_48 : (Cond.methodLink R_LW 65 y_MD_property : Cond) ∈ gw := gw_5 (k := 48) rfl rfl
theorem m5_49 : (Cond.instanceMethod y_MD_property : Cond) ∈ gw := gw_5 (k := 49) rfl rfl
theorem m5_50 : (Cond.selects R_MD y_MD_property y_MD_property : Cond) ∈ gw := gw_5 (k := 50) rfl rfl
theorem m5_51 : (Cond.code y_MD_property prog_13_method_5_code 5 none : Cond) ∈ gw := gw_5 (k := 51) rfl rfl
theorem m5_52 : (Cond.methodLink R_MD 82 y_MD_isCharacter : Cond) ∈ gw := gw_5 (k := 52) rfl rfl
theorem m5_53 : (Cond.static y_MD_isCharacter : Cond) ∈ gw := gw_5 (k := 53) rfl rfl
theorem m5_54 : (Cond.code y_MD_isCharacter prog_13_method_4_code 1 (some .boolean) : Cond) ∈ gw := gw_5 (k := 54) rfl rfl
theorem m5_55 : (Cond.constant R_MD 81 (1114111 : Int32) : Cond) ∈ gw := gw_5 (k := 55) rfl rfl
theorem m5_56 : (Cond.methodLink R_MD 89 y_MD_refused : Cond) ∈ gw := gw_5 (k := 56) rfl rfl
theorem m5_58 : (Cond.instanceMethod y_MD_refused : Cond) ∈ gw := gw_5 (k := 58) rfl rfl
theorem m5_59 : (Cond.code y_MD_refused prog_13_method_3_code 2 (some .boolean) : Cond) ∈ gw := gw_5 (k := 59) rfl rfl
theorem m5_60 : (Cond.methodLink R_LW 73 y_MD_bracket : Cond) ∈ gw := gw_5 (k := 60) rfl rfl
theorem m5_61 : (Cond.instanceMethod y_MD_bracket : Cond) ∈ gw := gw_5 (k := 61) rfl rfl
theorem m5_62 : (Cond.selects R_MD y_MD_bracket y_MD_bracket : Cond) ∈ gw := gw_5 (k := 62) rfl rfl
theorem m5_63 : (Cond.code y_MD_bracket prog_13_method_9_code 4 none : Cond) ∈ gw := gw_5 (k := 63) rfl rfl
theorem m5_64 : (Cond.methodLink R_MD 106 y_MD_isBracket : Cond) ∈ gw := gw_5 (k := 64) rfl rfl
theorem m5_66 : (Cond.instanceMethod y_MD_isBracket : Cond) ∈ gw := gw_5 (k := 66) rfl rfl
theorem m5_67 : (Cond.code y_MD_isBracket prog_13_method_6_code 2 (some .boolean) : Cond) ∈ gw := gw_5 (k := 67) rfl rfl
theorem m5_68 : (Cond.methodLink R_MD 96 y_MD_asked : Cond) ∈ gw := gw_5 (k := 68) rfl rfl
theorem m5_70 : (Cond.instanceMethod y_MD_asked : Cond) ∈ gw := gw_5 (k := 70) rfl rfl
theorem m5_71 : (Cond.code y_MD_asked prog_13_method_7_code 4 (some .int) : Cond) ∈ gw := gw_5 (k := 71) rfl rfl
theorem m5_72 : (Cond.methodLink R_MD 100 y_MD_closes : Cond) ∈ gw := gw_5 (k := 72) rfl rfl
theorem m5_74 : (Cond.instanceMethod y_MD_closes : Cond) ∈ gw := gw_5 (k := 74) rfl rfl
theorem m5_75 : (Cond.code y_MD_closes prog_13_method_8_code 4 (some .boolean) : Cond) ∈ gw := gw_5 (k := 75) rfl rfl
theorem m5_76 : (Cond.methodLink R_LW 76 y_MD_mirror : Cond) ∈ gw := gw_5 (k := 76) rfl rfl
theorem m5_77 : (Cond.instanceMethod y_MD_mirror : Cond) ∈ gw := gw_5 (k := 77) rfl rfl
theorem m5_78 : (Cond.selects R_MD y_MD_mirror y_MD_mirror : Cond) ∈ gw := gw_5 (k := 78) rfl rfl
theorem m5_79 : (Cond.code y_MD_mirror prog_13_method_11_code 4 none : Cond) ∈ gw := gw_5 (k := 79) rfl rfl
theorem m5_80 : (Cond.methodLink R_MD 112 y_MD_mirrorOf : Cond) ∈ gw := gw_5 (k := 80) rfl rfl
theorem m5_82 : (Cond.instanceMethod y_MD_mirrorOf : Cond) ∈ gw := gw_5 (k := 82) rfl rfl
theorem m5_83 : (Cond.code y_MD_mirrorOf prog_13_method_10_code 4 (some .int) : Cond) ∈ gw := gw_5 (k := 83) rfl rfl
theorem m5_84 : (Cond.methodLink R_LW 80 y_MD_add : Cond) ∈ gw := gw_5 (k := 84) rfl rfl
theorem m5_85 : (Cond.instanceMethod y_MD_add : Cond) ∈ gw := gw_5 (k := 85) rfl rfl
theorem m5_86 : (Cond.selects R_MD y_MD_add y_MD_add : Cond) ∈ gw := gw_5 (k := 86) rfl rfl
theorem m5_87 : (Cond.code y_MD_add prog_13_method_13_code 9 (some .int) : Cond) ∈ gw := gw_5 (k := 87) rfl rfl
theorem m5_88 : (Cond.methodLink R_MD 115 y_MD_fifth : Cond) ∈ gw := gw_5 (k := 88) rfl rfl
theorem m5_89 : (Cond.static y_MD_fifth : Cond) ∈ gw := gw_5 (k := 89) rfl rfl
theorem m5_90 : (Cond.code y_MD_fifth prog_13_method_12_code 6 (some .int) : Cond) ∈ gw := gw_5 (k := 90) rfl rfl
theorem m5_91 : (Cond.methodLink R_LW 84 y_MD_clear : Cond) ∈ gw := gw_5 (k := 91) rfl rfl
theorem m5_92 : (Cond.instanceMethod y_MD_clear : Cond) ∈ gw := gw_5 (k := 92) rfl rfl
theorem m5_93 : (Cond.selects R_MD y_MD_clear y_MD_clear : Cond) ∈ gw := gw_5 (k := 93) rfl rfl
theorem m5_94 : (Cond.code y_MD_clear prog_13_method_14_code 2 (some .int) : Cond) ∈ gw := gw_5 (k := 94) rfl rfl
theorem m5_95 : (Cond.methodLink R_LW 88 y_MD_resolve : Cond) ∈ gw := gw_5 (k := 95) rfl rfl
theorem m5_96 : (Cond.instanceMethod y_MD_resolve : Cond) ∈ gw := gw_5 (k := 96) rfl rfl
theorem m5_97 : (Cond.selects R_MD y_MD_resolve y_MD_resolve : Cond) ∈ gw := gw_5 (k := 97) rfl rfl
theorem m5_98 : (Cond.code y_MD_resolve prog_13_method_46_code 4 (some .int) : Cond) ∈ gw := gw_5 (k := 98) rfl rfl
theorem m5_99 : (Cond.methodLink R_MD 239 y_MD_classOf : Cond) ∈ gw := gw_5 (k := 99) rfl rfl
theorem m5_101 : (Cond.instanceMethod y_MD_classOf : Cond) ∈ gw := gw_5 (k := 101) rfl rfl
theorem m5_102 : (Cond.code y_MD_classOf prog_13_method_15_code 4 (some .int) : Cond) ∈ gw := gw_5 (k := 102) rfl rfl
theorem m5_103 : (Cond.methodLink R_MD 242 y_MD_resolveParagraph : Cond) ∈ gw := gw_5 (k := 103) rfl rfl
theorem m5_105 : (Cond.instanceMethod y_MD_resolveParagraph : Cond) ∈ gw := gw_5 (k := 105) rfl rfl
theorem m5_106 : (Cond.code y_MD_resolveParagraph prog_13_method_44_code 7 none : Cond) ∈ gw := gw_5 (k := 106) rfl rfl
theorem m5_107 : (Cond.methodLink R_MD 122 y_MD_isIsolate : Cond) ∈ gw := gw_5 (k := 107) rfl rfl
theorem m5_108 : (Cond.static y_MD_isIsolate : Cond) ∈ gw := gw_5 (k := 108) rfl rfl
theorem m5_109 : (Cond.code y_MD_isIsolate prog_13_method_16_code 1 (some .boolean) : Cond) ∈ gw := gw_5 (k := 109) rfl rfl
theorem m5_110 : (Cond.methodLink R_MD 125 y_MD_matchOf : Cond) ∈ gw := gw_5 (k := 110) rfl rfl
theorem m5_112 : (Cond.instanceMethod y_MD_matchOf : Cond) ∈ gw := gw_5 (k := 112) rfl rfl
theorem m5_113 : (Cond.code y_MD_matchOf prog_13_method_17_code 5 (some .int) : Cond) ∈ gw := gw_5 (k := 113) rfl rfl
theorem m5_114 : (Cond.methodLink R_MD 144 y_MD_isRight : Cond) ∈ gw := gw_5 (k := 114) rfl rfl
theorem m5_116 : (Cond.instanceMethod y_MD_isRight : Cond) ∈ gw := gw_5 (k := 116) rfl rfl
theorem m5_117 : (Cond.code y_MD_isRight prog_13_method_18_code 6 (some .boolean) : Cond) ∈ gw := gw_5 (k := 117) rfl rfl
theorem m5_118 : (Cond.methodLink R_MD 220 y_MD_explicit : Cond) ∈ gw := gw_5 (k := 118) rfl rfl
theorem m5_120 : (Cond.instanceMethod y_MD_explicit : Cond) ∈ gw := gw_5 (k := 120) rfl rfl
theorem m5_121 : (Cond.code y_MD_explicit prog_13_method_23_code 12 none : Cond) ∈ gw := gw_5 (k := 121) rfl rfl
theorem m5_122 : (Cond.methodLink R_MD 136 y_MD_push : Cond) ∈ gw := gw_5 (k := 122) rfl rfl
theorem m5_124 : (Cond.instanceMethod y_MD_push : Cond) ∈ gw := gw_5 (k := 124) rfl rfl
theorem m5_125 : (Cond.code y_MD_push prog_13_method_19_code 4 none : Cond) ∈ gw := gw_5 (k := 125) rfl rfl
theorem m5_126 : (Cond.methodLink R_MD 140 y_MD_next : Cond) ∈ gw := gw_5 (k := 126) rfl rfl
theorem m5_128 : (Cond.instanceMethod y_MD_next : Cond) ∈ gw := gw_5 (k := 128) rfl rfl
theorem m5_129 : (Cond.code y_MD_next prog_13_method_21_code 3 (some .int) : Cond) ∈ gw := gw_5 (k := 129) rfl rfl
theorem m5_130 : (Cond.methodLink R_MD 132 y_MD_topLevel : Cond) ∈ gw := gw_5 (k := 130) rfl rfl
theorem m5_132 : (Cond.instanceMethod y_MD_topLevel : Cond) ∈ gw := gw_5 (k := 132) rfl rfl
theorem m5_133 : (Cond.code y_MD_topLevel prog_13_method_20_code 1 (some .int) : Cond) ∈ gw := gw_5 (k := 133) rfl rfl
theorem m5_134 : (Cond.methodLink R_MD 148 y_MD_settle : Cond) ∈ gw := gw_5 (k := 134) rfl rfl
theorem m5_136 : (Cond.instanceMethod y_MD_settle : Cond) ∈ gw := gw_5 (k := 136) rfl rfl
theorem m5_137 : (Cond.code y_MD_settle prog_13_method_22_code 3 none : Cond) ∈ gw := gw_5 (k := 137) rfl rfl
theorem m5_138 : (Cond.methodLink R_MD 223 y_MD_begins : Cond) ∈ gw := gw_5 (k := 138) rfl rfl
theorem m5_140 : (Cond.instanceMethod y_MD_begins : Cond) ∈ gw := gw_5 (k := 140) rfl rfl
theorem m5_141 : (Cond.code y_MD_begins prog_13_method_43_code 5 (some .boolean) : Cond) ∈ gw := gw_5 (k := 141) rfl rfl
theorem m5_142 : (Cond.methodLink R_MD 152 y_MD_leftBefore : Cond) ∈ gw := gw_5 (k := 142) rfl rfl
theorem m5_144 : (Cond.instanceMethod y_MD_leftBefore : Cond) ∈ gw := gw_5 (k := 144) rfl rfl
theorem m5_145 : (Cond.code y_MD_leftBefore prog_13_method_25_code 4 (some .int) : Cond) ∈ gw := gw_5 (k := 145) rfl rfl
theorem m5_146 : (Cond.methodLink R_MD 226 y_MD_makeSequence : Cond) ∈ gw := gw_5 (k := 146) rfl rfl
theorem m5_148 : (Cond.instanceMethod y_MD_makeSequence : Cond) ∈ gw := gw_5 (k := 148) rfl rfl
theorem m5_149 : (Cond.code y_MD_makeSequence prog_13_method_28_code 10 none : Cond) ∈ gw := gw_5 (k := 149) rfl rfl
theorem m5_150 : (Cond.methodLink R_MD 161 y_MD_addRun : Cond) ∈ gw := gw_5 (k := 150) rfl rfl
theorem m5_152 : (Cond.instanceMethod y_MD_addRun : Cond) ∈ gw := gw_5 (k := 152) rfl rfl
theorem m5_153 : (Cond.code y_MD_addRun prog_13_method_26_code 7 none : Cond) ∈ gw := gw_5 (k := 153) rfl rfl
theorem m5_154 : (Cond.methodLink R_MD 158 y_MD_leftFrom : Cond) ∈ gw := gw_5 (k := 154) rfl rfl
theorem m5_156 : (Cond.instanceMethod y_MD_leftFrom : Cond) ∈ gw := gw_5 (k := 156) rfl rfl
theorem m5_157 : (Cond.code y_MD_leftFrom prog_13_method_24_code 4 (some .int) : Cond) ∈ gw := gw_5 (k := 157) rfl rfl
theorem m5_158 : (Cond.methodLink R_MD 168 y_MD_directionOf : Cond) ∈ gw := gw_5 (k := 158) rfl rfl
theorem m5_159 : (Cond.static y_MD_directionOf : Cond) ∈ gw := gw_5 (k := 159) rfl rfl
theorem m5_160 : (Cond.code y_MD_directionOf prog_13_method_27_code 1 (some .int) : Cond) ∈ gw := gw_5 (k := 160) rfl rfl
theorem m5_161 : (Cond.methodLink R_MD 230 y_MD_resolveSequence : Cond) ∈ gw := gw_5 (k := 161) rfl rfl
theorem m5_163 : (Cond.instanceMethod y_MD_resolveSequence : Cond) ∈ gw := gw_5 (k := 163) rfl rfl
theorem m5_164 : (Cond.code y_MD_resolveSequence prog_13_method_42_code 1 none : Cond) ∈ gw := gw_5 (k := 164) rfl rfl
theorem m5_165 : (Cond.methodLink R_MD 211 y_MD_weak : Cond) ∈ gw := gw_5 (k := 165) rfl rfl
theorem m5_167 : (Cond.instanceMethod y_MD_weak : Cond) ∈ gw := gw_5 (k := 167) rfl rfl
theorem m5_168 : (Cond.code y_MD_weak prog_13_method_33_code 5 none : Cond) ∈ gw := gw_5 (k := 168) rfl rfl
theorem m5_169 : (Cond.methodLink R_MD 177 y_MD_kindAt : Cond) ∈ gw := gw_5 (k := 169) rfl rfl
theorem m5_171 : (Cond.instanceMethod y_MD_kindAt : Cond) ∈ gw := gw_5 (k := 171) rfl rfl
theorem m5_172 : (Cond.code y_MD_kindAt prog_13_method_29_code 2 (some .int) : Cond) ∈ gw := gw_5 (k := 172) rfl rfl
theorem m5_173 : (Cond.methodLink R_MD 180 y_MD_put : Cond) ∈ gw := gw_5 (k := 173) rfl rfl
theorem m5_175 : (Cond.instanceMethod y_MD_put : Cond) ∈ gw := gw_5 (k := 175) rfl rfl
theorem m5_176 : (Cond.code y_MD_put prog_13_method_30_code 3 none : Cond) ∈ gw := gw_5 (k := 176) rfl rfl
theorem m5_177 : (Cond.methodLink R_MD 184 y_MD_strongBefore : Cond) ∈ gw := gw_5 (k := 177) rfl rfl
theorem m5_179 : (Cond.instanceMethod y_MD_strongBefore : Cond) ∈ gw := gw_5 (k := 179) rfl rfl
theorem m5_180 : (Cond.code y_MD_strongBefore prog_13_method_31_code 3 (some .int) : Cond) ∈ gw := gw_5 (k := 180) rfl rfl
theorem m5_181 : (Cond.methodLink R_MD 187 y_MD_isBesideNumber : Cond) ∈ gw := gw_5 (k := 181) rfl rfl
theorem m5_183 : (Cond.instanceMethod y_MD_isBesideNumber : Cond) ∈ gw := gw_5 (k := 183) rfl rfl
theorem m5_184 : (Cond.code y_MD_isBesideNumber prog_13_method_32_code 4 (some .boolean) : Cond) ∈ gw := gw_5 (k := 184) rfl rfl
theorem m5_185 : (Cond.methodLink R_MD 214 y_MD_pairs : Cond) ∈ gw := gw_5 (k := 185) rfl rfl
theorem m5_187 : (Cond.instanceMethod y_MD_pairs : Cond) ∈ gw := gw_5 (k := 187) rfl rfl
theorem m5_188 : (Cond.code y_MD_pairs prog_13_method_39_code 7 none : Cond) ∈ gw := gw_5 (k := 188) rfl rfl
theorem m5_189 : (Cond.methodLink R_MD 199 y_MD_findPairs : Cond) ∈ gw := gw_5 (k := 189) rfl rfl
theorem m5_191 : (Cond.instanceMethod y_MD_findPairs : Cond) ∈ gw := gw_5 (k := 191) rfl rfl
theorem m5_192 : (Cond.code y_MD_findPairs prog_13_method_36_code 4 none : Cond) ∈ gw := gw_5 (k := 192) rfl rfl
theorem m5_193 : (Cond.methodLink R_MD 196 y_MD_closePair : Cond) ∈ gw := gw_5 (k := 193) rfl rfl
theorem m5_195 : (Cond.instanceMethod y_MD_closePair : Cond) ∈ gw := gw_5 (k := 195) rfl rfl
theorem m5_196 : (Cond.code y_MD_closePair prog_13_method_37_code 4 none : Cond) ∈ gw := gw_5 (k := 196) rfl rfl
theorem m5_197 : (Cond.methodLink R_MD 190 y_MD_side : Cond) ∈ gw := gw_5 (k := 197) rfl rfl
theorem m5_198 : (Cond.static y_MD_side : Cond) ∈ gw := gw_5 (k := 198) rfl rfl
theorem m5_199 : (Cond.code y_MD_side prog_13_method_34_code 1 (some .int) : Cond) ∈ gw := gw_5 (k := 199) rfl rfl
theorem m5_200 : (Cond.methodLink R_MD 202 y_MD_sideBefore : Cond) ∈ gw := gw_5 (k := 200) rfl rfl
theorem m5_202 : (Cond.instanceMethod y_MD_sideBefore : Cond) ∈ gw := gw_5 (k := 202) rfl rfl
theorem m5_203 : (Cond.code y_MD_sideBefore prog_13_method_35_code 3 (some .int) : Cond) ∈ gw := gw_5 (k := 203) rfl rfl
theorem m5_204 : (Cond.methodLink R_MD 205 y_MD_give : Cond) ∈ gw := gw_5 (k := 204) rfl rfl
theorem m5_206 : (Cond.instanceMethod y_MD_give : Cond) ∈ gw := gw_5 (k := 206) rfl rfl
theorem m5_207 : (Cond.code y_MD_give prog_13_method_38_code 4 none : Cond) ∈ gw := gw_5 (k := 207) rfl rfl
theorem m5_208 : (Cond.methodLink R_MD 217 y_MD_neutrals : Cond) ∈ gw := gw_5 (k := 208) rfl rfl
theorem m5_210 : (Cond.instanceMethod y_MD_neutrals : Cond) ∈ gw := gw_5 (k := 210) rfl rfl
theorem m5_211 : (Cond.code y_MD_neutrals prog_13_method_41_code 6 none : Cond) ∈ gw := gw_5 (k := 211) rfl rfl
theorem m5_212 : (Cond.methodLink R_MD 208 y_MD_isNeutral : Cond) ∈ gw := gw_5 (k := 212) rfl rfl
theorem m5_213 : (Cond.static y_MD_isNeutral : Cond) ∈ gw := gw_5 (k := 213) rfl rfl
theorem m5_214 : (Cond.code y_MD_isNeutral prog_13_method_40_code 1 (some .boolean) : Cond) ∈ gw := gw_5 (k := 214) rfl rfl
theorem m5_215 : (Cond.methodLink R_MD 233 y_MD_raise : Cond) ∈ gw := gw_5 (k := 215) rfl rfl
theorem m5_217 : (Cond.instanceMethod y_MD_raise : Cond) ∈ gw := gw_5 (k := 217) rfl rfl
theorem m5_218 : (Cond.code y_MD_raise prog_13_method_45_code 7 none : Cond) ∈ gw := gw_5 (k := 218) rfl rfl
theorem m5_219 : (Cond.methodLink R_LW 92 y_MD_paragraph : Cond) ∈ gw := gw_5 (k := 219) rfl rfl
theorem m5_220 : (Cond.instanceMethod y_MD_paragraph : Cond) ∈ gw := gw_5 (k := 220) rfl rfl
theorem m5_221 : (Cond.selects R_MD y_MD_paragraph y_MD_paragraph : Cond) ∈ gw := gw_5 (k := 221) rfl rfl
theorem m5_222 : (Cond.code y_MD_paragraph prog_13_method_47_code 4 (some .int) : Cond) ∈ gw := gw_5 (k := 222) rfl rfl
theorem m5_223 : (Cond.methodLink R_LW 95 y_MD_level : Cond) ∈ gw := gw_5 (k := 223) rfl rfl
theorem m5_224 : (Cond.instanceMethod y_MD_level : Cond) ∈ gw := gw_5 (k := 224) rfl rfl
theorem m5_225 : (Cond.selects R_MD y_MD_level y_MD_level : Cond) ∈ gw := gw_5 (k := 225) rfl rfl
theorem m5_226 : (Cond.code y_MD_level prog_13_method_49_code 2 (some .int) : Cond) ∈ gw := gw_5 (k := 226) rfl rfl
theorem m5_227 : (Cond.methodLink R_MD 248 y_MD_isWrong : Cond) ∈ gw := gw_5 (k := 227) rfl rfl
theorem m5_229 : (Cond.instanceMethod y_MD_isWrong : Cond) ∈ gw := gw_5 (k := 229) rfl rfl
theorem m5_230 : (Cond.code y_MD_isWrong prog_13_method_48_code 2 (some .boolean) : Cond) ∈ gw := gw_5 (k := 230) rfl rfl
theorem m5_231 : (Cond.methodLink R_LW 98 y_MD_kind : Cond) ∈ gw := gw_5 (k := 231) rfl rfl
theorem m5_232 : (Cond.instanceMethod y_MD_kind : Cond) ∈ gw := gw_5 (k := 232) rfl rfl
theorem m5_233 : (Cond.selects R_MD y_MD_kind y_MD_kind : Cond) ∈ gw := gw_5 (k := 233) rfl rfl
theorem m5_234 : (Cond.code y_MD_kind prog_13_method_50_code 2 (some .int) : Cond) ∈ gw := gw_5 (k := 234) rfl rfl
theorem m5_235 : (Cond.methodLink R_LW 101 y_MD_match : Cond) ∈ gw := gw_5 (k := 235) rfl rfl
theorem m5_236 : (Cond.instanceMethod y_MD_match : Cond) ∈ gw := gw_5 (k := 236) rfl rfl
theorem m5_237 : (Cond.selects R_MD y_MD_match y_MD_match : Cond) ∈ gw := gw_5 (k := 237) rfl rfl
theorem m5_238 : (Cond.code y_MD_match prog_13_method_51_code 2 (some .int) : Cond) ∈ gw := gw_5 (k := 238) rfl rfl
theorem m5_239 : (Cond.methodLink R_LW 104 y_MD_line : Cond) ∈ gw := gw_5 (k := 239) rfl rfl
theorem m6_0 : (Cond.instanceMethod y_MD_line : Cond) ∈ gw := gw_6 (k := 0) rfl rfl
theorem m6_1 : (Cond.selects R_MD y_MD_line y_MD_line : Cond) ∈ gw := gw_6 (k := 1) rfl rfl
theorem m6_2 : (Cond.code y_MD_line prog_13_method_56_code 7 (some .int) : Cond) ∈ gw := gw_6 (k := 2) rfl rfl
theorem m6_3 : (Cond.methodLink R_MD 257 y_MD_partOf : Cond) ∈ gw := gw_6 (k := 3) rfl rfl
theorem m6_5 : (Cond.instanceMethod y_MD_partOf : Cond) ∈ gw := gw_6 (k := 5) rfl rfl
theorem m6_6 : (Cond.code y_MD_partOf prog_13_method_52_code 4 (some .int) : Cond) ∈ gw := gw_6 (k := 6) rfl rfl
theorem m6_7 : (Cond.methodLink R_MD 260 y_MD_isBlankEnd : Cond) ∈ gw := gw_6 (k := 7) rfl rfl
theorem m6_9 : (Cond.instanceMethod y_MD_isBlankEnd : Cond) ∈ gw := gw_6 (k := 9) rfl rfl
theorem m6_10 : (Cond.code y_MD_isBlankEnd prog_13_method_53_code 4 (some .boolean) : Cond) ∈ gw := gw_6 (k := 10) rfl rfl
theorem m6_11 : (Cond.methodLink R_MD 263 y_MD_turnAll : Cond) ∈ gw := gw_6 (k := 11) rfl rfl
theorem m6_13 : (Cond.instanceMethod y_MD_turnAll : Cond) ∈ gw := gw_6 (k := 13) rfl rfl
theorem m6_14 : (Cond.code y_MD_turnAll prog_13_method_55_code 4 none : Cond) ∈ gw := gw_6 (k := 14) rfl rfl
theorem m6_15 : (Cond.methodLink R_MD 254 y_MD_turn : Cond) ∈ gw := gw_6 (k := 15) rfl rfl
theorem m6_17 : (Cond.instanceMethod y_MD_turn : Cond) ∈ gw := gw_6 (k := 17) rfl rfl
theorem m6_18 : (Cond.code y_MD_turn prog_13_method_54_code 7 none : Cond) ∈ gw := gw_6 (k := 18) rfl rfl
theorem m6_19 : (Cond.methodLink R_LW 107 y_MD_seen : Cond) ∈ gw := gw_6 (k := 19) rfl rfl
theorem m6_20 : (Cond.instanceMethod y_MD_seen : Cond) ∈ gw := gw_6 (k := 20) rfl rfl
theorem m6_21 : (Cond.selects R_MD y_MD_seen y_MD_seen : Cond) ∈ gw := gw_6 (k := 21) rfl rfl
theorem m6_22 : (Cond.code y_MD_seen prog_13_method_57_code 6 (some .int) : Cond) ∈ gw := gw_6 (k := 22) rfl rfl
theorem m6_23 : (Cond.methodLink R_LW 110 y_MD_place : Cond) ∈ gw := gw_6 (k := 23) rfl rfl
theorem m6_24 : (Cond.instanceMethod y_MD_place : Cond) ∈ gw := gw_6 (k := 24) rfl rfl
theorem m6_25 : (Cond.selects R_MD y_MD_place y_MD_place : Cond) ∈ gw := gw_6 (k := 25) rfl rfl
theorem m6_26 : (Cond.code y_MD_place prog_13_method_58_code 4 (some .int) : Cond) ∈ gw := gw_6 (k := 26) rfl rfl
theorem m6_27 : (Cond.arrayClass FieldType.long : Cond) ∈ gw := gw_6 (k := 27) rfl rfl
/-- the links to private members of nest mates: not good over a call as words, so each contract carries them of its state -/
def nws : List Cond := [.methodLinkNest R_BL 11 y_TX_init R_BL, .methodLinkNest R_BL 18 y_PR_init R_BL, .methodLinkNest R_IS 27 y_BL_isIsolate R_BL, .methodLinkNest R_EX 52 y_BL_isEmbedding R_BL, .methodLinkNest R_EX 106 y_BL_directionOf R_BL, .methodLinkNest R_EX 63 y_BL_isIsolate R_BL, .methodLinkNest R_SQ 35 y_BL_directionOf R_BL, .methodLinkNest R_RU 80 y_BL_isIsolate R_BL, .methodLinkNest R_RU 68 y_BL_directionOf R_BL, .methodLinkNest R_WK 65 y_BL_isIsolate R_BL, .methodLinkNest R_RS 143 y_BL_isOdd R_BL, .methodLinkNest R_LN 49 y_BL_isIsolate R_BL, .methodLinkNest R_LN 59 y_BL_isOdd R_BL]
def NW (U : State) : Prop := ∀ w ∈ nws, va_Nw w U
theorem NW.warm {s U : State} (hW : s.WarmedH U.vm) (h : NW s) : NW U := List.forall_mem_cons.mpr ⟨va_Nw.warmM hW (h _ (List.mem_of_getElem? (i := 0) rfl)), List.forall_mem_cons.mpr ⟨va_Nw.warmM hW (h _ (List.mem_of_getElem? (i := 1) rfl)), List.forall_mem_cons.mpr ⟨va_Nw.warmM hW (h _ (List.mem_of_getElem? (i := 2) rfl)), List.forall_mem_cons.mpr ⟨va_Nw.warmM hW (h _ (List.mem_of_getElem? (i := 3) rfl)), List.forall_mem_cons.mpr ⟨va_Nw.warmM hW (h _ (List.mem_of_getElem? (i := 4) rfl)), List.forall_mem_cons.mpr ⟨va_Nw.warmM hW (h _ (List.mem_of_getElem? (i := 5) rfl)), List.forall_mem_cons.mpr ⟨va_Nw.warmM hW (h _ (List.mem_of_getElem? (i := 6) rfl)), List.forall_mem_cons.mpr ⟨va_Nw.warmM hW (h _ (List.mem_of_getElem? (i := 7) rfl)), List.forall_mem_cons.mpr ⟨va_Nw.warmM hW (h _ (List.mem_of_getElem? (i := 8) rfl)), List.forall_mem_cons.mpr ⟨va_Nw.warmM hW (h _ (List.mem_of_getElem? (i := 9) rfl)), List.forall_mem_cons.mpr ⟨va_Nw.warmM hW (h _ (List.mem_of_getElem? (i := 10) rfl)), List.forall_mem_cons.mpr ⟨va_Nw.warmM hW (h _ (List.mem_of_getElem? (i := 11) rfl)), List.forall_mem_cons.mpr ⟨va_Nw.warmM hW (h _ (List.mem_of_getElem? (i := 12) rfl)), fun _ h => absurd h List.not_mem_nil⟩⟩⟩⟩⟩⟩⟩⟩⟩⟩⟩⟩⟩
theorem NW.same {u U : State} (h : u.vm = U.vm) (hn : NW u) : NW U := List.forall_mem_cons.mpr ⟨va_Nw.same rfl h (hn _ (List.mem_of_getElem? (i := 0) rfl)), List.forall_mem_cons.mpr ⟨va_Nw.same rfl h (hn _ (List.mem_of_getElem? (i := 1) rfl)), List.forall_mem_cons.mpr ⟨va_Nw.same rfl h (hn _ (List.mem_of_getElem? (i := 2) rfl)), List.forall_mem_cons.mpr ⟨va_Nw.same rfl h (hn _ (List.mem_of_getElem? (i := 3) rfl)), List.forall_mem_cons.mpr ⟨va_Nw.same rfl h (hn _ (List.mem_of_getElem? (i := 4) rfl)), List.forall_mem_cons.mpr ⟨va_Nw.same rfl h (hn _ (List.mem_of_getElem? (i := 5) rfl)), List.forall_mem_cons.mpr ⟨va_Nw.same rfl h (hn _ (List.mem_of_getElem? (i := 6) rfl)), List.forall_mem_cons.mpr ⟨va_Nw.same rfl h (hn _ (List.mem_of_getElem? (i := 7) rfl)), List.forall_mem_cons.mpr ⟨va_Nw.same rfl h (hn _ (List.mem_of_getElem? (i := 8) rfl)), List.forall_mem_cons.mpr ⟨va_Nw.same rfl h (hn _ (List.mem_of_getElem? (i := 9) rfl)), List.forall_mem_cons.mpr ⟨va_Nw.same rfl h (hn _ (List.mem_of_getElem? (i := 10) rfl)), List.forall_mem_cons.mpr ⟨va_Nw.same rfl h (hn _ (List.mem_of_getElem? (i := 11) rfl)), List.forall_mem_cons.mpr ⟨va_Nw.same rfl h (hn _ (List.mem_of_getElem? (i := 12) rfl)), fun _ h => absurd h List.not_mem_nil⟩⟩⟩⟩⟩⟩⟩⟩⟩⟩⟩⟩⟩
theorem ms_0 : (Cond.selects R_BL y_BL_forgetLevels y_BL_forgetLevels : Cond) ∈ gw := gw_s (k := 0) (q := (y_BL_forgetLevels, 7)) rfl rfl
theorem ms_2 : (Cond.selects R_BL y_BL_tellPair y_BL_tellPair : Cond) ∈ gw := gw_s (k := 2) (q := (y_BL_tellPair, 7)) rfl rfl
theorem ms_3 : (Cond.selects R_TX y_TX_classOf y_TX_classOf : Cond) ∈ gw := gw_s (k := 3) (q := (y_TX_classOf, 10)) rfl rfl
theorem ms_4 : (Cond.selects R_RS y_RS_findParagraphs y_RS_findParagraphs : Cond) ∈ gw := gw_s (k := 4) (q := (y_RS_findParagraphs, 12)) rfl rfl
theorem ms_5 : (Cond.selects R_EX y_EX_giveLevel y_EX_giveLevel : Cond) ∈ gw := gw_s (k := 5) (q := (y_EX_giveLevel, 9)) rfl rfl
theorem ms_6 : (Cond.selects R_EX y_EX_openEmbedding y_EX_openEmbedding : Cond) ∈ gw := gw_s (k := 6) (q := (y_EX_openEmbedding, 9)) rfl rfl
theorem ms_7 : (Cond.selects R_EX y_EX_nextLevel y_EX_nextLevel : Cond) ∈ gw := gw_s (k := 7) (q := (y_EX_nextLevel, 9)) rfl rfl
theorem ms_8 : (Cond.selects R_EX y_EX_canOpen y_EX_canOpen : Cond) ∈ gw := gw_s (k := 8) (q := (y_EX_canOpen, 9)) rfl rfl
theorem ms_9 : (Cond.selects R_EX y_EX_push y_EX_push : Cond) ∈ gw := gw_s (k := 9) (q := (y_EX_push, 9)) rfl rfl
theorem ms_10 : (Cond.selects R_EX y_EX_remove y_EX_remove : Cond) ∈ gw := gw_s (k := 10) (q := (y_EX_remove, 9)) rfl rfl
theorem ms_11 : (Cond.selects R_EX y_EX_takeTop y_EX_takeTop : Cond) ∈ gw := gw_s (k := 11) (q := (y_EX_takeTop, 9)) rfl rfl
theorem ms_12 : (Cond.selects R_EX y_EX_openIsolate y_EX_openIsolate : Cond) ∈ gw := gw_s (k := 12) (q := (y_EX_openIsolate, 9)) rfl rfl
theorem ms_13 : (Cond.selects R_EX y_EX_closeIsolate y_EX_closeIsolate : Cond) ∈ gw := gw_s (k := 13) (q := (y_EX_closeIsolate, 9)) rfl rfl
theorem ms_14 : (Cond.selects R_EX y_EX_closeEmbedding y_EX_closeEmbedding : Cond) ∈ gw := gw_s (k := 14) (q := (y_EX_closeEmbedding, 9)) rfl rfl
theorem ms_15 : (Cond.selects R_RU y_RU_appendLeft y_RU_appendLeft : Cond) ∈ gw := gw_s (k := 15) (q := (y_RU_appendLeft, 7)) rfl rfl
theorem ms_16 : (Cond.selects R_RS y_RS_resolveSequences y_RS_resolveSequences : Cond) ∈ gw := gw_s (k := 16) (q := (y_RS_resolveSequences, 12)) rfl rfl
theorem ms_17 : (Cond.selects R_RU y_RU_runBehind y_RU_runBehind : Cond) ∈ gw := gw_s (k := 17) (q := (y_RU_runBehind, 7)) rfl rfl
theorem ms_18 : (Cond.selects R_RU y_RU_levelBehind y_RU_levelBehind : Cond) ∈ gw := gw_s (k := 18) (q := (y_RU_levelBehind, 7)) rfl rfl
theorem ms_19 : (Cond.selects R_WK y_WK_settleMarks y_WK_settleMarks : Cond) ∈ gw := gw_s (k := 19) (q := (y_WK_settleMarks, 2)) rfl rfl
theorem ms_20 : (Cond.selects R_WK y_WK_classForMark y_WK_classForMark : Cond) ∈ gw := gw_s (k := 20) (q := (y_WK_classForMark, 2)) rfl rfl
theorem ms_21 : (Cond.selects R_WK y_WK_arabicNumbers y_WK_arabicNumbers : Cond) ∈ gw := gw_s (k := 21) (q := (y_WK_arabicNumbers, 2)) rfl rfl
theorem ms_22 : (Cond.selects R_WK y_WK_arabicLetters y_WK_arabicLetters : Cond) ∈ gw := gw_s (k := 22) (q := (y_WK_arabicLetters, 2)) rfl rfl
theorem ms_23 : (Cond.selects R_WK y_WK_separators y_WK_separators : Cond) ∈ gw := gw_s (k := 23) (q := (y_WK_separators, 2)) rfl rfl
theorem ms_24 : (Cond.selects R_WK y_WK_isBetween y_WK_isBetween : Cond) ∈ gw := gw_s (k := 24) (q := (y_WK_isBetween, 2)) rfl rfl
theorem ms_25 : (Cond.selects R_WK y_WK_terminators y_WK_terminators : Cond) ∈ gw := gw_s (k := 25) (q := (y_WK_terminators, 2)) rfl rfl
theorem ms_26 : (Cond.selects R_WK y_WK_restToNeutral y_WK_restToNeutral : Cond) ∈ gw := gw_s (k := 26) (q := (y_WK_restToNeutral, 2)) rfl rfl
theorem ms_27 : (Cond.selects R_WK y_WK_latinNumbers y_WK_latinNumbers : Cond) ∈ gw := gw_s (k := 27) (q := (y_WK_latinNumbers, 2)) rfl rfl
theorem ms_28 : (Cond.selects R_BR y_BR_findPairs y_BR_findPairs : Cond) ∈ gw := gw_s (k := 28) (q := (y_BR_findPairs, 7)) rfl rfl
theorem ms_29 : (Cond.selects R_BR y_BR_closeOne y_BR_closeOne : Cond) ∈ gw := gw_s (k := 29) (q := (y_BR_closeOne, 7)) rfl rfl
theorem ms_30 : (Cond.selects R_BR y_BR_settlePair y_BR_settlePair : Cond) ∈ gw := gw_s (k := 30) (q := (y_BR_settlePair, 7)) rfl rfl
theorem ms_31 : (Cond.selects R_BR y_BR_sideInside y_BR_sideInside : Cond) ∈ gw := gw_s (k := 31) (q := (y_BR_sideInside, 7)) rfl rfl
theorem ms_32 : (Cond.selects R_BR y_BR_sideBefore y_BR_sideBefore : Cond) ∈ gw := gw_s (k := 32) (q := (y_BR_sideBefore, 7)) rfl rfl
theorem ms_33 : (Cond.selects R_BR y_BR_give y_BR_give : Cond) ∈ gw := gw_s (k := 33) (q := (y_BR_give, 7)) rfl rfl
theorem ms_34 : (Cond.selects R_RS y_RS_raiseLevels y_RS_raiseLevels : Cond) ∈ gw := gw_s (k := 34) (q := (y_RS_raiseLevels, 12)) rfl rfl
theorem ms_35 : (Cond.selects R_BL y_BL_needLevels y_BL_needLevels : Cond) ∈ gw := gw_s (k := 35) (q := (y_BL_needLevels, 7)) rfl rfl
theorem ms_36 : (Cond.selects R_BL y_BL_needPosition y_BL_needPosition : Cond) ∈ gw := gw_s (k := 36) (q := (y_BL_needPosition, 7)) rfl rfl
theorem ms_37 : (Cond.selects R_LN y_LN_setLevels y_LN_setLevels : Cond) ∈ gw := gw_s (k := 37) (q := (y_LN_setLevels, 5)) rfl rfl
theorem ms_38 : (Cond.selects R_LN y_LN_setOrder y_LN_setOrder : Cond) ∈ gw := gw_s (k := 38) (q := (y_LN_setOrder, 5)) rfl rfl
theorem ms_39 : (Cond.selects R_LN y_LN_turnRows y_LN_turnRows : Cond) ∈ gw := gw_s (k := 39) (q := (y_LN_turnRows, 5)) rfl rfl
theorem ms_40 : (Cond.selects R_LN y_LN_turnRowsFrom y_LN_turnRowsFrom : Cond) ∈ gw := gw_s (k := 40) (q := (y_LN_turnRowsFrom, 5)) rfl rfl
theorem ms_41 : (Cond.selects R_LN y_LN_turn y_LN_turn : Cond) ∈ gw := gw_s (k := 41) (q := (y_LN_turn, 5)) rfl rfl
theorem ms_42 : (Cond.selects R_LN y_LN_setPlaces y_LN_setPlaces : Cond) ∈ gw := gw_s (k := 42) (q := (y_LN_setPlaces, 5)) rfl rfl
theorem ms_43 : (Cond.selects R_BL y_BL_needLine y_BL_needLine : Cond) ∈ gw := gw_s (k := 43) (q := (y_BL_needLine, 7)) rfl rfl
theorem ms_44 : (Cond.selects R_BL y_BL_asSeen y_BL_asSeen : Cond) ∈ gw := gw_s (k := 44) (q := (y_BL_asSeen, 7)) rfl rfl
theorem ms_45 : (Cond.selects R_MD y_MD_refused y_MD_refused : Cond) ∈ gw := gw_s (k := 45) (q := (y_MD_refused, 37)) rfl rfl
theorem ms_46 : (Cond.selects R_MD y_MD_isBracket y_MD_isBracket : Cond) ∈ gw := gw_s (k := 46) (q := (y_MD_isBracket, 37)) rfl rfl
theorem ms_47 : (Cond.selects R_MD y_MD_asked y_MD_asked : Cond) ∈ gw := gw_s (k := 47) (q := (y_MD_asked, 37)) rfl rfl
theorem ms_48 : (Cond.selects R_MD y_MD_closes y_MD_closes : Cond) ∈ gw := gw_s (k := 48) (q := (y_MD_closes, 37)) rfl rfl
theorem ms_49 : (Cond.selects R_MD y_MD_mirrorOf y_MD_mirrorOf : Cond) ∈ gw := gw_s (k := 49) (q := (y_MD_mirrorOf, 37)) rfl rfl
theorem ms_50 : (Cond.selects R_MD y_MD_classOf y_MD_classOf : Cond) ∈ gw := gw_s (k := 50) (q := (y_MD_classOf, 37)) rfl rfl
theorem ms_51 : (Cond.selects R_MD y_MD_resolveParagraph y_MD_resolveParagraph : Cond) ∈ gw := gw_s (k := 51) (q := (y_MD_resolveParagraph, 37)) rfl rfl
theorem ms_52 : (Cond.selects R_MD y_MD_matchOf y_MD_matchOf : Cond) ∈ gw := gw_s (k := 52) (q := (y_MD_matchOf, 37)) rfl rfl
theorem ms_53 : (Cond.selects R_MD y_MD_isRight y_MD_isRight : Cond) ∈ gw := gw_s (k := 53) (q := (y_MD_isRight, 37)) rfl rfl
theorem ms_54 : (Cond.selects R_MD y_MD_explicit y_MD_explicit : Cond) ∈ gw := gw_s (k := 54) (q := (y_MD_explicit, 37)) rfl rfl
theorem ms_55 : (Cond.selects R_MD y_MD_push y_MD_push : Cond) ∈ gw := gw_s (k := 55) (q := (y_MD_push, 37)) rfl rfl
theorem ms_56 : (Cond.selects R_MD y_MD_next y_MD_next : Cond) ∈ gw := gw_s (k := 56) (q := (y_MD_next, 37)) rfl rfl
theorem ms_57 : (Cond.selects R_MD y_MD_topLevel y_MD_topLevel : Cond) ∈ gw := gw_s (k := 57) (q := (y_MD_topLevel, 37)) rfl rfl
theorem ms_58 : (Cond.selects R_MD y_MD_settle y_MD_settle : Cond) ∈ gw := gw_s (k := 58) (q := (y_MD_settle, 37)) rfl rfl
theorem ms_59 : (Cond.selects R_MD y_MD_begins y_MD_begins : Cond) ∈ gw := gw_s (k := 59) (q := (y_MD_begins, 37)) rfl rfl
theorem ms_60 : (Cond.selects R_MD y_MD_leftBefore y_MD_leftBefore : Cond) ∈ gw := gw_s (k := 60) (q := (y_MD_leftBefore, 37)) rfl rfl
theorem ms_61 : (Cond.selects R_MD y_MD_makeSequence y_MD_makeSequence : Cond) ∈ gw := gw_s (k := 61) (q := (y_MD_makeSequence, 37)) rfl rfl
theorem ms_62 : (Cond.selects R_MD y_MD_addRun y_MD_addRun : Cond) ∈ gw := gw_s (k := 62) (q := (y_MD_addRun, 37)) rfl rfl
theorem ms_63 : (Cond.selects R_MD y_MD_leftFrom y_MD_leftFrom : Cond) ∈ gw := gw_s (k := 63) (q := (y_MD_leftFrom, 37)) rfl rfl
theorem ms_64 : (Cond.selects R_MD y_MD_resolveSequence y_MD_resolveSequence : Cond) ∈ gw := gw_s (k := 64) (q := (y_MD_resolveSequence, 37)) rfl rfl
theorem ms_65 : (Cond.selects R_MD y_MD_weak y_MD_weak : Cond) ∈ gw := gw_s (k := 65) (q := (y_MD_weak, 37)) rfl rfl
theorem ms_66 : (Cond.selects R_MD y_MD_kindAt y_MD_kindAt : Cond) ∈ gw := gw_s (k := 66) (q := (y_MD_kindAt, 37)) rfl rfl
theorem ms_67 : (Cond.selects R_MD y_MD_put y_MD_put : Cond) ∈ gw := gw_s (k := 67) (q := (y_MD_put, 37)) rfl rfl
theorem ms_68 : (Cond.selects R_MD y_MD_strongBefore y_MD_strongBefore : Cond) ∈ gw := gw_s (k := 68) (q := (y_MD_strongBefore, 37)) rfl rfl
theorem ms_69 : (Cond.selects R_MD y_MD_isBesideNumber y_MD_isBesideNumber : Cond) ∈ gw := gw_s (k := 69) (q := (y_MD_isBesideNumber, 37)) rfl rfl
theorem ms_70 : (Cond.selects R_MD y_MD_pairs y_MD_pairs : Cond) ∈ gw := gw_s (k := 70) (q := (y_MD_pairs, 37)) rfl rfl
theorem ms_71 : (Cond.selects R_MD y_MD_findPairs y_MD_findPairs : Cond) ∈ gw := gw_s (k := 71) (q := (y_MD_findPairs, 37)) rfl rfl
theorem ms_72 : (Cond.selects R_MD y_MD_closePair y_MD_closePair : Cond) ∈ gw := gw_s (k := 72) (q := (y_MD_closePair, 37)) rfl rfl
theorem ms_73 : (Cond.selects R_MD y_MD_sideBefore y_MD_sideBefore : Cond) ∈ gw := gw_s (k := 73) (q := (y_MD_sideBefore, 37)) rfl rfl
theorem ms_74 : (Cond.selects R_MD y_MD_give y_MD_give : Cond) ∈ gw := gw_s (k := 74) (q := (y_MD_give, 37)) rfl rfl
theorem ms_75 : (Cond.selects R_MD y_MD_neutrals y_MD_neutrals : Cond) ∈ gw := gw_s (k := 75) (q := (y_MD_neutrals, 37)) rfl rfl
theorem ms_76 : (Cond.selects R_MD y_MD_raise y_MD_raise : Cond) ∈ gw := gw_s (k := 76) (q := (y_MD_raise, 37)) rfl rfl
theorem ms_77 : (Cond.selects R_MD y_MD_isWrong y_MD_isWrong : Cond) ∈ gw := gw_s (k := 77) (q := (y_MD_isWrong, 37)) rfl rfl
theorem ms_78 : (Cond.selects R_MD y_MD_partOf y_MD_partOf : Cond) ∈ gw := gw_s (k := 78) (q := (y_MD_partOf, 37)) rfl rfl
theorem ms_79 : (Cond.selects R_MD y_MD_isBlankEnd y_MD_isBlankEnd : Cond) ∈ gw := gw_s (k := 79) (q := (y_MD_isBlankEnd, 37)) rfl rfl
theorem ms_80 : (Cond.selects R_MD y_MD_turnAll y_MD_turnAll : Cond) ∈ gw := gw_s (k := 80) (q := (y_MD_turnAll, 37)) rfl rfl
theorem ms_81 : (Cond.selects R_MD y_MD_turn y_MD_turn : Cond) ∈ gw := gw_s (k := 81) (q := (y_MD_turn, 37)) rfl rfl
theorem i_TX : ∀ w ∈ u_ws R_TX F_TX 10, w ∈ gw := List.forall_mem_cons.mpr ⟨m1_68, List.forall_mem_cons.mpr ⟨m1_70, List.forall_mem_cons.mpr ⟨m1_72, List.forall_mem_cons.mpr ⟨m1_74, List.forall_mem_cons.mpr ⟨m1_76, List.forall_mem_cons.mpr ⟨m1_78, List.forall_mem_cons.mpr ⟨m1_80, List.forall_mem_cons.mpr ⟨m1_82, List.forall_mem_cons.mpr ⟨m1_84, List.forall_mem_cons.mpr ⟨m1_86, fun _ h => absurd h List.not_mem_nil⟩⟩⟩⟩⟩⟩⟩⟩⟩⟩
theorem i_PR : ∀ w ∈ u_ws R_PR F_PR 3, w ∈ gw := List.forall_mem_cons.mpr ⟨m1_100, List.forall_mem_cons.mpr ⟨m1_102, List.forall_mem_cons.mpr ⟨m1_104, fun _ h => absurd h List.not_mem_nil⟩⟩⟩
theorem i_IS : ∀ w ∈ u_ws R_IS F_IS 2, w ∈ gw := List.forall_mem_cons.mpr ⟨m1_121, List.forall_mem_cons.mpr ⟨m1_123, fun _ h => absurd h List.not_mem_nil⟩⟩
theorem i_EX : ∀ w ∈ u_ws R_EX F_EX 9, w ∈ gw := List.forall_mem_cons.mpr ⟨m1_141, List.forall_mem_cons.mpr ⟨m1_143, List.forall_mem_cons.mpr ⟨m1_145, List.forall_mem_cons.mpr ⟨m1_147, List.forall_mem_cons.mpr ⟨m1_149, List.forall_mem_cons.mpr ⟨m1_151, List.forall_mem_cons.mpr ⟨m1_153, List.forall_mem_cons.mpr ⟨m1_155, List.forall_mem_cons.mpr ⟨m1_157, fun _ h => absurd h List.not_mem_nil⟩⟩⟩⟩⟩⟩⟩⟩⟩
theorem i_RU : ∀ w ∈ u_ws R_RU F_RU 7, w ∈ gw := List.forall_mem_cons.mpr ⟨m1_175, List.forall_mem_cons.mpr ⟨m1_177, List.forall_mem_cons.mpr ⟨m1_179, List.forall_mem_cons.mpr ⟨m1_181, List.forall_mem_cons.mpr ⟨m1_183, List.forall_mem_cons.mpr ⟨m1_185, List.forall_mem_cons.mpr ⟨m1_187, fun _ h => absurd h List.not_mem_nil⟩⟩⟩⟩⟩⟩⟩
theorem i_SQ : ∀ w ∈ u_ws R_SQ F_SQ 7, w ∈ gw := List.forall_mem_cons.mpr ⟨m1_214, List.forall_mem_cons.mpr ⟨m1_216, List.forall_mem_cons.mpr ⟨m1_218, List.forall_mem_cons.mpr ⟨m1_220, List.forall_mem_cons.mpr ⟨m1_222, List.forall_mem_cons.mpr ⟨m1_224, List.forall_mem_cons.mpr ⟨m1_226, fun _ h => absurd h List.not_mem_nil⟩⟩⟩⟩⟩⟩⟩
theorem i_WK : ∀ w ∈ u_ws R_WK F_WK 2, w ∈ gw := List.forall_mem_cons.mpr ⟨m1_237, List.forall_mem_cons.mpr ⟨m1_239, fun _ h => absurd h List.not_mem_nil⟩⟩
theorem i_BR : ∀ w ∈ u_ws R_BR F_BR 7, w ∈ gw := List.forall_mem_cons.mpr ⟨m2_15, List.forall_mem_cons.mpr ⟨m2_17, List.forall_mem_cons.mpr ⟨m2_19, List.forall_mem_cons.mpr ⟨m2_21, List.forall_mem_cons.mpr ⟨m2_23, List.forall_mem_cons.mpr ⟨m2_25, List.forall_mem_cons.mpr ⟨m2_27, fun _ h => absurd h List.not_mem_nil⟩⟩⟩⟩⟩⟩⟩
theorem i_LN : ∀ w ∈ u_ws R_LN F_LN 5, w ∈ gw := List.forall_mem_cons.mpr ⟨m2_87, List.forall_mem_cons.mpr ⟨m2_89, List.forall_mem_cons.mpr ⟨m2_91, List.forall_mem_cons.mpr ⟨m2_93, List.forall_mem_cons.mpr ⟨m2_95, fun _ h => absurd h List.not_mem_nil⟩⟩⟩⟩⟩
theorem i_RS : ∀ w ∈ u_ws R_RS F_RS 12, w ∈ gw := List.forall_mem_cons.mpr ⟨m2_47, List.forall_mem_cons.mpr ⟨m2_49, List.forall_mem_cons.mpr ⟨m2_51, List.forall_mem_cons.mpr ⟨m2_53, List.forall_mem_cons.mpr ⟨m2_55, List.forall_mem_cons.mpr ⟨m2_57, List.forall_mem_cons.mpr ⟨m2_59, List.forall_mem_cons.mpr ⟨m2_61, List.forall_mem_cons.mpr ⟨m2_63, List.forall_mem_cons.mpr ⟨m2_65, List.forall_mem_cons.mpr ⟨m2_67, List.forall_mem_cons.mpr ⟨m2_69, fun _ h => absurd h List.not_mem_nil⟩⟩⟩⟩⟩⟩⟩⟩⟩⟩⟩⟩
theorem i_BL : ∀ w ∈ u_ws R_BL F_BL 7, w ∈ gw := List.forall_mem_cons.mpr ⟨m2_105, List.forall_mem_cons.mpr ⟨m2_107, List.forall_mem_cons.mpr ⟨m2_109, List.forall_mem_cons.mpr ⟨m2_111, List.forall_mem_cons.mpr ⟨m2_113, List.forall_mem_cons.mpr ⟨m2_115, List.forall_mem_cons.mpr ⟨m2_117, fun _ h => absurd h List.not_mem_nil⟩⟩⟩⟩⟩⟩⟩
theorem i_MD : ∀ w ∈ u_ws R_MD F_MD 37, w ∈ gw := List.forall_mem_cons.mpr ⟨m4_209, List.forall_mem_cons.mpr ⟨m4_211, List.forall_mem_cons.mpr ⟨m4_213, List.forall_mem_cons.mpr ⟨m4_215, List.forall_mem_cons.mpr ⟨m4_217, List.forall_mem_cons.mpr ⟨m4_219, List.forall_mem_cons.mpr ⟨m4_221, List.forall_mem_cons.mpr ⟨m4_223, List.forall_mem_cons.mpr ⟨m4_225, List.forall_mem_cons.mpr ⟨m4_227, List.forall_mem_cons.mpr ⟨m4_229, List.forall_mem_cons.mpr ⟨m4_231, List.forall_mem_cons.mpr ⟨m4_233, List.forall_mem_cons.mpr ⟨m4_235, List.forall_mem_cons.mpr ⟨m4_237, List.forall_mem_cons.mpr ⟨m4_239, List.forall_mem_cons.mpr ⟨m5_1, List.forall_mem_cons.mpr ⟨m5_3, List.forall_mem_cons.mpr ⟨m5_5, List.forall_mem_cons.mpr ⟨m5_7, List.forall_mem_cons.mpr ⟨m5_9, List.forall_mem_cons.mpr ⟨m5_11, List.forall_mem_cons.mpr ⟨m5_13, List.forall_mem_cons.mpr ⟨m5_15, List.forall_mem_cons.mpr ⟨m5_17, List.forall_mem_cons.mpr ⟨m5_19, List.forall_mem_cons.mpr ⟨m5_21, List.forall_mem_cons.mpr ⟨m5_23, List.forall_mem_cons.mpr ⟨m5_25, List.forall_mem_cons.mpr ⟨m5_27, List.forall_mem_cons.mpr ⟨m5_29, List.forall_mem_cons.mpr ⟨m5_31, List.forall_mem_cons.mpr ⟨m5_33, List.forall_mem_cons.mpr ⟨m5_35, List.forall_mem_cons.mpr ⟨m5_37, List.forall_mem_cons.mpr ⟨m5_39, List.forall_mem_cons.mpr ⟨m5_41, fun _ h => absurd h List.not_mem_nil⟩⟩⟩⟩⟩⟩⟩⟩⟩⟩⟩⟩⟩⟩⟩⟩⟩⟩⟩⟩⟩⟩⟩⟩⟩⟩⟩⟩⟩⟩⟩⟩⟩⟩⟩⟩⟩
